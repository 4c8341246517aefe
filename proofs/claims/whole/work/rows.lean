section
-- ===== PART A: goes FIRST, ahead of the names: the tables' words, and 'selects' of the private methods out of them =====
/-- a private method of a class that the tables say can be made, by its rows of tables_1 -/
def lw_okq (q : MethodName × Nat) : Prop := (q.1.cls ≠ "java/lang/invoke/MethodHandle" ∧ q.1.cls ≠ "java/lang/invoke/VarHandle") ∧ Cond.instantiable q.1.cls q.2 ∈ tables_1 ∧ Cond.privateMethod q.1 ∈ tables_1 ∧ Cond.instanceMethod q.1 ∈ tables_1
theorem lw_p0 : lw_okq (⟨"JobTerminal$Terminal", "typeUnedited", "(I)Z"⟩, 5) := ⟨⟨by decide +kernel, by decide +kernel⟩, List.mem_of_getElem? (i := 38) (by decide +kernel), List.mem_of_getElem? (i := 241) (by decide +kernel), List.mem_of_getElem? (i := 242) (by decide +kernel)⟩
theorem lw_p1 : lw_okq (⟨"JobTerminal$NumberRow", "placeOf", "(I)I"⟩, 3) := ⟨⟨by decide +kernel, by decide +kernel⟩, List.mem_of_getElem? (i := 44) (by decide +kernel), List.mem_of_getElem? (i := 253) (by decide +kernel), List.mem_of_getElem? (i := 254) (by decide +kernel)⟩
theorem lw_p2 : lw_okq (⟨"JobTerminal$Terminal", "echo", "(I)V"⟩, 5) := ⟨⟨by decide +kernel, by decide +kernel⟩, List.mem_of_getElem? (i := 38) (by decide +kernel), List.mem_of_getElem? (i := 257) (by decide +kernel), List.mem_of_getElem? (i := 258) (by decide +kernel)⟩
theorem lw_p3 : lw_okq (⟨"JobTerminal$Terminal", "rubOut", "(I)V"⟩, 5) := ⟨⟨by decide +kernel, by decide +kernel⟩, List.mem_of_getElem? (i := 38) (by decide +kernel), List.mem_of_getElem? (i := 269) (by decide +kernel), List.mem_of_getElem? (i := 270) (by decide +kernel)⟩
theorem lw_p4 : lw_okq (⟨"JobTerminal$Terminal", "showRubbing", "()V"⟩, 5) := ⟨⟨by decide +kernel, by decide +kernel⟩, List.mem_of_getElem? (i := 38) (by decide +kernel), List.mem_of_getElem? (i := 277) (by decide +kernel), List.mem_of_getElem? (i := 278) (by decide +kernel)⟩
theorem lw_p5 : lw_okq (⟨"JobTerminal$Terminal", "endInput", "()Z"⟩, 5) := ⟨⟨by decide +kernel, by decide +kernel⟩, List.mem_of_getElem? (i := 38) (by decide +kernel), List.mem_of_getElem? (i := 281) (by decide +kernel), List.mem_of_getElem? (i := 282) (by decide +kernel)⟩
theorem lw_p6 : lw_okq (⟨"JobTerminal$Terminal", "queueEdit", "(I)Z"⟩, 5) := ⟨⟨by decide +kernel, by decide +kernel⟩, List.mem_of_getElem? (i := 38) (by decide +kernel), List.mem_of_getElem? (i := 285) (by decide +kernel), List.mem_of_getElem? (i := 286) (by decide +kernel)⟩
theorem lw_p7 : lw_okq (⟨"JobTerminal$Terminal", "endLine", "()Z"⟩, 5) := ⟨⟨by decide +kernel, by decide +kernel⟩, List.mem_of_getElem? (i := 38) (by decide +kernel), List.mem_of_getElem? (i := 293) (by decide +kernel), List.mem_of_getElem? (i := 294) (by decide +kernel)⟩
theorem lw_p8 : lw_okq (⟨"JobTerminal$Terminal", "addToEdit", "(I)Z"⟩, 5) := ⟨⟨by decide +kernel, by decide +kernel⟩, List.mem_of_getElem? (i := 38) (by decide +kernel), List.mem_of_getElem? (i := 297) (by decide +kernel), List.mem_of_getElem? (i := 298) (by decide +kernel)⟩
theorem lw_p9 : lw_okq (⟨"JobTerminal$JobProcess", "actOnPending", "()V"⟩, 10) := ⟨⟨by decide +kernel, by decide +kernel⟩, List.mem_of_getElem? (i := 104) (by decide +kernel), List.mem_of_getElem? (i := 309) (by decide +kernel), List.mem_of_getElem? (i := 310) (by decide +kernel)⟩
theorem lw_p10 : lw_okq (⟨"JobTerminal$JobProcess", "act", "(I)V"⟩, 10) := ⟨⟨by decide +kernel, by decide +kernel⟩, List.mem_of_getElem? (i := 104) (by decide +kernel), List.mem_of_getElem? (i := 313) (by decide +kernel), List.mem_of_getElem? (i := 314) (by decide +kernel)⟩
theorem lw_p11 : lw_okq (⟨"JobTerminal", "settleAll", "()V"⟩, 6) := ⟨⟨by decide +kernel, by decide +kernel⟩, List.mem_of_getElem? (i := 16) (by decide +kernel), List.mem_of_getElem? (i := 325) (by decide +kernel), List.mem_of_getElem? (i := 326) (by decide +kernel)⟩
theorem lw_p12 : lw_okq (⟨"JobTerminal", "settle", "(LJobTerminal$Job;)V"⟩, 6) := ⟨⟨by decide +kernel, by decide +kernel⟩, List.mem_of_getElem? (i := 16) (by decide +kernel), List.mem_of_getElem? (i := 329) (by decide +kernel), List.mem_of_getElem? (i := 330) (by decide +kernel)⟩
theorem lw_p13 : lw_okq (⟨"JobTerminal", "tell", "(LJobTerminal$Job;)I"⟩, 6) := ⟨⟨by decide +kernel, by decide +kernel⟩, List.mem_of_getElem? (i := 16) (by decide +kernel), List.mem_of_getElem? (i := 348) (by decide +kernel), List.mem_of_getElem? (i := 349) (by decide +kernel)⟩
theorem lw_p14 : lw_okq (⟨"JobTerminal", "nextToGo", "()LJobTerminal$JobProcess;"⟩, 6) := ⟨⟨by decide +kernel, by decide +kernel⟩, List.mem_of_getElem? (i := 16) (by decide +kernel), List.mem_of_getElem? (i := 364) (by decide +kernel), List.mem_of_getElem? (i := 365) (by decide +kernel)⟩
theorem lw_p15 : lw_okq (⟨"JobTerminal", "canGoOn", "(LJobTerminal$JobProcess;)Z"⟩, 6) := ⟨⟨by decide +kernel, by decide +kernel⟩, List.mem_of_getElem? (i := 16) (by decide +kernel), List.mem_of_getElem? (i := 368) (by decide +kernel), List.mem_of_getElem? (i := 369) (by decide +kernel)⟩
def lw_privs_1 : List (MethodName × Nat) := [(⟨"JobTerminal$Terminal", "typeUnedited", "(I)Z"⟩, 5), (⟨"JobTerminal$NumberRow", "placeOf", "(I)I"⟩, 3), (⟨"JobTerminal$Terminal", "echo", "(I)V"⟩, 5), (⟨"JobTerminal$Terminal", "rubOut", "(I)V"⟩, 5), (⟨"JobTerminal$Terminal", "showRubbing", "()V"⟩, 5), (⟨"JobTerminal$Terminal", "endInput", "()Z"⟩, 5), (⟨"JobTerminal$Terminal", "queueEdit", "(I)Z"⟩, 5), (⟨"JobTerminal$Terminal", "endLine", "()Z"⟩, 5), (⟨"JobTerminal$Terminal", "addToEdit", "(I)Z"⟩, 5), (⟨"JobTerminal$JobProcess", "actOnPending", "()V"⟩, 10), (⟨"JobTerminal$JobProcess", "act", "(I)V"⟩, 10), (⟨"JobTerminal", "settleAll", "()V"⟩, 6), (⟨"JobTerminal", "settle", "(LJobTerminal$Job;)V"⟩, 6), (⟨"JobTerminal", "tell", "(LJobTerminal$Job;)I"⟩, 6), (⟨"JobTerminal", "nextToGo", "()LJobTerminal$JobProcess;"⟩, 6), (⟨"JobTerminal", "canGoOn", "(LJobTerminal$JobProcess;)Z"⟩, 6)]
theorem lw_r1 : ∀ q ∈ lw_privs_1, lw_okq q := List.forall_mem_cons.mpr ⟨lw_p0, List.forall_mem_cons.mpr ⟨lw_p1, List.forall_mem_cons.mpr ⟨lw_p2, List.forall_mem_cons.mpr ⟨lw_p3, List.forall_mem_cons.mpr ⟨lw_p4, List.forall_mem_cons.mpr ⟨lw_p5, List.forall_mem_cons.mpr ⟨lw_p6, List.forall_mem_cons.mpr ⟨lw_p7, List.forall_mem_cons.mpr ⟨lw_p8, List.forall_mem_cons.mpr ⟨lw_p9, List.forall_mem_cons.mpr ⟨lw_p10, List.forall_mem_cons.mpr ⟨lw_p11, List.forall_mem_cons.mpr ⟨lw_p12, List.forall_mem_cons.mpr ⟨lw_p13, List.forall_mem_cons.mpr ⟨lw_p14, List.forall_mem_cons.mpr ⟨lw_p15, fun _ h => absurd h List.not_mem_nil⟩⟩⟩⟩⟩⟩⟩⟩⟩⟩⟩⟩⟩⟩⟩⟩
theorem lw_p16 : lw_okq (⟨"JobTerminal", "canRead", "(LJobTerminal$JobProcess;)Z"⟩, 6) := ⟨⟨by decide +kernel, by decide +kernel⟩, List.mem_of_getElem? (i := 16) (by decide +kernel), List.mem_of_getElem? (i := 376) (by decide +kernel), List.mem_of_getElem? (i := 377) (by decide +kernel)⟩
theorem lw_p17 : lw_okq (⟨"JobTerminal", "canWrite", "(LJobTerminal$JobProcess;)Z"⟩, 6) := ⟨⟨by decide +kernel, by decide +kernel⟩, List.mem_of_getElem? (i := 16) (by decide +kernel), List.mem_of_getElem? (i := 388) (by decide +kernel), List.mem_of_getElem? (i := 389) (by decide +kernel)⟩
theorem lw_p18 : lw_okq (⟨"JobTerminal", "runLine", "(LJobTerminal$JobProcess;)Z"⟩, 6) := ⟨⟨by decide +kernel, by decide +kernel⟩, List.mem_of_getElem? (i := 16) (by decide +kernel), List.mem_of_getElem? (i := 401) (by decide +kernel), List.mem_of_getElem? (i := 402) (by decide +kernel)⟩
theorem lw_p19 : lw_okq (⟨"JobTerminal", "read", "(LJobTerminal$JobProcess;)Z"⟩, 6) := ⟨⟨by decide +kernel, by decide +kernel⟩, List.mem_of_getElem? (i := 16) (by decide +kernel), List.mem_of_getElem? (i := 409) (by decide +kernel), List.mem_of_getElem? (i := 410) (by decide +kernel)⟩
theorem lw_p20 : lw_okq (⟨"JobTerminal", "write", "(LJobTerminal$JobProcess;I)Z"⟩, 6) := ⟨⟨by decide +kernel, by decide +kernel⟩, List.mem_of_getElem? (i := 16) (by decide +kernel), List.mem_of_getElem? (i := 426) (by decide +kernel), List.mem_of_getElem? (i := 427) (by decide +kernel)⟩
theorem lw_p21 : lw_okq (⟨"JobTerminal", "findJob", "(I)LJobTerminal$Job;"⟩, 6) := ⟨⟨by decide +kernel, by decide +kernel⟩, List.mem_of_getElem? (i := 16) (by decide +kernel), List.mem_of_getElem? (i := 466) (by decide +kernel), List.mem_of_getElem? (i := 467) (by decide +kernel)⟩
theorem lw_p22 : lw_okq (⟨"java/lang/Throwable", "fillInStackTrace", "(I)Ljava/lang/Throwable;"⟩, 6) := ⟨⟨by decide +kernel, by decide +kernel⟩, List.mem_of_getElem? (i := 540) (by decide +kernel), List.mem_of_getElem? (i := 538) (by decide +kernel), List.mem_of_getElem? (i := 539) (by decide +kernel)⟩
theorem lw_p23 : lw_okq (⟨"JobTerminal", "unusedJob", "()LJobTerminal$Job;"⟩, 6) := ⟨⟨by decide +kernel, by decide +kernel⟩, List.mem_of_getElem? (i := 16) (by decide +kernel), List.mem_of_getElem? (i := 586) (by decide +kernel), List.mem_of_getElem? (i := 587) (by decide +kernel)⟩
theorem lw_p24 : lw_okq (⟨"JobTerminal", "freeProcess", "(I)LJobTerminal$JobProcess;"⟩, 6) := ⟨⟨by decide +kernel, by decide +kernel⟩, List.mem_of_getElem? (i := 16) (by decide +kernel), List.mem_of_getElem? (i := 590) (by decide +kernel), List.mem_of_getElem? (i := 591) (by decide +kernel)⟩
theorem lw_p25 : lw_okq (⟨"JobTerminal", "sendAndSettle", "(LJobTerminal$Job;I)I"⟩, 6) := ⟨⟨by decide +kernel, by decide +kernel⟩, List.mem_of_getElem? (i := 16) (by decide +kernel), List.mem_of_getElem? (i := 614) (by decide +kernel), List.mem_of_getElem? (i := 615) (by decide +kernel)⟩
theorem lw_p26 : lw_okq (⟨"JobTerminalModel", "flagged", "(I)Z"⟩, 31) := ⟨⟨by decide +kernel, by decide +kernel⟩, List.mem_of_getElem? (i := 633) (by decide +kernel), List.mem_of_getElem? (i := 742) (by decide +kernel), List.mem_of_getElem? (i := 743) (by decide +kernel)⟩
theorem lw_p27 : lw_okq (⟨"JobTerminalModel", "sendJob", "(II)V"⟩, 31) := ⟨⟨by decide +kernel, by decide +kernel⟩, List.mem_of_getElem? (i := 633) (by decide +kernel), List.mem_of_getElem? (i := 746) (by decide +kernel), List.mem_of_getElem? (i := 747) (by decide +kernel)⟩
theorem lw_p28 : lw_okq (⟨"JobTerminalModel", "sendTo", "(II)V"⟩, 31) := ⟨⟨by decide +kernel, by decide +kernel⟩, List.mem_of_getElem? (i := 633) (by decide +kernel), List.mem_of_getElem? (i := 750) (by decide +kernel), List.mem_of_getElem? (i := 751) (by decide +kernel)⟩
theorem lw_p29 : lw_okq (⟨"JobTerminalModel", "actPending", "(I)V"⟩, 31) := ⟨⟨by decide +kernel, by decide +kernel⟩, List.mem_of_getElem? (i := 633) (by decide +kernel), List.mem_of_getElem? (i := 754) (by decide +kernel), List.mem_of_getElem? (i := 755) (by decide +kernel)⟩
theorem lw_p30 : lw_okq (⟨"JobTerminalModel", "act", "(II)V"⟩, 31) := ⟨⟨by decide +kernel, by decide +kernel⟩, List.mem_of_getElem? (i := 633) (by decide +kernel), List.mem_of_getElem? (i := 761) (by decide +kernel), List.mem_of_getElem? (i := 762) (by decide +kernel)⟩
theorem lw_p31 : lw_okq (⟨"JobTerminalModel", "echo", "(I)V"⟩, 31) := ⟨⟨by decide +kernel, by decide +kernel⟩, List.mem_of_getElem? (i := 633) (by decide +kernel), List.mem_of_getElem? (i := 765) (by decide +kernel), List.mem_of_getElem? (i := 766) (by decide +kernel)⟩
def lw_privs_2 : List (MethodName × Nat) := [(⟨"JobTerminal", "canRead", "(LJobTerminal$JobProcess;)Z"⟩, 6), (⟨"JobTerminal", "canWrite", "(LJobTerminal$JobProcess;)Z"⟩, 6), (⟨"JobTerminal", "runLine", "(LJobTerminal$JobProcess;)Z"⟩, 6), (⟨"JobTerminal", "read", "(LJobTerminal$JobProcess;)Z"⟩, 6), (⟨"JobTerminal", "write", "(LJobTerminal$JobProcess;I)Z"⟩, 6), (⟨"JobTerminal", "findJob", "(I)LJobTerminal$Job;"⟩, 6), (⟨"java/lang/Throwable", "fillInStackTrace", "(I)Ljava/lang/Throwable;"⟩, 6), (⟨"JobTerminal", "unusedJob", "()LJobTerminal$Job;"⟩, 6), (⟨"JobTerminal", "freeProcess", "(I)LJobTerminal$JobProcess;"⟩, 6), (⟨"JobTerminal", "sendAndSettle", "(LJobTerminal$Job;I)I"⟩, 6), (⟨"JobTerminalModel", "flagged", "(I)Z"⟩, 31), (⟨"JobTerminalModel", "sendJob", "(II)V"⟩, 31), (⟨"JobTerminalModel", "sendTo", "(II)V"⟩, 31), (⟨"JobTerminalModel", "actPending", "(I)V"⟩, 31), (⟨"JobTerminalModel", "act", "(II)V"⟩, 31), (⟨"JobTerminalModel", "echo", "(I)V"⟩, 31)]
theorem lw_r2 : ∀ q ∈ lw_privs_2, lw_okq q := List.forall_mem_cons.mpr ⟨lw_p16, List.forall_mem_cons.mpr ⟨lw_p17, List.forall_mem_cons.mpr ⟨lw_p18, List.forall_mem_cons.mpr ⟨lw_p19, List.forall_mem_cons.mpr ⟨lw_p20, List.forall_mem_cons.mpr ⟨lw_p21, List.forall_mem_cons.mpr ⟨lw_p22, List.forall_mem_cons.mpr ⟨lw_p23, List.forall_mem_cons.mpr ⟨lw_p24, List.forall_mem_cons.mpr ⟨lw_p25, List.forall_mem_cons.mpr ⟨lw_p26, List.forall_mem_cons.mpr ⟨lw_p27, List.forall_mem_cons.mpr ⟨lw_p28, List.forall_mem_cons.mpr ⟨lw_p29, List.forall_mem_cons.mpr ⟨lw_p30, List.forall_mem_cons.mpr ⟨lw_p31, fun _ h => absurd h List.not_mem_nil⟩⟩⟩⟩⟩⟩⟩⟩⟩⟩⟩⟩⟩⟩⟩⟩
theorem lw_p32 : lw_okq (⟨"JobTerminalModel", "show", "(I)V"⟩, 31) := ⟨⟨by decide +kernel, by decide +kernel⟩, List.mem_of_getElem? (i := 633) (by decide +kernel), List.mem_of_getElem? (i := 769) (by decide +kernel), List.mem_of_getElem? (i := 770) (by decide +kernel)⟩
theorem lw_p33 : lw_okq (⟨"JobTerminalModel", "put", "(I)V"⟩, 31) := ⟨⟨by decide +kernel, by decide +kernel⟩, List.mem_of_getElem? (i := 633) (by decide +kernel), List.mem_of_getElem? (i := 773) (by decide +kernel), List.mem_of_getElem? (i := 774) (by decide +kernel)⟩
theorem lw_p34 : lw_okq (⟨"JobTerminalModel", "keyOfLine", "(I)Z"⟩, 31) := ⟨⟨by decide +kernel, by decide +kernel⟩, List.mem_of_getElem? (i := 633) (by decide +kernel), List.mem_of_getElem? (i := 777) (by decide +kernel), List.mem_of_getElem? (i := 778) (by decide +kernel)⟩
theorem lw_p35 : lw_okq (⟨"JobTerminalModel", "rubOut", "()V"⟩, 31) := ⟨⟨by decide +kernel, by decide +kernel⟩, List.mem_of_getElem? (i := 633) (by decide +kernel), List.mem_of_getElem? (i := 781) (by decide +kernel), List.mem_of_getElem? (i := 782) (by decide +kernel)⟩
theorem lw_p36 : lw_okq (⟨"JobTerminalModel", "enter", "(II)Z"⟩, 31) := ⟨⟨by decide +kernel, by decide +kernel⟩, List.mem_of_getElem? (i := 633) (by decide +kernel), List.mem_of_getElem? (i := 785) (by decide +kernel), List.mem_of_getElem? (i := 786) (by decide +kernel)⟩
theorem lw_p37 : lw_okq (⟨"JobTerminalModel", "compare", "()V"⟩, 31) := ⟨⟨by decide +kernel, by decide +kernel⟩, List.mem_of_getElem? (i := 633) (by decide +kernel), List.mem_of_getElem? (i := 789) (by decide +kernel), List.mem_of_getElem? (i := 790) (by decide +kernel)⟩
theorem lw_p38 : lw_okq (⟨"JobTerminalModel", "stateOf", "(I)I"⟩, 31) := ⟨⟨by decide +kernel, by decide +kernel⟩, List.mem_of_getElem? (i := 633) (by decide +kernel), List.mem_of_getElem? (i := 793) (by decide +kernel), List.mem_of_getElem? (i := 794) (by decide +kernel)⟩
theorem lw_p39 : lw_okq (⟨"JobTerminalModel", "begin", "(II)I"⟩, 31) := ⟨⟨by decide +kernel, by decide +kernel⟩, List.mem_of_getElem? (i := 633) (by decide +kernel), List.mem_of_getElem? (i := 809) (by decide +kernel), List.mem_of_getElem? (i := 810) (by decide +kernel)⟩
theorem lw_p40 : lw_okq (⟨"JobTerminalModel", "isJob", "(I)Z"⟩, 31) := ⟨⟨by decide +kernel, by decide +kernel⟩, List.mem_of_getElem? (i := 633) (by decide +kernel), List.mem_of_getElem? (i := 817) (by decide +kernel), List.mem_of_getElem? (i := 818) (by decide +kernel)⟩
theorem lw_p41 : lw_okq (⟨"JobTerminalModel", "goOn", "(I)I"⟩, 31) := ⟨⟨by decide +kernel, by decide +kernel⟩, List.mem_of_getElem? (i := 633) (by decide +kernel), List.mem_of_getElem? (i := 821) (by decide +kernel), List.mem_of_getElem? (i := 822) (by decide +kernel)⟩
theorem lw_p42 : lw_okq (⟨"JobTerminalModel", "canGoOn", "(I)Z"⟩, 31) := ⟨⟨by decide +kernel, by decide +kernel⟩, List.mem_of_getElem? (i := 633) (by decide +kernel), List.mem_of_getElem? (i := 845) (by decide +kernel), List.mem_of_getElem? (i := 846) (by decide +kernel)⟩
theorem lw_p43 : lw_okq (⟨"JobTerminalModel", "opOf", "(I)I"⟩, 31) := ⟨⟨by decide +kernel, by decide +kernel⟩, List.mem_of_getElem? (i := 633) (by decide +kernel), List.mem_of_getElem? (i := 849) (by decide +kernel), List.mem_of_getElem? (i := 850) (by decide +kernel)⟩
theorem lw_p44 : lw_okq (⟨"JobTerminalModel", "readsPipe", "(I)Z"⟩, 31) := ⟨⟨by decide +kernel, by decide +kernel⟩, List.mem_of_getElem? (i := 633) (by decide +kernel), List.mem_of_getElem? (i := 853) (by decide +kernel), List.mem_of_getElem? (i := 854) (by decide +kernel)⟩
theorem lw_p45 : lw_okq (⟨"JobTerminalModel", "writes", "(I)Z"⟩, 31) := ⟨⟨by decide +kernel, by decide +kernel⟩, List.mem_of_getElem? (i := 633) (by decide +kernel), List.mem_of_getElem? (i := 857) (by decide +kernel), List.mem_of_getElem? (i := 858) (by decide +kernel)⟩
theorem lw_p46 : lw_okq (⟨"JobTerminalModel", "writesPipe", "(I)Z"⟩, 31) := ⟨⟨by decide +kernel, by decide +kernel⟩, List.mem_of_getElem? (i := 633) (by decide +kernel), List.mem_of_getElem? (i := 861) (by decide +kernel), List.mem_of_getElem? (i := 862) (by decide +kernel)⟩
theorem lw_p47 : lw_okq (⟨"JobTerminalModel", "perform", "(I)V"⟩, 31) := ⟨⟨by decide +kernel, by decide +kernel⟩, List.mem_of_getElem? (i := 633) (by decide +kernel), List.mem_of_getElem? (i := 865) (by decide +kernel), List.mem_of_getElem? (i := 866) (by decide +kernel)⟩
def lw_privs_3 : List (MethodName × Nat) := [(⟨"JobTerminalModel", "show", "(I)V"⟩, 31), (⟨"JobTerminalModel", "put", "(I)V"⟩, 31), (⟨"JobTerminalModel", "keyOfLine", "(I)Z"⟩, 31), (⟨"JobTerminalModel", "rubOut", "()V"⟩, 31), (⟨"JobTerminalModel", "enter", "(II)Z"⟩, 31), (⟨"JobTerminalModel", "compare", "()V"⟩, 31), (⟨"JobTerminalModel", "stateOf", "(I)I"⟩, 31), (⟨"JobTerminalModel", "begin", "(II)I"⟩, 31), (⟨"JobTerminalModel", "isJob", "(I)Z"⟩, 31), (⟨"JobTerminalModel", "goOn", "(I)I"⟩, 31), (⟨"JobTerminalModel", "canGoOn", "(I)Z"⟩, 31), (⟨"JobTerminalModel", "opOf", "(I)I"⟩, 31), (⟨"JobTerminalModel", "readsPipe", "(I)Z"⟩, 31), (⟨"JobTerminalModel", "writes", "(I)Z"⟩, 31), (⟨"JobTerminalModel", "writesPipe", "(I)Z"⟩, 31), (⟨"JobTerminalModel", "perform", "(I)V"⟩, 31)]
theorem lw_r3 : ∀ q ∈ lw_privs_3, lw_okq q := List.forall_mem_cons.mpr ⟨lw_p32, List.forall_mem_cons.mpr ⟨lw_p33, List.forall_mem_cons.mpr ⟨lw_p34, List.forall_mem_cons.mpr ⟨lw_p35, List.forall_mem_cons.mpr ⟨lw_p36, List.forall_mem_cons.mpr ⟨lw_p37, List.forall_mem_cons.mpr ⟨lw_p38, List.forall_mem_cons.mpr ⟨lw_p39, List.forall_mem_cons.mpr ⟨lw_p40, List.forall_mem_cons.mpr ⟨lw_p41, List.forall_mem_cons.mpr ⟨lw_p42, List.forall_mem_cons.mpr ⟨lw_p43, List.forall_mem_cons.mpr ⟨lw_p44, List.forall_mem_cons.mpr ⟨lw_p45, List.forall_mem_cons.mpr ⟨lw_p46, List.forall_mem_cons.mpr ⟨lw_p47, fun _ h => absurd h List.not_mem_nil⟩⟩⟩⟩⟩⟩⟩⟩⟩⟩⟩⟩⟩⟩⟩⟩
theorem lw_p48 : lw_okq (⟨"JobTerminalModel", "numberOf", "(I)I"⟩, 31) := ⟨⟨by decide +kernel, by decide +kernel⟩, List.mem_of_getElem? (i := 633) (by decide +kernel), List.mem_of_getElem? (i := 869) (by decide +kernel), List.mem_of_getElem? (i := 870) (by decide +kernel)⟩
theorem lw_p49 : lw_okq (⟨"JobTerminalModel", "read", "(I)V"⟩, 31) := ⟨⟨by decide +kernel, by decide +kernel⟩, List.mem_of_getElem? (i := 633) (by decide +kernel), List.mem_of_getElem? (i := 873) (by decide +kernel), List.mem_of_getElem? (i := 874) (by decide +kernel)⟩
theorem lw_p50 : lw_okq (⟨"JobTerminalModel", "fail", "(I)V"⟩, 31) := ⟨⟨by decide +kernel, by decide +kernel⟩, List.mem_of_getElem? (i := 633) (by decide +kernel), List.mem_of_getElem? (i := 877) (by decide +kernel), List.mem_of_getElem? (i := 878) (by decide +kernel)⟩
theorem lw_p51 : lw_okq (⟨"JobTerminalModel", "write", "(II)V"⟩, 31) := ⟨⟨by decide +kernel, by decide +kernel⟩, List.mem_of_getElem? (i := 633) (by decide +kernel), List.mem_of_getElem? (i := 881) (by decide +kernel), List.mem_of_getElem? (i := 882) (by decide +kernel)⟩
theorem lw_p52 : lw_okq (⟨"JobTerminalModel", "plain", "(III)V"⟩, 31) := ⟨⟨by decide +kernel, by decide +kernel⟩, List.mem_of_getElem? (i := 633) (by decide +kernel), List.mem_of_getElem? (i := 885) (by decide +kernel), List.mem_of_getElem? (i := 886) (by decide +kernel)⟩
def lw_privs_4 : List (MethodName × Nat) := [(⟨"JobTerminalModel", "numberOf", "(I)I"⟩, 31), (⟨"JobTerminalModel", "read", "(I)V"⟩, 31), (⟨"JobTerminalModel", "fail", "(I)V"⟩, 31), (⟨"JobTerminalModel", "write", "(II)V"⟩, 31), (⟨"JobTerminalModel", "plain", "(III)V"⟩, 31)]
theorem lw_r4 : ∀ q ∈ lw_privs_4, lw_okq q := List.forall_mem_cons.mpr ⟨lw_p48, List.forall_mem_cons.mpr ⟨lw_p49, List.forall_mem_cons.mpr ⟨lw_p50, List.forall_mem_cons.mpr ⟨lw_p51, List.forall_mem_cons.mpr ⟨lw_p52, fun _ h => absurd h List.not_mem_nil⟩⟩⟩⟩⟩
def lw_privs : List (MethodName × Nat) := lw_privs_1 ++ (lw_privs_2 ++ (lw_privs_3 ++ (lw_privs_4)))
def lw_tbl : List Cond := k2_sels lw_privs ++ tables_1
theorem lw_privs_ok : ∀ q ∈ lw_privs, lw_okq q := by
  show ∀ q ∈ lw_privs_1 ++ (lw_privs_2 ++ (lw_privs_3 ++ (lw_privs_4))), lw_okq q
  exact List.forall_mem_append.mpr ⟨lw_r1, List.forall_mem_append.mpr ⟨lw_r2, List.forall_mem_append.mpr ⟨lw_r3, lw_r4⟩⟩⟩
end
section
/-! BASE: states as tables of ints, references by code, guards, worlds as tables of cells, and rows over them -/
abbrev q_St : Type := Nat → Nat → Int32
def q_up (σ : q_St) (f i : Nat) (x : Int32) : q_St := fun g j => if g = f ∧ j = i then x else σ g j
theorem q_up_self (σ : q_St) (f i : Nat) (x : Int32) : q_up σ f i x f i = x := by simp [q_up]
theorem q_up_f {σ : q_St} {f g i j : Nat} {x : Int32} (h : g ≠ f) : q_up σ f i x g j = σ g j := by simp [q_up, h]
theorem q_up_i {σ : q_St} {f g i j : Nat} {x : Int32} (h : j ≠ i) : q_up σ f i x g j = σ g j := by simp [q_up, h]
theorem q_up_rowf {σ : q_St} {f g i : Nat} {x : Int32} (h : g ≠ f) : q_up σ f i x g = σ g := by funext j; simp [q_up, h]
theorem q_up_row (σ : q_St) (f i : Nat) (x : Int32) : q_up σ f i x f = upd (σ f) i x := by funext j; simp [q_up, upd]
def q_rfo (ad : Nat → Nat) (b : Nat) (v : Int32) : Option Nat := if v < 0 then none else some (ad (b + v.toNatClampNeg))
def q_rv (ad : Nat → Nat) (b : Nat) (v : Int32) : Value := va_rf (q_rfo ad b v)
def q_in (v : Int32) (n : Nat) : Bool := decide (¬ v < 0) && decide (v.toNatClampNeg < n)
def q_okn (v : Int32) (n : Nat) : Bool := decide (v = -1) || q_in v n
def q_isB (v : Int32) : Bool := decide (v = 0) || decide (v = 1)
def q_grd {α : Type} (b : Bool) (k : Option α) : Option α := if b = true then k else none
def q_bnd {α β : Type} (o : Option α) (k : α → Option β) : Option β := match o with
  | none => none
  | some a => k a
theorem q_grd_some {α : Type} {b : Bool} {k : Option α} {x : α} (h : q_grd b k = some x) : b = true ∧ k = some x := by
  unfold q_grd at h
  by_cases hb : b = true
  · rw [if_pos hb] at h; exact ⟨hb, h⟩
  · rw [if_neg hb] at h; cases h
theorem q_bnd_some {α β : Type} {o : Option α} {k : α → Option β} {x : β} (h : q_bnd o k = some x) : ∃ a, o = some a ∧ k a = some x := by
  cases o with
  | none => cases h
  | some a => exact ⟨a, rfl, h⟩
theorem q_grd_t {α : Type} {b : Bool} {k : Option α} (h : b = true) : q_grd b k = k := by rw [h]; rfl
theorem q_bnd_s {α β : Type} {o : Option α} {k : α → Option β} {a : α} (h : o = some a) : q_bnd o k = k a := by rw [h]; rfl
theorem q_in_pos {v : Int32} {n : Nat} (h : q_in v n = true) : ¬ v < 0 := by
  simp only [q_in, Bool.and_eq_true, decide_eq_true_eq] at h; exact h.1
theorem q_in_lt {v : Int32} {n : Nat} (h : q_in v n = true) : v.toNatClampNeg < n := by
  simp only [q_in, Bool.and_eq_true, decide_eq_true_eq] at h; exact h.2
theorem q_in_vp {v : Int32} {n : Nat} (h : q_in v n = true) : vp_in v n := by
  have h1 := q_in_pos h
  have h2 := q_in_lt h
  intro h3
  rcases h3 with h3 | h3
  · exact h1 h3
  · omega
theorem q_in_nI {i n : Nat} (h : i < n) (hn : n < 2 ^ 31) : q_in (nI i) n = true := by
  simp only [q_in, Bool.and_eq_true, decide_eq_true_eq]
  exact ⟨nI_pos (by omega), by rw [nI_clamp (by omega)]; exact h⟩
theorem q_of_in {v : Int32} {n : Nat} (h : q_in v n = true) (hn : n < 2 ^ 31) : ∃ j : Nat, j < n ∧ v = nI j := vp_in_of (q_in_vp h) hn
theorem q_rfo_s {ad : Nat → Nat} {b : Nat} {v : Int32} (h : ¬ v < 0) : q_rfo ad b v = some (ad (b + v.toNatClampNeg)) := if_neg h
theorem q_rfo_n {ad : Nat → Nat} {b : Nat} {v : Int32} (h : v < 0) : q_rfo ad b v = none := if_pos h
theorem q_rv_ref {ad : Nat → Nat} {b : Nat} {v : Int32} (h : ¬ v < 0) : q_rv ad b v = .ref (ad (b + v.toNatClampNeg)) := by
  unfold q_rv; rw [q_rfo_s h]; rfl
theorem q_rv_null {ad : Nat → Nat} {b : Nat} {v : Int32} (h : v < 0) : q_rv ad b v = .null := by
  unfold q_rv; rw [q_rfo_n h]; rfl
theorem q_rv_m1 {ad : Nat → Nat} {b : Nat} : q_rv ad b (-1) = .null := q_rv_null (by decide)
theorem q_rv_nI {ad : Nat → Nat} {b t : Nat} (h : t < 2 ^ 31) : q_rv ad b (nI t) = .ref (ad (b + t)) := by
  rw [q_rv_ref (nI_pos h), nI_clamp h]
def q_ws (N : Nat) (ad : Nat → Nat) (cel : Nat → va_E) : va_W := (List.range N).map (fun k => (ad k, cel k))
theorem q_ws_at {N : Nat} {ad : Nat → Nat} {cel : Nat → va_E} {k : Nat} (h : k < N) : (q_ws N ad cel)[k]? = some (ad k, cel k) := by
  unfold q_ws
  rw [List.getElem?_map, List.getElem?_range h]
  rfl
theorem q_ws_none {N : Nat} {ad : Nat → Nat} {cel : Nat → va_E} {k : Nat} (h : ¬ k < N) : (q_ws N ad cel)[k]? = none := by
  apply List.getElem?_eq_none
  simp [q_ws]; omega
theorem q_ws_set {N : Nat} {ad : Nat → Nat} {cel cel' : Nat → va_E} {k : Nat} {e : va_E} (h : k < N) (h1 : cel' k = e) (h2 : ∀ j, j ≠ k → cel' j = cel j) : (q_ws N ad cel).set k (ad k, e) = q_ws N ad cel' := by
  apply List.ext_getElem?
  intro j
  by_cases hj : j = k
  · subst hj
    rw [List.getElem?_set_self (by simp [q_ws]; exact h), q_ws_at h, h1]
  · rw [List.getElem?_set_ne (Ne.symm hj)]
    by_cases hl : j < N
    · rw [q_ws_at hl, q_ws_at hl, h2 j hj]
    · rw [q_ws_none hl, q_ws_none hl]
theorem q_inj {A : Nat → Prop} {N : Nat} {ad : Nat → Nat} {cel : Nat → va_E} (hD : va_D A (q_ws N ad cel)) {i j : Nat} (hi : i < N) (hj : j < N) (h : ad i = ad j) : i = j :=
  hD.1 i j _ _ (q_ws_at hi) (q_ws_at hj) h
theorem q_rfo_inj {A : Nat → Prop} {N : Nat} {ad : Nat → Nat} {cel : Nat → va_E} (hD : va_D A (q_ws N ad cel)) {b n : Nat} (hb : b + n ≤ N) (hn : n < 2 ^ 31) {v w : Int32} (hv : q_okn v n = true) (hw : q_okn w n = true) : q_rfo ad b v = q_rfo ad b w ↔ v = w := by
  simp only [q_okn, Bool.or_eq_true, decide_eq_true_eq] at hv hw
  constructor
  · intro h
    rcases hv with rfl | hv <;> rcases hw with rfl | hw
    · rfl
    · rw [q_rfo_n (by decide), q_rfo_s (q_in_pos hw)] at h; cases h
    · rw [q_rfo_n (v := -1) (by decide), q_rfo_s (q_in_pos hv)] at h; cases h
    · rw [q_rfo_s (q_in_pos hv), q_rfo_s (q_in_pos hw)] at h
      obtain ⟨i, hi, rfl⟩ := q_of_in hv hn
      obtain ⟨j, hj, rfl⟩ := q_of_in hw hn
      rw [nI_clamp (by omega), nI_clamp (by omega)] at h
      have := q_inj hD (by omega) (by omega) (Option.some.inj h)
      rw [show i = j by omega]
  · intro h; rw [h]
/-- the caller's, or the method's own, heap: its world ws, apart, and what has changed since H0 -/
def q_I (D : va_G) (cl : List vw_C) (A : Nat → Prop) (H0 : Heap) (ws : va_W) (H : Heap) (locs : List Loc) : Prop := va_P D cl ws H ∧ va_D A ws ∧ va_S A H0 H locs
section QREF
variable {p : Program} {l : Launch} {e : Env} {R : Room} {s : State} {m : MethodId} {args : Array Value} {below : List Frame} {meth : Method} {c : Code} {H : Heap} {locs : List Loc} {cells slots : Nat} {Q : State → Prop}
variable {cc : ByteArray} {pc : Nat} {ls : Array Slot} {rest : List Value} {ad : Nat → Nat}
theorem q_aload_n (hexec : p.tables.exec = Jvm.exec) (hb : c.code = cc) {k : Fin 4} {i b : Nat} {v : Int32} (hdg : decode cc pc = .ok (.aload_n k, 1)) (hi : (k : Nat) = i) (hl : ls[i]? = some (.val (q_rv ad b v)))
    (kk : W p l e R s m args below meth c H locs cells slots Q (F0 m (pc + 1) ls (q_rv ad b v :: rest))) : W p l e R s m args below meth c H locs cells slots Q (F0 m pc ls rest) := by
  by_cases h : v < 0
  · rw [q_rv_null h] at hl kk
    exact lv_aload_nN hexec hb hdg hi hl kk
  · rw [q_rv_ref h] at hl kk
    exact lv_aload_n hexec hb hdg hi hl kk
theorem q_aload (hexec : p.tables.exec = Jvm.exec) (hb : c.code = cc) {i b : Nat} {v : Int32} (hdg : decode cc pc = .ok (.aload i, 2)) (hl : ls[i]? = some (.val (q_rv ad b v)))
    (kk : W p l e R s m args below meth c H locs cells slots Q (F0 m (pc + 2) ls (q_rv ad b v :: rest))) : W p l e R s m args below meth c H locs cells slots Q (F0 m pc ls rest) := by
  by_cases h : v < 0
  · rw [q_rv_null h] at hl kk
    exact lv_aloadN hexec hb hdg hl kk
  · rw [q_rv_ref h] at hl kk
    exact lv_aload hexec hb hdg hl kk
theorem q_astore_n (hexec : p.tables.exec = Jvm.exec) (hb : c.code = cc) {k : Fin 4} {i nL b : Nat} {v : Int32} {lv lv' : List (Nat × Value)} (hdg : decode cc pc = .ok (.astore_n k, 1)) (hi : (k : Nat) = i) (h : lv_has ls nL lv) (hn : i < nL) (hl : (i, q_rv ad b v) :: lv.filter (fun q => !(q.1 == i) && !(q.1 + 1 == i && q.2.category == 2)) = lv')
    (kk : ∀ ls' : Array Slot, lv_has ls' nL lv' → W p l e R s m args below meth c H locs cells slots Q (F0 m (pc + 1) ls' rest)) : W p l e R s m args below meth c H locs cells slots Q (F0 m pc ls (q_rv ad b v :: rest)) := by
  by_cases hv : v < 0
  · rw [q_rv_null hv] at hl ⊢
    exact lv_astore_nN hexec hb hdg hi h hn hl kk
  · rw [q_rv_ref hv] at hl ⊢
    exact lv_astore_n hexec hb hdg hi h hn hl kk
theorem q_astore (hexec : p.tables.exec = Jvm.exec) (hb : c.code = cc) {i nL b : Nat} {v : Int32} {lv lv' : List (Nat × Value)} (hdg : decode cc pc = .ok (.astore i, 2)) (h : lv_has ls nL lv) (hn : i < nL) (hl : (i, q_rv ad b v) :: lv.filter (fun q => !(q.1 == i) && !(q.1 + 1 == i && q.2.category == 2)) = lv')
    (kk : ∀ ls' : Array Slot, lv_has ls' nL lv' → W p l e R s m args below meth c H locs cells slots Q (F0 m (pc + 2) ls' rest)) : W p l e R s m args below meth c H locs cells slots Q (F0 m pc ls (q_rv ad b v :: rest)) := by
  by_cases hv : v < 0
  · rw [q_rv_null hv] at hl ⊢
    exact lv_astoreN hexec hb hdg h hn hl kk
  · rw [q_rv_ref hv] at hl ⊢
    exact lv_astore hexec hb hdg h hn hl kk
theorem q_null (hexec : p.tables.exec = Jvm.exec) (hb : c.code = cc) (b : Nat) (hdg : decode cc pc = .ok (.aconst_null, 1)) (kk : W p l e R s m args below meth c H locs cells slots Q (F0 m (pc + 1) ls (q_rv ad b (-1) :: rest))) : W p l e R s m args below meth c H locs cells slots Q (F0 m pc ls rest) := by
  rw [q_rv_m1] at kk
  exact lv_null hexec hb hdg kk
theorem q_ifnull (hexec : p.tables.exec = Jvm.exec) (hb : c.code = cc) {b : Nat} {v : Int32} {off : Int} {tgt : Nat} (hdg : decode cc pc = .ok (.ifnull off, 3)) (ht : (pc : Int) + off = (tgt : Int))
    (kt : v < 0 → W p l e R s m args below meth c H locs cells slots Q (F0 m tgt ls rest)) (kf : ¬ v < 0 → W p l e R s m args below meth c H locs cells slots Q (F0 m (pc + 3) ls rest)) : W p l e R s m args below meth c H locs cells slots Q (F0 m pc ls (q_rv ad b v :: rest)) := by
  by_cases h : v < 0
  · rw [q_rv_null h]; exact lv_ifnullN hexec hb hdg ht (kt h)
  · rw [q_rv_ref h]; exact lv_ifnull hexec hb hdg (kf h)
theorem q_ifnonnull (hexec : p.tables.exec = Jvm.exec) (hb : c.code = cc) {b : Nat} {v : Int32} {off : Int} {tgt : Nat} (hdg : decode cc pc = .ok (.ifnonnull off, 3)) (ht : (pc : Int) + off = (tgt : Int))
    (kt : ¬ v < 0 → W p l e R s m args below meth c H locs cells slots Q (F0 m tgt ls rest)) (kf : v < 0 → W p l e R s m args below meth c H locs cells slots Q (F0 m (pc + 3) ls rest)) : W p l e R s m args below meth c H locs cells slots Q (F0 m pc ls (q_rv ad b v :: rest)) := by
  by_cases h : v < 0
  · rw [q_rv_null h]; exact lv_ifnonnullN hexec hb hdg (kf h)
  · rw [q_rv_ref h]; exact lv_ifnonnull hexec hb hdg ht (kt h)
theorem q_acmp_eq (hexec : p.tables.exec = Jvm.exec) (hb : c.code = cc) {A : Nat → Prop} {N b n : Nat} {cel : Nat → va_E} {v w : Int32} {off : Int} {tgt : Nat} (hD : va_D A (q_ws N ad cel)) (hbn : b + n ≤ N) (hn : n < 2 ^ 31) (hv : q_okn v n = true) (hw : q_okn w n = true) (hdg : decode cc pc = .ok (.if_acmp .eq off, 3)) (ht : (pc : Int) + off = (tgt : Int))
    (kt : v = w → W p l e R s m args below meth c H locs cells slots Q (F0 m tgt ls rest)) (kf : ¬ v = w → W p l e R s m args below meth c H locs cells slots Q (F0 m (pc + 3) ls rest)) : W p l e R s m args below meth c H locs cells slots Q (F0 m pc ls (q_rv ad b w :: q_rv ad b v :: rest)) :=
  lv_acmp_eq hexec hb hdg ht (fun h => kt ((q_rfo_inj hD hbn hn hv hw).mp h)) (fun h => kf (fun h2 => h ((q_rfo_inj hD hbn hn hv hw).mpr h2)))
theorem q_acmp_ne (hexec : p.tables.exec = Jvm.exec) (hb : c.code = cc) {A : Nat → Prop} {N b n : Nat} {cel : Nat → va_E} {v w : Int32} {off : Int} {tgt : Nat} (hD : va_D A (q_ws N ad cel)) (hbn : b + n ≤ N) (hn : n < 2 ^ 31) (hv : q_okn v n = true) (hw : q_okn w n = true) (hdg : decode cc pc = .ok (.if_acmp .ne off, 3)) (ht : (pc : Int) + off = (tgt : Int))
    (kt : ¬ v = w → W p l e R s m args below meth c H locs cells slots Q (F0 m tgt ls rest)) (kf : v = w → W p l e R s m args below meth c H locs cells slots Q (F0 m (pc + 3) ls rest)) : W p l e R s m args below meth c H locs cells slots Q (F0 m pc ls (q_rv ad b w :: q_rv ad b v :: rest)) :=
  lv_acmp_ne hexec hb hdg ht (fun h => kt (fun h2 => h ((q_rfo_inj hD hbn hn hv hw).mpr h2))) (fun h => kf ((q_rfo_inj hD hbn hn hv hw).mp h))
end QREF
def q_nwOk (nw : List Cond) : Prop := ∀ w ∈ nw, (∀ (s U : State), s.vm = U.vm → va_Nw w s → va_Nw w U) ∧ ∀ (s U : State), s.WarmedH U.vm → va_Nw w s → va_Nw w U
/-- a method's start: its world, the tables, the nest's words -/
def q_Pre (D : va_G) (cl : List vw_C) (tys : List (ClassId × FieldType)) (nw : List Cond) (av : List Value) (ws : va_W) (sz : Nat) : Array Value → State → Prop :=
  va_Pc av (fun U => U.heap.size = sz ∧ va_P D cl ws U.heap ∧ va_K D cl tys U ∧ va_D (fun _ => True) ws ∧ ∀ w ∈ nw, va_Nw w U)
theorem q_Pre_blind {D : va_G} {cl : List vw_C} {tys : List (ClassId × FieldType)} {nw : List Cond} {av : List Value} {ws : va_W} {sz : Nat} (hnw : q_nwOk nw) : FrameBlind (q_Pre D cl tys nw av ws sz) := by
  intro a U g mk h
  obtain ⟨q0, q1, qP, qK, qD, qN⟩ := h
  exact ⟨q0, q1, qP, va_K.moved (u := U) (U := U.calling g mk a) (Vm.Alike.refl U.vm) qK, qD, fun w hw => (hnw w hw).1 U (U.calling g mk a) rfl (qN w hw)⟩
theorem q_Pre_at {D : va_G} {cl : List vw_C} {tys : List (ClassId × FieldType)} {nw : List Cond} {av : List Value} {ws : va_W} {s U : State} {H : Heap} {A : Nat → Prop} (hnw : q_nwOk nw) (hK : va_K D cl tys s) (hN : ∀ w ∈ nw, va_Nw w s) (hP : va_P D cl ws H) (hD : va_D A ws) (hU : U.heap = H) (hW : s.WarmedH U.vm) : q_Pre D cl tys nw av ws H.size av.toArray U :=
  ⟨rfl, by rw [hU], by rw [hU]; exact hP, va_K.moved hW.alike hK, hD.weaken (fun _ _ _ _ => trivial), fun w hw => (hnw w hw).2 s U hW (hN w hw)⟩
/-- a method's end: its answer, its world -/
def q_Qi (D : va_G) (cl : List vw_C) (r0 : Int32) (ws' : va_W) (A : Nat → Prop) : Array Value → State → Outcome → State → Prop := va_Qi (fun r (_ : Unit) => r = r0) (fun _ t => va_P D cl ws' t.heap ∧ va_D A ws') A
def q_Qv (D : va_G) (cl : List vw_C) (ws' : va_W) (A : Nat → Prop) : Array Value → State → Outcome → State → Prop := va_Qv (fun (_ : Unit) => True) (fun _ t => va_P D cl ws' t.heap ∧ va_D A ws') A
def q_Qq (D : va_G) (cl : List vw_C) (r0 : Option Nat) (ws' : va_W) (A : Nat → Prop) : Array Value → State → Outcome → State → Prop := va_Qq (fun r (_ : Unit) => r = r0) (fun _ t => va_P D cl ws' t.heap ∧ va_D A ws') A
section QRUN
variable {p : Program} {l : Launch} {e : Env} {R : Room} {s : State} {m : MethodId} {args : Array Value} {below : List Frame} {meth : Method} {c : Code} {H H0 : Heap} {locs : List Loc} {cells slots : Nat} {Q : State → Prop}
variable {cc : ByteArray} {pc : Nat} {ls : Array Slot} {rest st0 : List Value} {D : va_G} {cl : List vw_C} {A : Nat → Prop} {ws ws' : va_W} {a : Array Value} {tys : List (ClassId × FieldType)} {nw : List Cond}
theorem q_sub (hA : ∀ q, H0.size ≤ q → A q) (I : q_I D cl A H0 ws H locs) : ∀ q, va_A ws H.size q → A q := by
  intro q h
  rcases h with ⟨k, e, h⟩ | h
  · exact I.2.1.2 k (q, e) h
  · exact hA q (Nat.le_trans I.2.2.1 h)
theorem q_ki {r0 : Int32} (hA : ∀ q, H0.size ≤ q → A q) (I : q_I D cl A H0 ws H locs) (hr : va_Run p l e R s m args below meth c H locs cells slots 0 0 (F0 m pc ls st0) rest (q_Qi D cl r0 ws' (va_A ws H.size) a) (va_A ws H.size))
    (kk : ∀ (H1 : Heap) (locs1 : List Loc), q_I D cl A H0 ws' H1 locs1 → W p l e R s m args below meth c H1 locs1 cells slots Q (F0 m (pc + 3) ls (.int r0 :: rest))) : W p l e R s m args below meth c H locs cells slots Q (F0 m pc ls st0) := by
  have hF := q_sub hA I
  refine va_calli hr I.2.2 (fun q _ h => hF q h) hF (fun r u t H1 locs1 ht hvm hw hB hz1 hk1 hS1 => ?_)
  obtain ⟨hP1, hD1⟩ := hB
  rw [ht] at hP1
  subst hw
  exact kk H1 locs1 ⟨hP1, hD1.weaken (fun _ _ _ h => hF _ h), hS1⟩
theorem q_kv (hA : ∀ q, H0.size ≤ q → A q) (I : q_I D cl A H0 ws H locs) (hr : va_Run p l e R s m args below meth c H locs cells slots 0 0 (F0 m pc ls st0) rest (q_Qv D cl ws' (va_A ws H.size) a) (va_A ws H.size))
    (kk : ∀ (H1 : Heap) (locs1 : List Loc), q_I D cl A H0 ws' H1 locs1 → W p l e R s m args below meth c H1 locs1 cells slots Q (F0 m (pc + 3) ls rest)) : W p l e R s m args below meth c H locs cells slots Q (F0 m pc ls st0) := by
  have hF := q_sub hA I
  refine va_callv hr I.2.2 (fun q _ h => hF q h) hF (fun u t H1 locs1 ht hvm hw hB hz1 hk1 hS1 => ?_)
  obtain ⟨hP1, hD1⟩ := hB
  rw [ht] at hP1
  exact kk H1 locs1 ⟨hP1, hD1.weaken (fun _ _ _ h => hF _ h), hS1⟩
theorem q_kq {r0 : Option Nat} (hA : ∀ q, H0.size ≤ q → A q) (I : q_I D cl A H0 ws H locs) (hr : va_Run p l e R s m args below meth c H locs cells slots 0 0 (F0 m pc ls st0) rest (q_Qq D cl r0 ws' (va_A ws H.size) a) (va_A ws H.size))
    (kk : ∀ (H1 : Heap) (locs1 : List Loc), q_I D cl A H0 ws' H1 locs1 → W p l e R s m args below meth c H1 locs1 cells slots Q (F0 m (pc + 3) ls (va_rf r0 :: rest))) : W p l e R s m args below meth c H locs cells slots Q (F0 m pc ls st0) := by
  have hF := q_sub hA I
  refine va_callq hr I.2.2 (fun q _ h => hF q h) hF (fun r u t H1 locs1 ht hvm hw hB hz1 hk1 hS1 => ?_)
  obtain ⟨hP1, hD1⟩ := hB
  rw [ht] at hP1
  subst hw
  exact kk H1 locs1 ⟨hP1, hD1.weaken (fun _ _ _ h => hF _ h), hS1⟩
variable {y : MethodName} {bytes : ByteArray} {maxL nL n index : Nat} {ret : Option FieldType} {wy : List Cond} {rm : Room} {Qc : Array Value → State → Outcome → State → Prop} {free : Addr → Prop} {Ts : List Cond} {own C : String} {b : Addr} {As : List Value}
theorem q_runV (S : CallFix p m c cc nL s args Ts own) (hM : Met l y wy rm (q_Pre D cl tys nw (.ref b :: As) ws H.size) Qc 0 0 free) (cw : CallW R s args own C index y bytes maxL ret wy rm 0 0 n) (hnw : q_nwOk nw) (hK : va_K D cl tys s) (hN : ∀ w ∈ nw, va_Nw w s) (I : q_I D cl A H0 ws H locs) {q0 ci : Nat} {T : u_T} {N : Nat} {fs : List Value} (hc : cl[ci]? = some (C, T, N)) (he : ws[q0]? = some (b, .inr (ci, fs)))
    (hn : As.length = n) (hsize : ls.size = nL) (hstack : st0 = As.reverse ++ .ref b :: rest) (hW : (rest.map fun v => v.category).sum ≤ 8) (hdg : decode cc pc = .ok (.invokevirtual index, 3)) (hf : cells ≤ R.cells ∧ slots ≤ R.slots) :
    va_Run p l e R s m args below meth c H locs cells slots 0 0 (F0 m pc ls st0) rest (Qc (Value.ref b :: As).toArray) free :=
  va_runV (g := F0 m pc ls st0) S hM cw ⟨q_Pre_blind hnw, va_recv hK I.1 hc he, fun U hU hW => q_Pre_at hnw hK hN I.1 I.2.1 hU hW⟩ rfl hn hsize hstack (lv_room hW) hdg hf
theorem q_runS (S : CallFix p m c cc nL s args Ts own) (hM : Met l y wy rm (q_Pre D cl tys nw As ws H.size) Qc 0 0 free) (cw : CallB R s args own index y bytes maxL ret wy rm 0 0 n ∧ (Cond.static y).before args s = true) (hnw : q_nwOk nw) (hK : va_K D cl tys s) (hN : ∀ w ∈ nw, va_Nw w s) (I : q_I D cl A H0 ws H locs)
    (hn : As.length = n) (hsize : ls.size = nL) (hstack : st0 = As.reverse ++ rest) (hW : (rest.map fun v => v.category).sum ≤ 8) (hdg : decode cc pc = .ok (.invokestatic index, 3)) (hf : cells ≤ R.cells ∧ slots ≤ R.slots) :
    va_Run p l e R s m args below meth c H locs cells slots 0 0 (F0 m pc ls st0) rest (Qc As.toArray) free :=
  va_runS (g := F0 m pc ls st0) S hM cw ⟨q_Pre_blind hnw, fun U hU hW => q_Pre_at hnw hK hN I.1 I.2.1 hU hW⟩ rfl hn hsize hstack (lv_room hW) hdg hf
/-- ends -/
theorem q_iret {r0 : Int32} (hx : p.tables.exec = Jvm.exec) (hb : c.code = cc) (hr : meth.sig.returnType = some .int) (hlocks : meth.locks = false) (I : q_I D cl A s.heap ws' H locs) (hdg : decode cc pc = .ok (.ireturn, 1)) : W p l e R s m args below meth c H locs cells slots (MQ below (q_Qi D cl r0 ws' A) args s cells slots A) (F0 m pc ls [.int r0]) :=
  W.iret (v := r0) hx hb hr (fun t ht hW => ⟨⟨r0, (), rfl, rfl, by rw [ht]; exact I.1, I.2.1⟩, I.2.2.F ht⟩) I.2.2.2.2 hdg hlocks
theorem q_zret {r0 : Int32} (hx : p.tables.exec = Jvm.exec) (hb : c.code = cc) (hr : meth.sig.returnType = some .boolean) (hlocks : meth.locks = false) (hB : q_isB r0 = true) (I : q_I D cl A s.heap ws' H locs) (hdg : decode cc pc = .ok (.ireturn, 1)) : W p l e R s m args below meth c H locs cells slots (MQ below (q_Qi D cl r0 ws' A) args s cells slots A) (F0 m pc ls [.int r0]) :=
  W.zret (v := r0) hx hb hr (by
    simp only [q_isB, Bool.or_eq_true, decide_eq_true_eq] at hB
    rcases hB with rfl | rfl <;> rfl) (fun t ht hW => ⟨⟨r0, (), rfl, rfl, by rw [ht]; exact I.1, I.2.1⟩, I.2.2.F ht⟩) I.2.2.2.2 hdg hlocks
theorem q_vret (hx : p.tables.exec = Jvm.exec) (hb : c.code = cc) (hr : meth.sig.returnType = none) (hlocks : meth.locks = false) (I : q_I D cl A s.heap ws' H locs) (hdg : decode cc pc = .ok (.return_, 1)) : W p l e R s m args below meth c H locs cells slots (MQ below (q_Qv D cl ws' A) args s cells slots A) (F0 m pc ls []) :=
  W.vret hx hb hr (fun t ht hW => ⟨⟨(), rfl, trivial, by rw [ht]; exact I.1, I.2.1⟩, I.2.2.F ht⟩) I.2.2.2.2 hdg hlocks
theorem q_aret {ad : Nat → Nat} {bb : Nat} {v : Int32} {cn : String} (hx : p.tables.exec = Jvm.exec) (hb : c.code = cc) (hr : meth.sig.returnType = some (.object cn)) (hlocks : meth.locks = false) (I : q_I D cl A s.heap ws' H locs) (hdg : decode cc pc = .ok (.areturn, 1)) : W p l e R s m args below meth c H locs cells slots (MQ below (q_Qq D cl (q_rfo ad bb v) ws' A) args s cells slots A) (F0 m pc ls [q_rv ad bb v]) :=
  W.aret hx hb hr (Or.inl ⟨cn, rfl⟩) (va_rf_or _) (fun t ht hW => ⟨⟨q_rfo ad bb v, (), rfl, rfl, by rw [ht]; exact I.1, I.2.1⟩, I.2.2.F ht⟩) I.2.2.2.2 hdg hlocks
variable {ad : Nat → Nat} {cel cel' : Nat → va_E} {NN : Nat}
/-- fields of the world's objects, and elements of its arrays -/
theorem q_get (hexec : p.tables.exec = Jvm.exec) (hb : c.code = cc) {own C : String} {T : u_T} {N ci index : Nat} {Ts : List Cond} (hts : ∀ w ∈ Ts, w.before args s = true) (hin : ∀ w ∈ u_ws C T N, w ∈ Ts) (hown : s.vm.findClass own = some m.cls) (hK : va_K D cl tys s) (I : q_I D cl A H0 (q_ws NN ad cel) H locs) (k : Nat) (hk : k < NN) {fs : List Value} (he : cel k = .inr (ci, fs)) (hc : cl[ci]? = some (C, T, N)) (j : Nat) (hj : j < N) (hlink : (Cond.fieldLink own index (T j).1 (T j).2.1 (T j).2.2.1).before args s = true) {v : Value} (hv : fs[j]? = some v) (hdg : decode cc pc = .ok (.getfield index, 3))
    (kk : W p l e R s m args below meth c H locs cells slots Q (F0 m (pc + 3) ls (v :: rest))) : W p l e R s m args below meth c H locs cells slots Q (F0 m pc ls (.ref (ad k) :: rest)) :=
  va_get hexec hb hts hin hown hK I.1 k (by rw [q_ws_at hk, he]) hc j hj hlink (fun _ h9 => h9) hv hdg kk
theorem q_getN (hexec : p.tables.exec = Jvm.exec) (hb : c.code = cc) {own C host : String} {T : u_T} {N ci index : Nat} {Ts : List Cond} (hts : ∀ w ∈ Ts, w.before args s = true) (hin : ∀ w ∈ u_ws C T N, w ∈ Ts) (hown : s.vm.findClass own = some m.cls) (hK : va_K D cl tys s) (I : q_I D cl A H0 (q_ws NN ad cel) H locs) (k : Nat) (hk : k < NN) {fs : List Value} (he : cel k = .inr (ci, fs)) (hc : cl[ci]? = some (C, T, N)) (j : Nat) (hj : j < N) (hlink : (Cond.fieldLinkNest own index (T j).1 (T j).2.1 (T j).2.2.1 host).before args s = true) {v : Value} (hv : fs[j]? = some v) (hdg : decode cc pc = .ok (.getfield index, 3))
    (kk : W p l e R s m args below meth c H locs cells slots Q (F0 m (pc + 3) ls (v :: rest))) : W p l e R s m args below meth c H locs cells slots Q (F0 m pc ls (.ref (ad k) :: rest)) :=
  va_getN hexec hb hts hin hown hK I.1 k (by rw [q_ws_at hk, he]) hc j hj hlink (fun _ h9 => h9) hv hdg kk
theorem q_put (hexec : p.tables.exec = Jvm.exec) (hb : c.code = cc) {own C : String} {T : u_T} {N ci index : Nat} {Ts : List Cond} (hts : ∀ w ∈ Ts, w.before args s = true) (hin : ∀ w ∈ u_ws C T N, w ∈ Ts) (ty0 : Nat → FieldType) (hty : ∀ k, k < N → parseFieldDescriptor (T k).2.2.1 = some (ty0 k)) (hnm : ∀ a, a < N → ∀ b, b < N → a ≠ b → (T a).2.1 ≠ (T b).2.1) (hown : s.vm.findClass own = some m.cls) (hK : va_K D cl tys s) (I : q_I D cl A H0 (q_ws NN ad cel) H locs) (k : Nat) (hk : k < NN) {fs : List Value} (he : cel k = .inr (ci, fs)) (hc : cl[ci]? = some (C, T, N)) (j : Nat) (hj : j < N) (hlink : (Cond.fieldLink own index (T j).1 (T j).2.1 (T j).2.2.1).before args s = true) (hfin : (T j).2.2.2 = false) {v : Value} (hn : narrow (ty0 j) v = v) (hfit : fits (ty0 j) v = true) (hl : j < fs.length) (h1 : cel' k = .inr (ci, fs.set j v)) (h2 : ∀ i, i ≠ k → cel' i = cel i) (hdg : decode cc pc = .ok (.putfield index, 3))
    (kk : ∀ (H1 : Heap) (locs1 : List Loc), q_I D cl A H0 (q_ws NN ad cel') H1 locs1 → W p l e R s m args below meth c H1 locs1 cells slots Q (F0 m (pc + 3) ls rest)) : W p l e R s m args below meth c H locs cells slots Q (F0 m pc ls (v :: .ref (ad k) :: rest)) := by
  refine va_put hexec hb hts hin ty0 hty hnm hown hK I.1 I.2.1 I.2.2 k (by rw [q_ws_at hk, he]) hc j hj hlink (fun _ h9 => h9) hfin (hty j hj) hn hfit hl hdg (fun H1 locs1 hP hD hS => ?_)
  rw [q_ws_set hk h1 h2] at hP hD
  exact kk H1 locs1 ⟨hP, hD, hS⟩
theorem q_putN (hexec : p.tables.exec = Jvm.exec) (hb : c.code = cc) {own C host : String} {T : u_T} {N ci index : Nat} {Ts : List Cond} (hts : ∀ w ∈ Ts, w.before args s = true) (hin : ∀ w ∈ u_ws C T N, w ∈ Ts) (ty0 : Nat → FieldType) (hty : ∀ k, k < N → parseFieldDescriptor (T k).2.2.1 = some (ty0 k)) (hnm : ∀ a, a < N → ∀ b, b < N → a ≠ b → (T a).2.1 ≠ (T b).2.1) (hown : s.vm.findClass own = some m.cls) (hK : va_K D cl tys s) (I : q_I D cl A H0 (q_ws NN ad cel) H locs) (k : Nat) (hk : k < NN) {fs : List Value} (he : cel k = .inr (ci, fs)) (hc : cl[ci]? = some (C, T, N)) (j : Nat) (hj : j < N) (hlink : (Cond.fieldLinkNest own index (T j).1 (T j).2.1 (T j).2.2.1 host).before args s = true) (hfin : (T j).2.2.2 = false) {v : Value} (hn : narrow (ty0 j) v = v) (hfit : fits (ty0 j) v = true) (hl : j < fs.length) (h1 : cel' k = .inr (ci, fs.set j v)) (h2 : ∀ i, i ≠ k → cel' i = cel i) (hdg : decode cc pc = .ok (.putfield index, 3))
    (kk : ∀ (H1 : Heap) (locs1 : List Loc), q_I D cl A H0 (q_ws NN ad cel') H1 locs1 → W p l e R s m args below meth c H1 locs1 cells slots Q (F0 m (pc + 3) ls rest)) : W p l e R s m args below meth c H locs cells slots Q (F0 m pc ls (v :: .ref (ad k) :: rest)) := by
  refine va_putN hexec hb hts hin ty0 hty hnm hown hK I.1 I.2.1 I.2.2 k (by rw [q_ws_at hk, he]) hc j hj hlink (fun _ h9 => h9) hfin (hty j hj) hn hfit hl hdg (fun H1 locs1 hP hD hS => ?_)
  rw [q_ws_set hk h1 h2] at hP hD
  exact kk H1 locs1 ⟨hP, hD, hS⟩
theorem q_iald (hexec : p.tables.exec = Jvm.exec) (hb : c.code = cc) (hK : va_K D cl tys s) (I : q_I D cl A H0 (q_ws NN ad cel) H locs) (k t0 : Nat) (hk : k < NN) {cA : ClassId} {n : Nat} {f : Nat → Int32} (he : cel k = .inl (cA, n, .inl f)) (ht : tys[t0]? = some (cA, .int)) {i : Int32} (hin : q_in i n = true) (hdg : decode cc pc = .ok (.iaload, 1))
    (kk : W p l e R s m args below meth c H locs cells slots Q (F0 m (pc + 1) ls (.int (f i.toNatClampNeg) :: rest))) : W p l e R s m args below meth c H locs cells slots Q (F0 m pc ls (.int i :: .ref (ad k) :: rest)) :=
  va_iald hexec hb hK I.1 k t0 (by rw [q_ws_at hk, he]) ht (q_in_vp hin) hdg kk
theorem q_iast (hexec : p.tables.exec = Jvm.exec) (hb : c.code = cc) (hK : va_K D cl tys s) (I : q_I D cl A H0 (q_ws NN ad cel) H locs) (k t0 : Nat) (hk : k < NN) {cA : ClassId} {n : Nat} {f : Nat → Int32} (he : cel k = .inl (cA, n, .inl f)) (ht : tys[t0]? = some (cA, .int)) {i x : Int32} (hin : q_in i n = true) (h1 : cel' k = .inl (cA, n, .inl (upd f i.toNatClampNeg x))) (h2 : ∀ i, i ≠ k → cel' i = cel i) (hdg : decode cc pc = .ok (.iastore, 1))
    (kk : ∀ (H1 : Heap) (locs1 : List Loc), q_I D cl A H0 (q_ws NN ad cel') H1 locs1 → W p l e R s m args below meth c H1 locs1 cells slots Q (F0 m (pc + 1) ls rest)) : W p l e R s m args below meth c H locs cells slots Q (F0 m pc ls (.int x :: .int i :: .ref (ad k) :: rest)) := by
  refine va_iast hexec hb hK I.1 I.2.1 I.2.2 k t0 (by rw [q_ws_at hk, he]) ht (q_in_vp hin) hdg (fun H1 locs1 hP hD hS => ?_)
  rw [q_ws_set hk h1 h2] at hP hD
  exact kk H1 locs1 ⟨hP, hD, hS⟩
theorem q_alen (hexec : p.tables.exec = Jvm.exec) (hb : c.code = cc) (hK : va_K D cl tys s) (I : q_I D cl A H0 (q_ws NN ad cel) H locs) (k t0 : Nat) (hk : k < NN) {cA : ClassId} {x : vp_A} (he : cel k = .inl (cA, x)) {ty : FieldType} (ht : tys[t0]? = some (cA, ty)) {v : Int32} (hv : Int32.ofNat x.1 = v) (hdg : decode cc pc = .ok (.arraylength, 1))
    (kk : W p l e R s m args below meth c H locs cells slots Q (F0 m (pc + 1) ls (.int v :: rest))) : W p l e R s m args below meth c H locs cells slots Q (F0 m pc ls (.ref (ad k) :: rest)) :=
  va_alen hexec hb hK I.1 k t0 (by rw [q_ws_at hk, he]) ht hv hdg kk
/-- an array of references to the pool's objects b, b + 1 .. -/
theorem q_aald (hexec : p.tables.exec = Jvm.exec) (hb : c.code = cc) (hK : va_K D cl tys s) (I : q_I D cl A H0 (q_ws NN ad cel) H locs) (k t0 bb : Nat) (hk : k < NN) {cA : ClassId} {C : String} {n : Nat} (he : cel k = .inl (cA, n, .inr (.inr (.inr (.inr (fun j => some (ad (bb + j)))))))) (ht : tys[t0]? = some (cA, .object C)) {i : Int32} (hin : q_in i n = true) (hdg : decode cc pc = .ok (.aaload, 1))
    (kk : W p l e R s m args below meth c H locs cells slots Q (F0 m (pc + 1) ls (q_rv ad bb i :: rest))) : W p l e R s m args below meth c H locs cells slots Q (F0 m pc ls (.int i :: .ref (ad k) :: rest)) := by
  rw [q_rv_ref (q_in_pos hin)] at kk
  exact va_aldq (f := fun j => some (ad (bb + j))) hexec hb hK I.1 k t0 (by rw [q_ws_at hk, he]) ht (q_in_vp hin) hdg kk
end QRUN

/-- locals: the listed values are held, and each takes one place -/
def q_has (ls : Array Slot) (nL : Nat) (lv : List (Nat × Value)) : Prop := lv_has ls nL lv ∧ ∀ q ∈ lv, q.2.category = 1
theorem q_cat {ad : Nat → Nat} {b : Nat} {v : Int32} : (q_rv ad b v).category = 1 := by
  by_cases h : v < 0
  · rw [q_rv_null h]; rfl
  · rw [q_rv_ref h]; rfl
theorem q_at {ls : Array Slot} {nL : Nat} {l : List (Nat × Value)} (h : q_has ls nL l) (k : Nat) {i : Nat} {v : Value} (hk : l[k]? = some (i, v)) : ls[i]? = some (.val v) := lv_at h.1 k hk
theorem q_sz {ls : Array Slot} {nL : Nat} {l : List (Nat × Value)} (h : q_has ls nL l) : ls.size = nL := h.1.1
theorem q_hsub {ls : Array Slot} {nL : Nat} {l l' : List (Nat × Value)} (h : q_has ls nL l) (ks : List Nat) (hl : lv_pick l ks = l') : q_has ls nL l' := by
  refine ⟨lv_sub h.1 ks hl, fun q hq => ?_⟩
  rw [← hl] at hq
  obtain ⟨k, -, hk⟩ := List.mem_filterMap.mp hq
  exact h.2 q (List.mem_of_getElem? hk)
theorem q_filt {lv : List (Nat × Value)} {i : Nat} (h : ∀ q ∈ lv, q.2.category = 1) : lv.filter (fun q => !(q.1 == i) && !(q.1 + 1 == i && q.2.category == 2)) = lv.filter (fun q => !(q.1 == i)) := by
  apply List.filter_congr
  intro q hq
  rw [h q hq]
  simp
theorem q_hnew {ls : Array Slot} {nL i : Nat} {v : Value} {lv lv' : List (Nat × Value)} (hv : v.category = 1) (h : ∀ q ∈ lv, q.2.category = 1) (hl : (i, v) :: lv.filter (fun q => !(q.1 == i)) = lv') (h2 : lv_has ls nL lv') : q_has ls nL lv' := by
  refine ⟨h2, fun q hq => ?_⟩
  rw [← hl] at hq
  rcases List.mem_cons.mp hq with rfl | hq
  · exact hv
  · exact h q (List.mem_filter.mp hq).1
section QLOC
variable {p : Program} {l : Launch} {e : Env} {R : Room} {s : State} {m : MethodId} {args : Array Value} {below : List Frame} {meth : Method} {c : Code} {H : Heap} {locs : List Loc} {cells slots : Nat} {Q : State → Prop}
variable {cc : ByteArray} {pc : Nat} {ls : Array Slot} {rest : List Value} {ad : Nat → Nat}
theorem q_istore_n (hexec : p.tables.exec = Jvm.exec) (hb : c.code = cc) {k : Fin 4} {i nL : Nat} {x : Int32} {lv lv' : List (Nat × Value)} (hdg : decode cc pc = .ok (.istore_n k, 1)) (hi : (k : Nat) = i) (h : q_has ls nL lv) (hn : i < nL) (hl : (i, Value.int x) :: lv.filter (fun q => !(q.1 == i)) = lv')
    (kk : ∀ ls' : Array Slot, q_has ls' nL lv' → W p l e R s m args below meth c H locs cells slots Q (F0 m (pc + 1) ls' rest)) : W p l e R s m args below meth c H locs cells slots Q (F0 m pc ls (.int x :: rest)) :=
  lv_istore_n hexec hb hdg hi h.1 hn (by rw [q_filt h.2]; exact hl) (fun ls' h' => kk ls' (q_hnew rfl h.2 hl h'))
theorem q_istore (hexec : p.tables.exec = Jvm.exec) (hb : c.code = cc) {i nL : Nat} {x : Int32} {lv lv' : List (Nat × Value)} (hdg : decode cc pc = .ok (.istore i, 2)) (h : q_has ls nL lv) (hn : i < nL) (hl : (i, Value.int x) :: lv.filter (fun q => !(q.1 == i)) = lv')
    (kk : ∀ ls' : Array Slot, q_has ls' nL lv' → W p l e R s m args below meth c H locs cells slots Q (F0 m (pc + 2) ls' rest)) : W p l e R s m args below meth c H locs cells slots Q (F0 m pc ls (.int x :: rest)) :=
  lv_istore hexec hb hdg h.1 hn (by rw [q_filt h.2]; exact hl) (fun ls' h' => kk ls' (q_hnew rfl h.2 hl h'))
theorem q_iinc (hexec : p.tables.exec = Jvm.exec) (hb : c.code = cc) {i nL k : Nat} {n : Int} {x v : Int32} {lv lv' : List (Nat × Value)} (hdg : decode cc pc = .ok (.iinc i n, 3)) (h : q_has ls nL lv) (hk : lv[k]? = some (i, .int x)) (hv : x + Int32.ofInt n = v) (hn : i < nL) (hl : (i, Value.int v) :: lv.filter (fun q => !(q.1 == i)) = lv')
    (kk : ∀ ls' : Array Slot, q_has ls' nL lv' → W p l e R s m args below meth c H locs cells slots Q (F0 m (pc + 3) ls' rest)) : W p l e R s m args below meth c H locs cells slots Q (F0 m pc ls rest) :=
  lv_iinc hexec hb hdg h.1 hk hv hn (by rw [q_filt h.2]; exact hl) (fun ls' h' => kk ls' (q_hnew rfl h.2 hl h'))
theorem q_astoreR_n (hexec : p.tables.exec = Jvm.exec) (hb : c.code = cc) {k : Fin 4} {i nL : Nat} {x : Nat} {lv lv' : List (Nat × Value)} (hdg : decode cc pc = .ok (.astore_n k, 1)) (hi : (k : Nat) = i) (h : q_has ls nL lv) (hn : i < nL) (hl : (i, Value.ref x) :: lv.filter (fun q => !(q.1 == i)) = lv')
    (kk : ∀ ls' : Array Slot, q_has ls' nL lv' → W p l e R s m args below meth c H locs cells slots Q (F0 m (pc + 1) ls' rest)) : W p l e R s m args below meth c H locs cells slots Q (F0 m pc ls (.ref x :: rest)) :=
  lv_astore_n hexec hb hdg hi h.1 hn (by rw [q_filt h.2]; exact hl) (fun ls' h' => kk ls' (q_hnew rfl h.2 hl h'))
theorem q_astoreR (hexec : p.tables.exec = Jvm.exec) (hb : c.code = cc) {i nL : Nat} {x : Nat} {lv lv' : List (Nat × Value)} (hdg : decode cc pc = .ok (.astore i, 2)) (h : q_has ls nL lv) (hn : i < nL) (hl : (i, Value.ref x) :: lv.filter (fun q => !(q.1 == i)) = lv')
    (kk : ∀ ls' : Array Slot, q_has ls' nL lv' → W p l e R s m args below meth c H locs cells slots Q (F0 m (pc + 2) ls' rest)) : W p l e R s m args below meth c H locs cells slots Q (F0 m pc ls (.ref x :: rest)) :=
  lv_astore hexec hb hdg h.1 hn (by rw [q_filt h.2]; exact hl) (fun ls' h' => kk ls' (q_hnew rfl h.2 hl h'))
theorem q_astoreV_n (hexec : p.tables.exec = Jvm.exec) (hb : c.code = cc) {k : Fin 4} {i nL b : Nat} {v : Int32} {lv lv' : List (Nat × Value)} (hdg : decode cc pc = .ok (.astore_n k, 1)) (hi : (k : Nat) = i) (h : q_has ls nL lv) (hn : i < nL) (hl : (i, q_rv ad b v) :: lv.filter (fun q => !(q.1 == i)) = lv')
    (kk : ∀ ls' : Array Slot, q_has ls' nL lv' → W p l e R s m args below meth c H locs cells slots Q (F0 m (pc + 1) ls' rest)) : W p l e R s m args below meth c H locs cells slots Q (F0 m pc ls (q_rv ad b v :: rest)) :=
  q_astore_n hexec hb hdg hi h.1 hn (by rw [q_filt h.2]; exact hl) (fun ls' h' => kk ls' (q_hnew q_cat h.2 hl h'))
theorem q_astoreV (hexec : p.tables.exec = Jvm.exec) (hb : c.code = cc) {i nL b : Nat} {v : Int32} {lv lv' : List (Nat × Value)} (hdg : decode cc pc = .ok (.astore i, 2)) (h : q_has ls nL lv) (hn : i < nL) (hl : (i, q_rv ad b v) :: lv.filter (fun q => !(q.1 == i)) = lv')
    (kk : ∀ ls' : Array Slot, q_has ls' nL lv' → W p l e R s m args below meth c H locs cells slots Q (F0 m (pc + 2) ls' rest)) : W p l e R s m args below meth c H locs cells slots Q (F0 m pc ls (q_rv ad b v :: rest)) :=
  q_astore hexec hb hdg h.1 hn (by rw [q_filt h.2]; exact hl) (fun ls' h' => kk ls' (q_hnew q_cat h.2 hl h'))
end QLOC
/-- a method's locals at its entry -/
theorem q_args {vs : List Value} (h : ∀ v ∈ vs, v.category = 1) : ∀ k, lv_args k vs = (List.range vs.length).zipWith (fun i v => (k + i, v)) vs := by
  induction vs with
  | nil => intro k; rfl
  | cons v vs ih =>
    intro k
    have hv : v.category = 1 := h v List.mem_cons_self
    have ih := ih (fun w hw => h w (List.mem_cons_of_mem _ hw))
    rw [lv_args, hv, if_neg (by decide), ih (k + 1)]
    rw [List.length_cons, List.range_succ_eq_map, List.zipWith_cons_cons, List.zipWith_map_left]
    simp only [Nat.add_zero]
    congr 2
    funext i v
    simp only [Nat.succ_eq_add_one, Prod.mk.injEq, and_true]
    omega
theorem q_slen {vs : List Value} (h : ∀ v ∈ vs, v.category = 1) : (lg_sl vs).length = vs.length := by
  induction vs with
  | nil => rfl
  | cons v vs ih =>
    have hv : v.category = 1 := h v List.mem_cons_self
    have ih := ih (fun w hw => h w (List.mem_cons_of_mem _ hw))
    show (((if v.category = 2 then [Slot.val v, Slot.second] else [Slot.val v]) ++ lg_sl vs) : List Slot).length = _
    rw [hv, if_neg (by decide), List.length_append, ih]
    simp only [List.length_cons, List.length_nil]
    omega
theorem q_entry {vs : List Value} {n : Nat} {lv : List (Nat × Value)} (h : ∀ v ∈ vs, v.category = 1) (hn : vs.length ≤ n) (hl : (List.range vs.length).zipWith (fun i v => (0 + i, v)) vs = lv) : ∃ ls : Array Slot, (∀ m : MethodId, entryFrame m vs.toArray n = F0 m 0 ls []) ∧ q_has ls n lv := by
  refine ⟨_, fun m => lg_entry_eq m vs n, ?_⟩
  have h1 := lv_entry vs (n := n) (by rw [q_slen h]; exact hn)
  rw [q_args h 0, hl] at h1
  refine ⟨h1, fun q hq => ?_⟩
  rw [← hl] at hq
  obtain ⟨i, hi⟩ := List.getElem?_of_mem hq
  rw [List.getElem?_zipWith] at hi
  cases h3 : vs[i]? with
  | none => rw [h3] at hi; cases h4 : (List.range vs.length)[i]? <;> rw [h4] at hi <;> simp at hi
  | some v =>
    rw [h3] at hi
    cases h4 : (List.range vs.length)[i]? with
    | none => rw [h4] at hi; simp at hi
    | some j => rw [h4] at hi; simp at hi; rw [← hi]; exact h v (List.mem_of_getElem? h3)
section QZ
variable {p : Program} {l : Launch} {e : Env} {R : Room} {s : State} {m : MethodId} {args : Array Value} {below : List Frame} {meth : Method} {c : Code} {H H0 : Heap} {locs : List Loc} {cells slots : Nat} {Q : State → Prop}
variable {cc : ByteArray} {pc : Nat} {ls : Array Slot} {rest : List Value} {D : va_G} {cl : List vw_C} {A : Nat → Prop} {tys : List (ClassId × FieldType)} {ad : Nat → Nat} {cel cel' : Nat → va_E} {NN : Nat}
theorem q_nar {x : Int32} (h : q_isB x = true) : vp_nar .boolean x = x := by
  simp only [q_isB, Bool.or_eq_true, decide_eq_true_eq] at h
  rcases h with rfl | rfl <;> rfl
theorem q_zald (hexec : p.tables.exec = Jvm.exec) (hb : c.code = cc) (hK : va_K D cl tys s) (I : q_I D cl A H0 (q_ws NN ad cel) H locs) (k t0 : Nat) (hk : k < NN) {cA : ClassId} {n : Nat} {f : Nat → Int32} (he : cel k = .inl (cA, n, .inl f)) (ht : tys[t0]? = some (cA, .boolean)) {i : Int32} (hin : q_in i n = true) (hdg : decode cc pc = .ok (.baload, 1))
    (kk : W p l e R s m args below meth c H locs cells slots Q (F0 m (pc + 1) ls (.int (f i.toNatClampNeg) :: rest))) : W p l e R s m args below meth c H locs cells slots Q (F0 m pc ls (.int i :: .ref (ad k) :: rest)) :=
  va_zald hexec hb hK I.1 k t0 (by rw [q_ws_at hk, he]) ht (q_in_vp hin) hdg kk
theorem q_zast (hexec : p.tables.exec = Jvm.exec) (hb : c.code = cc) (hK : va_K D cl tys s) (I : q_I D cl A H0 (q_ws NN ad cel) H locs) (k t0 : Nat) (hk : k < NN) {cA : ClassId} {n : Nat} {f : Nat → Int32} (he : cel k = .inl (cA, n, .inl f)) (ht : tys[t0]? = some (cA, .boolean)) {i x : Int32} (hin : q_in i n = true) (hB : q_isB x = true) (h1 : cel' k = .inl (cA, n, .inl (upd f i.toNatClampNeg x))) (h2 : ∀ i, i ≠ k → cel' i = cel i) (hdg : decode cc pc = .ok (.bastore, 1))
    (kk : ∀ (H1 : Heap) (locs1 : List Loc), q_I D cl A H0 (q_ws NN ad cel') H1 locs1 → W p l e R s m args below meth c H1 locs1 cells slots Q (F0 m (pc + 1) ls rest)) : W p l e R s m args below meth c H locs cells slots Q (F0 m pc ls (.int x :: .int i :: .ref (ad k) :: rest)) := by
  refine va_zast hexec hb hK I.1 I.2.1 I.2.2 k t0 (by rw [q_ws_at hk, he]) ht (q_in_vp hin) hdg (fun H1 locs1 hP hD hS => ?_)
  rw [q_nar hB, q_ws_set hk h1 h2] at hP hD
  exact kk H1 locs1 ⟨hP, hD, hS⟩
theorem q_narR {ad : Nat → Nat} {b : Nat} {v : Int32} {C : String} : narrow (.object C) (q_rv ad b v) = q_rv ad b v := by
  by_cases h : v < 0
  · rw [q_rv_null h]; rfl
  · rw [q_rv_ref h]; rfl
theorem q_fitR {ad : Nat → Nat} {b : Nat} {v : Int32} {C : String} : fits (.object C) (q_rv ad b v) = true := by
  by_cases h : v < 0
  · rw [q_rv_null h]; rfl
  · rw [q_rv_ref h]; rfl
theorem q_narB {x : Int32} (h : q_isB x = true) : narrow .boolean (.int x) = .int x := by
  simp only [q_isB, Bool.or_eq_true, decide_eq_true_eq] at h
  rcases h with rfl | rfl <;> rfl
theorem q_fitB {x : Int32} (h : q_isB x = true) : fits .boolean (.int x) = true := by
  simp only [q_isB, Bool.or_eq_true, decide_eq_true_eq] at h
  rcases h with rfl | rfl <;> rfl
end QZ
/-- what a method's walk stands on -/
abbrev q_Cx (own : String) (cc : ByteArray) (nL : Nat) (ret : Option FieldType) (Ts : List Cond) (D : va_G) (cl : List vw_C) (tys : List (ClassId × FieldType)) (nw : List Cond) (p : Program) (s : State) (m : MethodId) (args : Array Value) (meth : Method) (c : Code) : Prop :=
  p.tables.exec = Jvm.exec ∧ c.code = cc ∧ meth.sig.returnType = ret ∧ c.maxLocals = nL ∧ s.vm.findClass own = some m.cls ∧ (∀ w ∈ Ts, w.before args s = true) ∧ meth.locks = false ∧ va_K D cl tys s ∧ ∀ w ∈ nw, va_Nw w s
theorem q_wsE {NN : Nat} {ad : Nat → Nat} {cel : Nat → va_E} {k : Nat} {o : va_E} (hk : k < NN) (he : cel k = o) : (q_ws NN ad cel)[k]? = some (ad k, o) := by rw [q_ws_at hk, he]
theorem q_sum {vs : List Value} (h : ∀ v ∈ vs, v.category = 1) (hn : vs.length ≤ 8) : (vs.map fun v => v.category).sum ≤ 8 := by
  have k : (vs.map fun v => v.category).sum = vs.length := by
    clear hn
    induction vs with
    | nil => rfl
    | cons v vs ih =>
      rw [List.map_cons, List.sum_cons, h v List.mem_cons_self, ih (fun w hw => h w (List.mem_cons_of_mem _ hw)), List.length_cons]
      omega
  omega
end
section
/-! NAMES: classes, fields, methods, the words -/
def R_Display : String := "JobTerminal$Display"
def F_Display : u_T := fun k => match k with
  | 0 => ("JobTerminal$Display", "codes", "[I", true)
  | 1 => ("JobTerminal$Display", "next", "I", false)
  | _ => ("JobTerminal$Display", "total", "I", false)
def t_Display : Nat → FieldType := fun k => match k with
  | 0 => .array .int
  | 1 => .int
  | _ => .int
theorem n_Display : ∀ a, a < 3 → ∀ b, b < 3 → a ≠ b → (F_Display a).2.1 ≠ (F_Display b).2.1 := by decide +kernel
theorem t_Display_ok : ∀ k, k < 3 → parseFieldDescriptor (F_Display k).2.2.1 = some (t_Display k) := by decide +kernel
def R_Job : String := "JobTerminal$Job"
def F_Job : u_T := fun k => match k with
  | 0 => ("JobTerminal$Job", "number", "I", true)
  | 1 => ("JobTerminal$Job", "pipe", "LJobTerminal$NumberRow;", true)
  | 2 => ("JobTerminal$Job", "first", "LJobTerminal$JobProcess;", false)
  | 3 => ("JobTerminal$Job", "second", "LJobTerminal$JobProcess;", false)
  | 4 => ("JobTerminal$Job", "untold", "Z", false)
  | _ => ("JobTerminal$Job", "settledState", "I", false)
def t_Job : Nat → FieldType := fun k => match k with
  | 0 => .int
  | 1 => .object "JobTerminal$NumberRow"
  | 2 => .object "JobTerminal$JobProcess"
  | 3 => .object "JobTerminal$JobProcess"
  | 4 => .boolean
  | _ => .int
theorem n_Job : ∀ a, a < 6 → ∀ b, b < 6 → a ≠ b → (F_Job a).2.1 ≠ (F_Job b).2.1 := by decide +kernel
theorem t_Job_ok : ∀ k, k < 6 → parseFieldDescriptor (F_Job k).2.2.1 = some (t_Job k) := by decide +kernel
def R_JobProcess : String := "JobTerminal$JobProcess"
def F_JobProcess : u_T := fun k => match k with
  | 0 => ("JobTerminal$JobProcess", "owner", "LJobTerminal$Job;", false)
  | 1 => ("JobTerminal$JobProcess", "state", "I", false)
  | 2 => ("JobTerminal$JobProcess", "program", "I", false)
  | 3 => ("JobTerminal$JobProcess", "line", "I", false)
  | 4 => ("JobTerminal$JobProcess", "register", "I", false)
  | 5 => ("JobTerminal$JobProcess", "code", "I", false)
  | 6 => ("JobTerminal$JobProcess", "pending", "I", false)
  | 7 => ("JobTerminal$JobProcess", "blocked", "I", false)
  | 8 => ("JobTerminal$JobProcess", "ignored", "I", false)
  | _ => ("JobTerminal$JobProcess", "nap", "I", false)
def t_JobProcess : Nat → FieldType := fun k => match k with
  | 0 => .object "JobTerminal$Job"
  | 1 => .int
  | 2 => .int
  | 3 => .int
  | 4 => .int
  | 5 => .int
  | 6 => .int
  | 7 => .int
  | 8 => .int
  | _ => .int
theorem n_JobProcess : ∀ a, a < 10 → ∀ b, b < 10 → a ≠ b → (F_JobProcess a).2.1 ≠ (F_JobProcess b).2.1 := by decide +kernel
theorem t_JobProcess_ok : ∀ k, k < 10 → parseFieldDescriptor (F_JobProcess k).2.2.1 = some (t_JobProcess k) := by decide +kernel
def R_NumberRow : String := "JobTerminal$NumberRow"
def F_NumberRow : u_T := fun k => match k with
  | 0 => ("JobTerminal$NumberRow", "numbers", "[I", true)
  | 1 => ("JobTerminal$NumberRow", "oldest", "I", false)
  | _ => ("JobTerminal$NumberRow", "count", "I", false)
def t_NumberRow : Nat → FieldType := fun k => match k with
  | 0 => .array .int
  | 1 => .int
  | _ => .int
theorem n_NumberRow : ∀ a, a < 3 → ∀ b, b < 3 → a ≠ b → (F_NumberRow a).2.1 ≠ (F_NumberRow b).2.1 := by decide +kernel
theorem t_NumberRow_ok : ∀ k, k < 3 → parseFieldDescriptor (F_NumberRow k).2.2.1 = some (t_NumberRow k) := by decide +kernel
def R_Programs : String := "JobTerminal$Programs"
def F_Programs : u_T := fun k => match k with
  | 0 => ("JobTerminal$Programs", "ops", "[I", true)
  | _ => ("JobTerminal$Programs", "numbers", "[I", true)
def t_Programs : Nat → FieldType := fun k => match k with
  | 0 => .array .int
  | _ => .array .int
theorem n_Programs : ∀ a, a < 2 → ∀ b, b < 2 → a ≠ b → (F_Programs a).2.1 ≠ (F_Programs b).2.1 := by decide +kernel
theorem t_Programs_ok : ∀ k, k < 2 → parseFieldDescriptor (F_Programs k).2.2.1 = some (t_Programs k) := by decide +kernel
def R_Terminal : String := "JobTerminal$Terminal"
def F_Terminal : u_T := fun k => match k with
  | 0 => ("JobTerminal$Terminal", "edit", "LJobTerminal$NumberRow;", true)
  | 1 => ("JobTerminal$Terminal", "queue", "LJobTerminal$NumberRow;", true)
  | 2 => ("JobTerminal$Terminal", "display", "LJobTerminal$Display;", true)
  | 3 => ("JobTerminal$Terminal", "modes", "I", false)
  | _ => ("JobTerminal$Terminal", "hangs", "Z", false)
def t_Terminal : Nat → FieldType := fun k => match k with
  | 0 => .object "JobTerminal$NumberRow"
  | 1 => .object "JobTerminal$NumberRow"
  | 2 => .object "JobTerminal$Display"
  | 3 => .int
  | _ => .boolean
theorem n_Terminal : ∀ a, a < 5 → ∀ b, b < 5 → a ≠ b → (F_Terminal a).2.1 ≠ (F_Terminal b).2.1 := by decide +kernel
theorem t_Terminal_ok : ∀ k, k < 5 → parseFieldDescriptor (F_Terminal k).2.2.1 = some (t_Terminal k) := by decide +kernel
def R_JT : String := "JobTerminal"
def F_JT : u_T := fun k => match k with
  | 0 => ("JobTerminal", "programs", "LJobTerminal$Programs;", true)
  | 1 => ("JobTerminal", "processes", "[LJobTerminal$JobProcess;", true)
  | 2 => ("JobTerminal", "jobs", "[LJobTerminal$Job;", true)
  | 3 => ("JobTerminal", "terminal", "LJobTerminal$Terminal;", true)
  | 4 => ("JobTerminal", "foregroundJob", "LJobTerminal$Job;", false)
  | _ => ("JobTerminal", "latestSlot", "I", false)
def t_JT : Nat → FieldType := fun k => match k with
  | 0 => .object "JobTerminal$Programs"
  | 1 => .array (.object "JobTerminal$JobProcess")
  | 2 => .array (.object "JobTerminal$Job")
  | 3 => .object "JobTerminal$Terminal"
  | 4 => .object "JobTerminal$Job"
  | _ => .int
theorem n_JT : ∀ a, a < 6 → ∀ b, b < 6 → a ≠ b → (F_JT a).2.1 ≠ (F_JT b).2.1 := by decide +kernel
theorem t_JT_ok : ∀ k, k < 6 → parseFieldDescriptor (F_JT k).2.2.1 = some (t_JT k) := by decide +kernel
def R_Mo : String := "JobTerminalModel"
def F_Mo : u_T := fun k => match k with
  | 0 => ("JobTerminalModel", "ops", "[I", true)
  | 1 => ("JobTerminalModel", "numbers", "[I", true)
  | 2 => ("JobTerminalModel", "state", "[I", true)
  | 3 => ("JobTerminalModel", "jobOf", "[I", true)
  | 4 => ("JobTerminalModel", "programOf", "[I", true)
  | 5 => ("JobTerminalModel", "line", "[I", true)
  | 6 => ("JobTerminalModel", "register", "[I", true)
  | 7 => ("JobTerminalModel", "ends", "[I", true)
  | 8 => ("JobTerminalModel", "pending", "[I", true)
  | 9 => ("JobTerminalModel", "blocked", "[I", true)
  | 10 => ("JobTerminalModel", "ignored", "[I", true)
  | 11 => ("JobTerminalModel", "nap", "[I", true)
  | 12 => ("JobTerminalModel", "turn", "I", false)
  | 13 => ("JobTerminalModel", "there", "[Z", true)
  | 14 => ("JobTerminalModel", "first", "[I", true)
  | 15 => ("JobTerminalModel", "second", "[I", true)
  | 16 => ("JobTerminalModel", "was", "[I", true)
  | 17 => ("JobTerminalModel", "untold", "[Z", true)
  | 18 => ("JobTerminalModel", "piped", "[I", true)
  | 19 => ("JobTerminalModel", "pipe", "[I", true)
  | 20 => ("JobTerminalModel", "front", "I", false)
  | 21 => ("JobTerminalModel", "flag", "I", false)
  | 22 => ("JobTerminalModel", "hung", "Z", false)
  | 23 => ("JobTerminalModel", "edited", "I", false)
  | 24 => ("JobTerminalModel", "edit", "[I", true)
  | 25 => ("JobTerminalModel", "queued", "I", false)
  | 26 => ("JobTerminalModel", "queue", "[I", true)
  | 27 => ("JobTerminalModel", "shows", "I", false)
  | 28 => ("JobTerminalModel", "screen", "[I", true)
  | 29 => ("JobTerminalModel", "failed", "Z", false)
  | _ => ("JobTerminalModel", "code", "I", false)
def t_Mo : Nat → FieldType := fun k => match k with
  | 0 => .array .int
  | 1 => .array .int
  | 2 => .array .int
  | 3 => .array .int
  | 4 => .array .int
  | 5 => .array .int
  | 6 => .array .int
  | 7 => .array .int
  | 8 => .array .int
  | 9 => .array .int
  | 10 => .array .int
  | 11 => .array .int
  | 12 => .int
  | 13 => .array .boolean
  | 14 => .array .int
  | 15 => .array .int
  | 16 => .array .int
  | 17 => .array .boolean
  | 18 => .array .int
  | 19 => .array .int
  | 20 => .int
  | 21 => .int
  | 22 => .boolean
  | 23 => .int
  | 24 => .array .int
  | 25 => .int
  | 26 => .array .int
  | 27 => .int
  | 28 => .array .int
  | 29 => .boolean
  | _ => .int
theorem n_Mo : ∀ a, a < 31 → ∀ b, b < 31 → a ≠ b → (F_Mo a).2.1 ≠ (F_Mo b).2.1 := by decide +kernel
theorem t_Mo_ok : ∀ k, k < 31 → parseFieldDescriptor (F_Mo k).2.2.1 = some (t_Mo k) := by decide +kernel
abbrev vwCl : List vw_C := [(R_Display, F_Display, 3), (R_Job, F_Job, 6), (R_JobProcess, F_JobProcess, 10), (R_NumberRow, F_NumberRow, 3), (R_Programs, F_Programs, 2), (R_Terminal, F_Terminal, 5), (R_JT, F_JT, 6), (R_Mo, F_Mo, 31)]
def GW : List Cond := lw_tbl.filter goodWord
theorem q_mem {w : Cond} (i : Nat) (h : lw_tbl[i]? = some w) (hg : goodWord w = true) : w ∈ GW := List.mem_filter.mpr ⟨List.mem_of_getElem? h, hg⟩
theorem q_gw {w : Cond} (h : w ∈ GW) : w ∈ lw_tbl ∧ ((w.onTables && w.keeps) = true ∨ ∃ ty, w = .arrayClass ty) := ⟨(List.mem_filter.mp h).1, good_of_word (List.mem_filter.mp h).2⟩
theorem mw0 : (Jvm.Cond.laysFinal "JobTerminal$Display" "JobTerminal$Display" "codes" "[I") ∈ GW := q_mem 127 rfl rfl
theorem mw1 : (Jvm.Cond.lays "JobTerminal$Display" "JobTerminal$Display" "next" "I") ∈ GW := q_mem 129 rfl rfl
theorem mw2 : (Jvm.Cond.lays "JobTerminal$Display" "JobTerminal$Display" "total" "I") ∈ GW := q_mem 131 rfl rfl
theorem mw3 : (Jvm.Cond.laysFinal "JobTerminal$Job" "JobTerminal$Job" "number" "I") ∈ GW := q_mem 221 rfl rfl
theorem mw4 : (Jvm.Cond.laysFinal "JobTerminal$Job" "JobTerminal$Job" "pipe" "LJobTerminal$NumberRow;") ∈ GW := q_mem 223 rfl rfl
theorem mw5 : (Jvm.Cond.lays "JobTerminal$Job" "JobTerminal$Job" "first" "LJobTerminal$JobProcess;") ∈ GW := q_mem 225 rfl rfl
theorem mw6 : (Jvm.Cond.lays "JobTerminal$Job" "JobTerminal$Job" "second" "LJobTerminal$JobProcess;") ∈ GW := q_mem 227 rfl rfl
theorem mw7 : (Jvm.Cond.lays "JobTerminal$Job" "JobTerminal$Job" "untold" "Z") ∈ GW := q_mem 229 rfl rfl
theorem mw8 : (Jvm.Cond.lays "JobTerminal$Job" "JobTerminal$Job" "settledState" "I") ∈ GW := q_mem 231 rfl rfl
theorem mw9 : (Jvm.Cond.lays "JobTerminal$JobProcess" "JobTerminal$JobProcess" "owner" "LJobTerminal$Job;") ∈ GW := q_mem 179 rfl rfl
theorem mw10 : (Jvm.Cond.lays "JobTerminal$JobProcess" "JobTerminal$JobProcess" "state" "I") ∈ GW := q_mem 181 rfl rfl
theorem mw11 : (Jvm.Cond.lays "JobTerminal$JobProcess" "JobTerminal$JobProcess" "program" "I") ∈ GW := q_mem 183 rfl rfl
theorem mw12 : (Jvm.Cond.lays "JobTerminal$JobProcess" "JobTerminal$JobProcess" "line" "I") ∈ GW := q_mem 185 rfl rfl
theorem mw13 : (Jvm.Cond.lays "JobTerminal$JobProcess" "JobTerminal$JobProcess" "register" "I") ∈ GW := q_mem 187 rfl rfl
theorem mw14 : (Jvm.Cond.lays "JobTerminal$JobProcess" "JobTerminal$JobProcess" "code" "I") ∈ GW := q_mem 189 rfl rfl
theorem mw15 : (Jvm.Cond.lays "JobTerminal$JobProcess" "JobTerminal$JobProcess" "pending" "I") ∈ GW := q_mem 191 rfl rfl
theorem mw16 : (Jvm.Cond.lays "JobTerminal$JobProcess" "JobTerminal$JobProcess" "blocked" "I") ∈ GW := q_mem 193 rfl rfl
theorem mw17 : (Jvm.Cond.lays "JobTerminal$JobProcess" "JobTerminal$JobProcess" "ignored" "I") ∈ GW := q_mem 195 rfl rfl
theorem mw18 : (Jvm.Cond.lays "JobTerminal$JobProcess" "JobTerminal$JobProcess" "nap" "I") ∈ GW := q_mem 197 rfl rfl
theorem mw19 : (Jvm.Cond.laysFinal "JobTerminal$NumberRow" "JobTerminal$NumberRow" "numbers" "[I") ∈ GW := q_mem 110 rfl rfl
theorem mw20 : (Jvm.Cond.lays "JobTerminal$NumberRow" "JobTerminal$NumberRow" "oldest" "I") ∈ GW := q_mem 112 rfl rfl
theorem mw21 : (Jvm.Cond.lays "JobTerminal$NumberRow" "JobTerminal$NumberRow" "count" "I") ∈ GW := q_mem 114 rfl rfl
theorem mw22 : (Jvm.Cond.laysFinal "JobTerminal$Programs" "JobTerminal$Programs" "ops" "[I") ∈ GW := q_mem 84 rfl rfl
theorem mw23 : (Jvm.Cond.laysFinal "JobTerminal$Programs" "JobTerminal$Programs" "numbers" "[I") ∈ GW := q_mem 86 rfl rfl
theorem mw24 : (Jvm.Cond.laysFinal "JobTerminal$Terminal" "JobTerminal$Terminal" "edit" "LJobTerminal$NumberRow;") ∈ GW := q_mem 144 rfl rfl
theorem mw25 : (Jvm.Cond.laysFinal "JobTerminal$Terminal" "JobTerminal$Terminal" "queue" "LJobTerminal$NumberRow;") ∈ GW := q_mem 146 rfl rfl
theorem mw26 : (Jvm.Cond.laysFinal "JobTerminal$Terminal" "JobTerminal$Terminal" "display" "LJobTerminal$Display;") ∈ GW := q_mem 148 rfl rfl
theorem mw27 : (Jvm.Cond.lays "JobTerminal$Terminal" "JobTerminal$Terminal" "modes" "I") ∈ GW := q_mem 150 rfl rfl
theorem mw28 : (Jvm.Cond.lays "JobTerminal$Terminal" "JobTerminal$Terminal" "hangs" "Z") ∈ GW := q_mem 152 rfl rfl
theorem mw29 : (Jvm.Cond.laysFinal "JobTerminal" "JobTerminal" "programs" "LJobTerminal$Programs;") ∈ GW := q_mem 240 rfl rfl
theorem mw30 : (Jvm.Cond.laysFinal "JobTerminal" "JobTerminal" "processes" "[LJobTerminal$JobProcess;") ∈ GW := q_mem 242 rfl rfl
theorem mw31 : (Jvm.Cond.laysFinal "JobTerminal" "JobTerminal" "jobs" "[LJobTerminal$Job;") ∈ GW := q_mem 244 rfl rfl
theorem mw32 : (Jvm.Cond.laysFinal "JobTerminal" "JobTerminal" "terminal" "LJobTerminal$Terminal;") ∈ GW := q_mem 246 rfl rfl
theorem mw33 : (Jvm.Cond.lays "JobTerminal" "JobTerminal" "foregroundJob" "LJobTerminal$Job;") ∈ GW := q_mem 248 rfl rfl
theorem mw34 : (Jvm.Cond.lays "JobTerminal" "JobTerminal" "latestSlot" "I") ∈ GW := q_mem 250 rfl rfl
set_option maxRecDepth 20000 in
theorem mw35 : (Jvm.Cond.laysFinal "JobTerminalModel" "JobTerminalModel" "ops" "[I") ∈ GW := q_mem 722 rfl rfl
set_option maxRecDepth 20000 in
theorem mw36 : (Jvm.Cond.laysFinal "JobTerminalModel" "JobTerminalModel" "numbers" "[I") ∈ GW := q_mem 724 rfl rfl
set_option maxRecDepth 20000 in
theorem mw37 : (Jvm.Cond.laysFinal "JobTerminalModel" "JobTerminalModel" "state" "[I") ∈ GW := q_mem 726 rfl rfl
set_option maxRecDepth 20000 in
theorem mw38 : (Jvm.Cond.laysFinal "JobTerminalModel" "JobTerminalModel" "jobOf" "[I") ∈ GW := q_mem 728 rfl rfl
set_option maxRecDepth 20000 in
theorem mw39 : (Jvm.Cond.laysFinal "JobTerminalModel" "JobTerminalModel" "programOf" "[I") ∈ GW := q_mem 730 rfl rfl
set_option maxRecDepth 20000 in
theorem mw40 : (Jvm.Cond.laysFinal "JobTerminalModel" "JobTerminalModel" "line" "[I") ∈ GW := q_mem 732 rfl rfl
set_option maxRecDepth 20000 in
theorem mw41 : (Jvm.Cond.laysFinal "JobTerminalModel" "JobTerminalModel" "register" "[I") ∈ GW := q_mem 734 rfl rfl
set_option maxRecDepth 20000 in
theorem mw42 : (Jvm.Cond.laysFinal "JobTerminalModel" "JobTerminalModel" "ends" "[I") ∈ GW := q_mem 736 rfl rfl
set_option maxRecDepth 20000 in
theorem mw43 : (Jvm.Cond.laysFinal "JobTerminalModel" "JobTerminalModel" "pending" "[I") ∈ GW := q_mem 738 rfl rfl
set_option maxRecDepth 20000 in
theorem mw44 : (Jvm.Cond.laysFinal "JobTerminalModel" "JobTerminalModel" "blocked" "[I") ∈ GW := q_mem 740 rfl rfl
set_option maxRecDepth 20000 in
theorem mw45 : (Jvm.Cond.laysFinal "JobTerminalModel" "JobTerminalModel" "ignored" "[I") ∈ GW := q_mem 742 rfl rfl
set_option maxRecDepth 20000 in
theorem mw46 : (Jvm.Cond.laysFinal "JobTerminalModel" "JobTerminalModel" "nap" "[I") ∈ GW := q_mem 744 rfl rfl
set_option maxRecDepth 20000 in
theorem mw47 : (Jvm.Cond.lays "JobTerminalModel" "JobTerminalModel" "turn" "I") ∈ GW := q_mem 746 rfl rfl
set_option maxRecDepth 20000 in
theorem mw48 : (Jvm.Cond.laysFinal "JobTerminalModel" "JobTerminalModel" "there" "[Z") ∈ GW := q_mem 748 rfl rfl
set_option maxRecDepth 20000 in
theorem mw49 : (Jvm.Cond.laysFinal "JobTerminalModel" "JobTerminalModel" "first" "[I") ∈ GW := q_mem 750 rfl rfl
set_option maxRecDepth 20000 in
theorem mw50 : (Jvm.Cond.laysFinal "JobTerminalModel" "JobTerminalModel" "second" "[I") ∈ GW := q_mem 752 rfl rfl
set_option maxRecDepth 20000 in
theorem mw51 : (Jvm.Cond.laysFinal "JobTerminalModel" "JobTerminalModel" "was" "[I") ∈ GW := q_mem 754 rfl rfl
set_option maxRecDepth 20000 in
theorem mw52 : (Jvm.Cond.laysFinal "JobTerminalModel" "JobTerminalModel" "untold" "[Z") ∈ GW := q_mem 756 rfl rfl
set_option maxRecDepth 20000 in
theorem mw53 : (Jvm.Cond.laysFinal "JobTerminalModel" "JobTerminalModel" "piped" "[I") ∈ GW := q_mem 758 rfl rfl
set_option maxRecDepth 20000 in
theorem mw54 : (Jvm.Cond.laysFinal "JobTerminalModel" "JobTerminalModel" "pipe" "[I") ∈ GW := q_mem 760 rfl rfl
set_option maxRecDepth 20000 in
theorem mw55 : (Jvm.Cond.lays "JobTerminalModel" "JobTerminalModel" "front" "I") ∈ GW := q_mem 762 rfl rfl
set_option maxRecDepth 20000 in
theorem mw56 : (Jvm.Cond.lays "JobTerminalModel" "JobTerminalModel" "flag" "I") ∈ GW := q_mem 764 rfl rfl
set_option maxRecDepth 20000 in
theorem mw57 : (Jvm.Cond.lays "JobTerminalModel" "JobTerminalModel" "hung" "Z") ∈ GW := q_mem 766 rfl rfl
set_option maxRecDepth 20000 in
theorem mw58 : (Jvm.Cond.lays "JobTerminalModel" "JobTerminalModel" "edited" "I") ∈ GW := q_mem 768 rfl rfl
set_option maxRecDepth 20000 in
theorem mw59 : (Jvm.Cond.laysFinal "JobTerminalModel" "JobTerminalModel" "edit" "[I") ∈ GW := q_mem 770 rfl rfl
set_option maxRecDepth 20000 in
theorem mw60 : (Jvm.Cond.lays "JobTerminalModel" "JobTerminalModel" "queued" "I") ∈ GW := q_mem 772 rfl rfl
set_option maxRecDepth 20000 in
theorem mw61 : (Jvm.Cond.laysFinal "JobTerminalModel" "JobTerminalModel" "queue" "[I") ∈ GW := q_mem 774 rfl rfl
set_option maxRecDepth 20000 in
theorem mw62 : (Jvm.Cond.lays "JobTerminalModel" "JobTerminalModel" "shows" "I") ∈ GW := q_mem 776 rfl rfl
set_option maxRecDepth 20000 in
theorem mw63 : (Jvm.Cond.laysFinal "JobTerminalModel" "JobTerminalModel" "screen" "[I") ∈ GW := q_mem 778 rfl rfl
set_option maxRecDepth 20000 in
theorem mw64 : (Jvm.Cond.lays "JobTerminalModel" "JobTerminalModel" "failed" "Z") ∈ GW := q_mem 780 rfl rfl
set_option maxRecDepth 20000 in
theorem mw65 : (Jvm.Cond.lays "JobTerminalModel" "JobTerminalModel" "code" "I") ∈ GW := q_mem 782 rfl rfl
theorem mw66 : (Jvm.Cond.code ({ cls := "JobTerminal$Programs", name := "hasProgram", desc := "(I)Z" } : Jvm.MethodName) prog_6_method_2_code (1 : Nat) (Option.some Jvm.ClassFile.FieldType.boolean)) ∈ GW := q_mem 259 rfl rfl
theorem mw67 : (Jvm.Cond.methodLink "JobTerminal$Programs" (18 : Nat) ({ cls := "JobTerminal$Programs", name := "hasProgram", desc := "(I)Z" } : Jvm.MethodName)) ∈ GW := q_mem 267 rfl rfl
theorem mw68 : (Jvm.Cond.static ({ cls := "JobTerminal$Programs", name := "hasProgram", desc := "(I)Z" } : Jvm.MethodName)) ∈ GW := q_mem 258 rfl rfl
theorem mw69 : (Jvm.Cond.initialized "JobTerminal$Programs") ∈ GW := q_mem 55 rfl rfl
theorem mw70 : (Jvm.Cond.code ({ cls := "JobTerminal$Programs", name := "hasLine", desc := "(I)Z" } : Jvm.MethodName) prog_6_method_3_code (1 : Nat) (Option.some Jvm.ClassFile.FieldType.boolean)) ∈ GW := q_mem 262 rfl rfl
theorem mw71 : (Jvm.Cond.methodLink "JobTerminal$Programs" (22 : Nat) ({ cls := "JobTerminal$Programs", name := "hasLine", desc := "(I)Z" } : Jvm.MethodName)) ∈ GW := q_mem 268 rfl rfl
theorem mw72 : (Jvm.Cond.static ({ cls := "JobTerminal$Programs", name := "hasLine", desc := "(I)Z" } : Jvm.MethodName)) ∈ GW := q_mem 261 rfl rfl
theorem mw73 : (Jvm.Cond.methodLink "JobTerminal" (47 : Nat) ({ cls := "JobTerminal$Programs", name := "hasProgram", desc := "(I)Z" } : Jvm.MethodName)) ∈ GW := q_mem 257 rfl rfl
theorem mw74 : (Jvm.Cond.methodLink "JobTerminal" (51 : Nat) ({ cls := "JobTerminal$Programs", name := "hasLine", desc := "(I)Z" } : Jvm.MethodName)) ∈ GW := q_mem 260 rfl rfl
theorem mw75 : (Jvm.Cond.code ({ cls := "JobTerminal$Programs", name := "setLine", desc := "(IIII)V" } : Jvm.MethodName) prog_6_method_4_code (5 : Nat) (Option.none : Option Jvm.ClassFile.FieldType)) ∈ GW := q_mem 266 rfl rfl
theorem mw76 : (Jvm.Cond.methodLink "JobTerminal" (54 : Nat) ({ cls := "JobTerminal$Programs", name := "setLine", desc := "(IIII)V" } : Jvm.MethodName)) ∈ GW := q_mem 263 rfl rfl
theorem mw77 : (Jvm.Cond.instanceMethod ({ cls := "JobTerminal$Programs", name := "setLine", desc := "(IIII)V" } : Jvm.MethodName)) ∈ GW := q_mem 264 rfl rfl
theorem mw78 : (Jvm.Cond.selects "JobTerminal$Programs" ({ cls := "JobTerminal$Programs", name := "setLine", desc := "(IIII)V" } : Jvm.MethodName) ({ cls := "JobTerminal$Programs", name := "setLine", desc := "(IIII)V" } : Jvm.MethodName)) ∈ GW := q_mem 265 rfl rfl
theorem mw79 : (Jvm.Cond.code ({ cls := "JobTerminal$Terminal", name := "has", desc := "(I)Z" } : Jvm.MethodName) prog_7_method_2_code (2 : Nat) (Option.some Jvm.ClassFile.FieldType.boolean)) ∈ GW := q_mem 284 rfl rfl
theorem mw80 : (Jvm.Cond.methodLink "JobTerminal$Terminal" (41 : Nat) ({ cls := "JobTerminal$Terminal", name := "has", desc := "(I)Z" } : Jvm.MethodName)) ∈ GW := q_mem 281 rfl rfl
theorem mw81 : (Jvm.Cond.instanceMethod ({ cls := "JobTerminal$Terminal", name := "has", desc := "(I)Z" } : Jvm.MethodName)) ∈ GW := q_mem 282 rfl rfl
theorem mw82 : (Jvm.Cond.selects "JobTerminal$Terminal" ({ cls := "JobTerminal$Terminal", name := "has", desc := "(I)Z" } : Jvm.MethodName) ({ cls := "JobTerminal$Terminal", name := "has", desc := "(I)Z" } : Jvm.MethodName)) ∈ GW := q_mem 283 rfl rfl
theorem mw83 : (Jvm.Cond.initialized "JobTerminal$Terminal") ∈ GW := q_mem 56 rfl rfl
theorem mw84 : (Jvm.Cond.code ({ cls := "JobTerminal$NumberRow", name := "placeOf", desc := "(I)I" } : Jvm.MethodName) prog_5_method_7_code (3 : Nat) (Option.some Jvm.ClassFile.FieldType.int)) ∈ GW := q_mem 308 rfl rfl
theorem mw85 : (Jvm.Cond.methodLink "JobTerminal$NumberRow" (25 : Nat) ({ cls := "JobTerminal$NumberRow", name := "placeOf", desc := "(I)I" } : Jvm.MethodName)) ∈ GW := q_mem 305 rfl rfl
theorem mw86 : (Jvm.Cond.instanceMethod ({ cls := "JobTerminal$NumberRow", name := "placeOf", desc := "(I)I" } : Jvm.MethodName)) ∈ GW := q_mem 307 rfl rfl
theorem mw87 : (Jvm.Cond.selects "JobTerminal$NumberRow" ({ cls := "JobTerminal$NumberRow", name := "placeOf", desc := "(I)I" } : Jvm.MethodName) ({ cls := "JobTerminal$NumberRow", name := "placeOf", desc := "(I)I" } : Jvm.MethodName)) ∈ GW := q_mem 1 rfl rfl
theorem mw88 : (Jvm.Cond.initialized "JobTerminal$NumberRow") ∈ GW := q_mem 57 rfl rfl
theorem mw89 : (Jvm.Cond.code ({ cls := "JobTerminal$Display", name := "add", desc := "(I)V" } : Jvm.MethodName) prog_2_method_2_code (2 : Nat) (Option.none : Option Jvm.ClassFile.FieldType)) ∈ GW := q_mem 320 rfl rfl
theorem mw90 : (Jvm.Cond.methodLink "JobTerminal$Terminal" (89 : Nat) ({ cls := "JobTerminal$Display", name := "add", desc := "(I)V" } : Jvm.MethodName)) ∈ GW := q_mem 317 rfl rfl
theorem mw91 : (Jvm.Cond.instanceMethod ({ cls := "JobTerminal$Display", name := "add", desc := "(I)V" } : Jvm.MethodName)) ∈ GW := q_mem 318 rfl rfl
theorem mw92 : (Jvm.Cond.selects "JobTerminal$Display" ({ cls := "JobTerminal$Display", name := "add", desc := "(I)V" } : Jvm.MethodName) ({ cls := "JobTerminal$Display", name := "add", desc := "(I)V" } : Jvm.MethodName)) ∈ GW := q_mem 319 rfl rfl
theorem mw93 : (Jvm.Cond.initialized "JobTerminal$Display") ∈ GW := q_mem 59 rfl rfl
theorem mw94 : (Jvm.Cond.code ({ cls := "JobTerminal$Terminal", name := "show", desc := "(I)V" } : Jvm.MethodName) prog_7_method_16_code (2 : Nat) (Option.none : Option Jvm.ClassFile.FieldType)) ∈ GW := q_mem 316 rfl rfl
theorem mw95 : (Jvm.Cond.methodLink "JobTerminal$Terminal" (86 : Nat) ({ cls := "JobTerminal$Terminal", name := "show", desc := "(I)V" } : Jvm.MethodName)) ∈ GW := q_mem 313 rfl rfl
theorem mw96 : (Jvm.Cond.instanceMethod ({ cls := "JobTerminal$Terminal", name := "show", desc := "(I)V" } : Jvm.MethodName)) ∈ GW := q_mem 314 rfl rfl
theorem mw97 : (Jvm.Cond.selects "JobTerminal$Terminal" ({ cls := "JobTerminal$Terminal", name := "show", desc := "(I)V" } : Jvm.MethodName) ({ cls := "JobTerminal$Terminal", name := "show", desc := "(I)V" } : Jvm.MethodName)) ∈ GW := q_mem 315 rfl rfl
theorem mw98 : (Jvm.Cond.code ({ cls := "JobTerminal$NumberRow", name := "hasRoomFor", desc := "(I)Z" } : Jvm.MethodName) prog_5_method_2_code (2 : Nat) (Option.some Jvm.ClassFile.FieldType.boolean)) ∈ GW := q_mem 300 rfl rfl
theorem mw99 : (Jvm.Cond.methodLink "JobTerminal$Terminal" (64 : Nat) ({ cls := "JobTerminal$NumberRow", name := "hasRoomFor", desc := "(I)Z" } : Jvm.MethodName)) ∈ GW := q_mem 297 rfl rfl
theorem mw100 : (Jvm.Cond.instanceMethod ({ cls := "JobTerminal$NumberRow", name := "hasRoomFor", desc := "(I)Z" } : Jvm.MethodName)) ∈ GW := q_mem 298 rfl rfl
theorem mw101 : (Jvm.Cond.selects "JobTerminal$NumberRow" ({ cls := "JobTerminal$NumberRow", name := "hasRoomFor", desc := "(I)Z" } : Jvm.MethodName) ({ cls := "JobTerminal$NumberRow", name := "hasRoomFor", desc := "(I)Z" } : Jvm.MethodName)) ∈ GW := q_mem 299 rfl rfl
theorem mw102 : (Jvm.Cond.code ({ cls := "JobTerminal$NumberRow", name := "putLast", desc := "(I)V" } : Jvm.MethodName) prog_5_method_3_code (2 : Nat) (Option.none : Option Jvm.ClassFile.FieldType)) ∈ GW := q_mem 304 rfl rfl
theorem mw103 : (Jvm.Cond.methodLink "JobTerminal$Terminal" (67 : Nat) ({ cls := "JobTerminal$NumberRow", name := "putLast", desc := "(I)V" } : Jvm.MethodName)) ∈ GW := q_mem 301 rfl rfl
theorem mw104 : (Jvm.Cond.instanceMethod ({ cls := "JobTerminal$NumberRow", name := "putLast", desc := "(I)V" } : Jvm.MethodName)) ∈ GW := q_mem 302 rfl rfl
theorem mw105 : (Jvm.Cond.selects "JobTerminal$NumberRow" ({ cls := "JobTerminal$NumberRow", name := "putLast", desc := "(I)V" } : Jvm.MethodName) ({ cls := "JobTerminal$NumberRow", name := "putLast", desc := "(I)V" } : Jvm.MethodName)) ∈ GW := q_mem 303 rfl rfl
theorem mw106 : (Jvm.Cond.code ({ cls := "JobTerminal$Terminal", name := "echo", desc := "(I)V" } : Jvm.MethodName) prog_7_method_15_code (2 : Nat) (Option.none : Option Jvm.ClassFile.FieldType)) ∈ GW := q_mem 312 rfl rfl
theorem mw107 : (Jvm.Cond.methodLink "JobTerminal$Terminal" (45 : Nat) ({ cls := "JobTerminal$Terminal", name := "echo", desc := "(I)V" } : Jvm.MethodName)) ∈ GW := q_mem 309 rfl rfl
theorem mw108 : (Jvm.Cond.instanceMethod ({ cls := "JobTerminal$Terminal", name := "echo", desc := "(I)V" } : Jvm.MethodName)) ∈ GW := q_mem 311 rfl rfl
theorem mw109 : (Jvm.Cond.selects "JobTerminal$Terminal" ({ cls := "JobTerminal$Terminal", name := "echo", desc := "(I)V" } : Jvm.MethodName) ({ cls := "JobTerminal$Terminal", name := "echo", desc := "(I)V" } : Jvm.MethodName)) ∈ GW := q_mem 2 rfl rfl
theorem mw110 : (Jvm.Cond.code ({ cls := "JobTerminal$NumberRow", name := "takeLatest", desc := "()I" } : Jvm.MethodName) prog_5_method_5_code (1 : Nat) (Option.some Jvm.ClassFile.FieldType.int)) ∈ GW := q_mem 328 rfl rfl
theorem mw111 : (Jvm.Cond.methodLink "JobTerminal$Terminal" (80 : Nat) ({ cls := "JobTerminal$NumberRow", name := "takeLatest", desc := "()I" } : Jvm.MethodName)) ∈ GW := q_mem 325 rfl rfl
theorem mw112 : (Jvm.Cond.instanceMethod ({ cls := "JobTerminal$NumberRow", name := "takeLatest", desc := "()I" } : Jvm.MethodName)) ∈ GW := q_mem 326 rfl rfl
theorem mw113 : (Jvm.Cond.selects "JobTerminal$NumberRow" ({ cls := "JobTerminal$NumberRow", name := "takeLatest", desc := "()I" } : Jvm.MethodName) ({ cls := "JobTerminal$NumberRow", name := "takeLatest", desc := "()I" } : Jvm.MethodName)) ∈ GW := q_mem 327 rfl rfl
theorem mw114 : (Jvm.Cond.code ({ cls := "JobTerminal$Terminal", name := "showRubbing", desc := "()V" } : Jvm.MethodName) prog_7_method_14_code (1 : Nat) (Option.none : Option Jvm.ClassFile.FieldType)) ∈ GW := q_mem 332 rfl rfl
theorem mw115 : (Jvm.Cond.methodLink "JobTerminal$Terminal" (83 : Nat) ({ cls := "JobTerminal$Terminal", name := "showRubbing", desc := "()V" } : Jvm.MethodName)) ∈ GW := q_mem 329 rfl rfl
theorem mw116 : (Jvm.Cond.instanceMethod ({ cls := "JobTerminal$Terminal", name := "showRubbing", desc := "()V" } : Jvm.MethodName)) ∈ GW := q_mem 331 rfl rfl
theorem mw117 : (Jvm.Cond.selects "JobTerminal$Terminal" ({ cls := "JobTerminal$Terminal", name := "showRubbing", desc := "()V" } : Jvm.MethodName) ({ cls := "JobTerminal$Terminal", name := "showRubbing", desc := "()V" } : Jvm.MethodName)) ∈ GW := q_mem 4 rfl rfl
theorem mw118 : (Jvm.Cond.code ({ cls := "JobTerminal$NumberRow", name := "takeOldest", desc := "()I" } : Jvm.MethodName) prog_5_method_4_code (2 : Nat) (Option.some Jvm.ClassFile.FieldType.int)) ∈ GW := q_mem 344 rfl rfl
theorem mw119 : (Jvm.Cond.methodLink "JobTerminal$Terminal" (76 : Nat) ({ cls := "JobTerminal$NumberRow", name := "takeOldest", desc := "()I" } : Jvm.MethodName)) ∈ GW := q_mem 341 rfl rfl
theorem mw120 : (Jvm.Cond.instanceMethod ({ cls := "JobTerminal$NumberRow", name := "takeOldest", desc := "()I" } : Jvm.MethodName)) ∈ GW := q_mem 342 rfl rfl
theorem mw121 : (Jvm.Cond.selects "JobTerminal$NumberRow" ({ cls := "JobTerminal$NumberRow", name := "takeOldest", desc := "()I" } : Jvm.MethodName) ({ cls := "JobTerminal$NumberRow", name := "takeOldest", desc := "()I" } : Jvm.MethodName)) ∈ GW := q_mem 343 rfl rfl
theorem mw122 : (Jvm.Cond.code ({ cls := "JobTerminal$Terminal", name := "queueEdit", desc := "(I)Z" } : Jvm.MethodName) prog_7_method_12_code (3 : Nat) (Option.some Jvm.ClassFile.FieldType.boolean)) ∈ GW := q_mem 340 rfl rfl
theorem mw123 : (Jvm.Cond.methodLink "JobTerminal$Terminal" (73 : Nat) ({ cls := "JobTerminal$Terminal", name := "queueEdit", desc := "(I)Z" } : Jvm.MethodName)) ∈ GW := q_mem 337 rfl rfl
theorem mw124 : (Jvm.Cond.instanceMethod ({ cls := "JobTerminal$Terminal", name := "queueEdit", desc := "(I)Z" } : Jvm.MethodName)) ∈ GW := q_mem 339 rfl rfl
theorem mw125 : (Jvm.Cond.selects "JobTerminal$Terminal" ({ cls := "JobTerminal$Terminal", name := "queueEdit", desc := "(I)Z" } : Jvm.MethodName) ({ cls := "JobTerminal$Terminal", name := "queueEdit", desc := "(I)Z" } : Jvm.MethodName)) ∈ GW := q_mem 6 rfl rfl
theorem mw126 : (Jvm.Cond.code ({ cls := "JobTerminal$Terminal", name := "endInput", desc := "()Z" } : Jvm.MethodName) prog_7_method_10_code (1 : Nat) (Option.some Jvm.ClassFile.FieldType.boolean)) ∈ GW := q_mem 336 rfl rfl
theorem mw127 : (Jvm.Cond.methodLink "JobTerminal$Terminal" (54 : Nat) ({ cls := "JobTerminal$Terminal", name := "endInput", desc := "()Z" } : Jvm.MethodName)) ∈ GW := q_mem 333 rfl rfl
theorem mw128 : (Jvm.Cond.instanceMethod ({ cls := "JobTerminal$Terminal", name := "endInput", desc := "()Z" } : Jvm.MethodName)) ∈ GW := q_mem 335 rfl rfl
theorem mw129 : (Jvm.Cond.selects "JobTerminal$Terminal" ({ cls := "JobTerminal$Terminal", name := "endInput", desc := "()Z" } : Jvm.MethodName) ({ cls := "JobTerminal$Terminal", name := "endInput", desc := "()Z" } : Jvm.MethodName)) ∈ GW := q_mem 5 rfl rfl
theorem mw130 : (Jvm.Cond.code ({ cls := "JobTerminal$Terminal", name := "endLine", desc := "()Z" } : Jvm.MethodName) prog_7_method_11_code (1 : Nat) (Option.some Jvm.ClassFile.FieldType.boolean)) ∈ GW := q_mem 348 rfl rfl
theorem mw131 : (Jvm.Cond.methodLink "JobTerminal$Terminal" (58 : Nat) ({ cls := "JobTerminal$Terminal", name := "endLine", desc := "()Z" } : Jvm.MethodName)) ∈ GW := q_mem 345 rfl rfl
theorem mw132 : (Jvm.Cond.instanceMethod ({ cls := "JobTerminal$Terminal", name := "endLine", desc := "()Z" } : Jvm.MethodName)) ∈ GW := q_mem 347 rfl rfl
theorem mw133 : (Jvm.Cond.selects "JobTerminal$Terminal" ({ cls := "JobTerminal$Terminal", name := "endLine", desc := "()Z" } : Jvm.MethodName) ({ cls := "JobTerminal$Terminal", name := "endLine", desc := "()Z" } : Jvm.MethodName)) ∈ GW := q_mem 7 rfl rfl
theorem mw134 : (Jvm.Cond.code ({ cls := "JobTerminal$Terminal", name := "rubOut", desc := "(I)V" } : Jvm.MethodName) prog_7_method_13_code (4 : Nat) (Option.none : Option Jvm.ClassFile.FieldType)) ∈ GW := q_mem 324 rfl rfl
theorem mw135 : (Jvm.Cond.methodLink "JobTerminal$Terminal" (51 : Nat) ({ cls := "JobTerminal$Terminal", name := "rubOut", desc := "(I)V" } : Jvm.MethodName)) ∈ GW := q_mem 321 rfl rfl
theorem mw136 : (Jvm.Cond.instanceMethod ({ cls := "JobTerminal$Terminal", name := "rubOut", desc := "(I)V" } : Jvm.MethodName)) ∈ GW := q_mem 323 rfl rfl
theorem mw137 : (Jvm.Cond.selects "JobTerminal$Terminal" ({ cls := "JobTerminal$Terminal", name := "rubOut", desc := "(I)V" } : Jvm.MethodName) ({ cls := "JobTerminal$Terminal", name := "rubOut", desc := "(I)V" } : Jvm.MethodName)) ∈ GW := q_mem 3 rfl rfl
theorem mw138 : (Jvm.Cond.code ({ cls := "JobTerminal$Terminal", name := "addToEdit", desc := "(I)Z" } : Jvm.MethodName) prog_7_method_9_code (2 : Nat) (Option.some Jvm.ClassFile.FieldType.boolean)) ∈ GW := q_mem 352 rfl rfl
theorem mw139 : (Jvm.Cond.methodLink "JobTerminal$Terminal" (61 : Nat) ({ cls := "JobTerminal$Terminal", name := "addToEdit", desc := "(I)Z" } : Jvm.MethodName)) ∈ GW := q_mem 349 rfl rfl
theorem mw140 : (Jvm.Cond.instanceMethod ({ cls := "JobTerminal$Terminal", name := "addToEdit", desc := "(I)Z" } : Jvm.MethodName)) ∈ GW := q_mem 351 rfl rfl
theorem mw141 : (Jvm.Cond.selects "JobTerminal$Terminal" ({ cls := "JobTerminal$Terminal", name := "addToEdit", desc := "(I)Z" } : Jvm.MethodName) ({ cls := "JobTerminal$Terminal", name := "addToEdit", desc := "(I)Z" } : Jvm.MethodName)) ∈ GW := q_mem 8 rfl rfl
theorem mw142 : (Jvm.Cond.code ({ cls := "JobTerminal$Terminal", name := "typeUnedited", desc := "(I)Z" } : Jvm.MethodName) prog_7_method_8_code (2 : Nat) (Option.some Jvm.ClassFile.FieldType.boolean)) ∈ GW := q_mem 296 rfl rfl
theorem mw143 : (Jvm.Cond.methodLink "JobTerminal$Terminal" (48 : Nat) ({ cls := "JobTerminal$Terminal", name := "typeUnedited", desc := "(I)Z" } : Jvm.MethodName)) ∈ GW := q_mem 293 rfl rfl
theorem mw144 : (Jvm.Cond.instanceMethod ({ cls := "JobTerminal$Terminal", name := "typeUnedited", desc := "(I)Z" } : Jvm.MethodName)) ∈ GW := q_mem 295 rfl rfl
theorem mw145 : (Jvm.Cond.selects "JobTerminal$Terminal" ({ cls := "JobTerminal$Terminal", name := "typeUnedited", desc := "(I)Z" } : Jvm.MethodName) ({ cls := "JobTerminal$Terminal", name := "typeUnedited", desc := "(I)Z" } : Jvm.MethodName)) ∈ GW := q_mem 0 rfl rfl
theorem mw146 : (Jvm.Cond.code ({ cls := "JobTerminal$JobProcess", name := "act", desc := "(I)V" } : Jvm.MethodName) prog_4_method_8_code (2 : Nat) (Option.none : Option Jvm.ClassFile.FieldType)) ∈ GW := q_mem 368 rfl rfl
theorem mw147 : (Jvm.Cond.methodLink "JobTerminal$JobProcess" (51 : Nat) ({ cls := "JobTerminal$JobProcess", name := "act", desc := "(I)V" } : Jvm.MethodName)) ∈ GW := q_mem 365 rfl rfl
theorem mw148 : (Jvm.Cond.instanceMethod ({ cls := "JobTerminal$JobProcess", name := "act", desc := "(I)V" } : Jvm.MethodName)) ∈ GW := q_mem 367 rfl rfl
theorem mw149 : (Jvm.Cond.selects "JobTerminal$JobProcess" ({ cls := "JobTerminal$JobProcess", name := "act", desc := "(I)V" } : Jvm.MethodName) ({ cls := "JobTerminal$JobProcess", name := "act", desc := "(I)V" } : Jvm.MethodName)) ∈ GW := q_mem 10 rfl rfl
theorem mw150 : (Jvm.Cond.initialized "JobTerminal$JobProcess") ∈ GW := q_mem 60 rfl rfl
theorem mw151 : (Jvm.Cond.code ({ cls := "JobTerminal$JobProcess", name := "actOnPending", desc := "()V" } : Jvm.MethodName) prog_4_method_7_code (2 : Nat) (Option.none : Option Jvm.ClassFile.FieldType)) ∈ GW := q_mem 364 rfl rfl
theorem mw152 : (Jvm.Cond.methodLink "JobTerminal$JobProcess" (48 : Nat) ({ cls := "JobTerminal$JobProcess", name := "actOnPending", desc := "()V" } : Jvm.MethodName)) ∈ GW := q_mem 361 rfl rfl
theorem mw153 : (Jvm.Cond.instanceMethod ({ cls := "JobTerminal$JobProcess", name := "actOnPending", desc := "()V" } : Jvm.MethodName)) ∈ GW := q_mem 363 rfl rfl
theorem mw154 : (Jvm.Cond.selects "JobTerminal$JobProcess" ({ cls := "JobTerminal$JobProcess", name := "actOnPending", desc := "()V" } : Jvm.MethodName) ({ cls := "JobTerminal$JobProcess", name := "actOnPending", desc := "()V" } : Jvm.MethodName)) ∈ GW := q_mem 9 rfl rfl
theorem mw155 : (Jvm.Cond.code ({ cls := "JobTerminal$JobProcess", name := "receive", desc := "(I)V" } : Jvm.MethodName) prog_4_method_6_code (3 : Nat) (Option.none : Option Jvm.ClassFile.FieldType)) ∈ GW := q_mem 360 rfl rfl
theorem mw156 : (Jvm.Cond.methodLink "JobTerminal$Job" (55 : Nat) ({ cls := "JobTerminal$JobProcess", name := "receive", desc := "(I)V" } : Jvm.MethodName)) ∈ GW := q_mem 357 rfl rfl
theorem mw157 : (Jvm.Cond.instanceMethod ({ cls := "JobTerminal$JobProcess", name := "receive", desc := "(I)V" } : Jvm.MethodName)) ∈ GW := q_mem 358 rfl rfl
theorem mw158 : (Jvm.Cond.selects "JobTerminal$JobProcess" ({ cls := "JobTerminal$JobProcess", name := "receive", desc := "(I)V" } : Jvm.MethodName) ({ cls := "JobTerminal$JobProcess", name := "receive", desc := "(I)V" } : Jvm.MethodName)) ∈ GW := q_mem 359 rfl rfl
theorem mw159 : (Jvm.Cond.code ({ cls := "JobTerminal$NumberRow", name := "clear", desc := "()V" } : Jvm.MethodName) prog_5_method_6_code (1 : Nat) (Option.none : Option Jvm.ClassFile.FieldType)) ∈ GW := q_mem 376 rfl rfl
theorem mw160 : (Jvm.Cond.methodLink "JobTerminal$Terminal" (38 : Nat) ({ cls := "JobTerminal$NumberRow", name := "clear", desc := "()V" } : Jvm.MethodName)) ∈ GW := q_mem 373 rfl rfl
theorem mw161 : (Jvm.Cond.instanceMethod ({ cls := "JobTerminal$NumberRow", name := "clear", desc := "()V" } : Jvm.MethodName)) ∈ GW := q_mem 374 rfl rfl
theorem mw162 : (Jvm.Cond.selects "JobTerminal$NumberRow" ({ cls := "JobTerminal$NumberRow", name := "clear", desc := "()V" } : Jvm.MethodName) ({ cls := "JobTerminal$NumberRow", name := "clear", desc := "()V" } : Jvm.MethodName)) ∈ GW := q_mem 375 rfl rfl
theorem mw163 : (Jvm.Cond.methodLink "JobTerminal$Job" (49 : Nat) ({ cls := "java/lang/Math", name := "min", desc := "(II)I" } : Jvm.MethodName)) ∈ GW := q_mem 389 rfl rfl
theorem mw164 : (Jvm.Cond.static ({ cls := "java/lang/Math", name := "min", desc := "(II)I" } : Jvm.MethodName)) ∈ GW := q_mem 390 rfl rfl
theorem mw165 : (Jvm.Cond.initialized "java/lang/Math") ∈ GW := q_mem 58 rfl rfl
theorem mw166 : (Jvm.Cond.code ({ cls := "java/lang/Math", name := "min", desc := "(II)I" } : Jvm.MethodName) prog_13_method_69_code (2 : Nat) (Option.some Jvm.ClassFile.FieldType.int)) ∈ GW := q_mem 391 rfl rfl
theorem mw167 : (Jvm.Cond.code ({ cls := "JobTerminal$Job", name := "state", desc := "()I" } : Jvm.MethodName) prog_3_method_5_code (1 : Nat) (Option.some Jvm.ClassFile.FieldType.int)) ∈ GW := q_mem 388 rfl rfl
theorem mw168 : (Jvm.Cond.methodLink "JobTerminal" (120 : Nat) ({ cls := "JobTerminal$Job", name := "state", desc := "()I" } : Jvm.MethodName)) ∈ GW := q_mem 385 rfl rfl
theorem mw169 : (Jvm.Cond.instanceMethod ({ cls := "JobTerminal$Job", name := "state", desc := "()I" } : Jvm.MethodName)) ∈ GW := q_mem 386 rfl rfl
theorem mw170 : (Jvm.Cond.selects "JobTerminal$Job" ({ cls := "JobTerminal$Job", name := "state", desc := "()I" } : Jvm.MethodName) ({ cls := "JobTerminal$Job", name := "state", desc := "()I" } : Jvm.MethodName)) ∈ GW := q_mem 387 rfl rfl
theorem mw171 : (Jvm.Cond.initialized "JobTerminal$Job") ∈ GW := q_mem 61 rfl rfl
theorem mw172 : (Jvm.Cond.code ({ cls := "JobTerminal", name := "settle", desc := "(LJobTerminal$Job;)V" } : Jvm.MethodName) prog_1_method_24_code (2 : Nat) (Option.none : Option Jvm.ClassFile.FieldType)) ∈ GW := q_mem 384 rfl rfl
theorem mw173 : (Jvm.Cond.methodLink "JobTerminal" (155 : Nat) ({ cls := "JobTerminal", name := "settle", desc := "(LJobTerminal$Job;)V" } : Jvm.MethodName)) ∈ GW := q_mem 381 rfl rfl
theorem mw174 : (Jvm.Cond.instanceMethod ({ cls := "JobTerminal", name := "settle", desc := "(LJobTerminal$Job;)V" } : Jvm.MethodName)) ∈ GW := q_mem 383 rfl rfl
theorem mw175 : (Jvm.Cond.selects "JobTerminal" ({ cls := "JobTerminal", name := "settle", desc := "(LJobTerminal$Job;)V" } : Jvm.MethodName) ({ cls := "JobTerminal", name := "settle", desc := "(LJobTerminal$Job;)V" } : Jvm.MethodName)) ∈ GW := q_mem 12 rfl rfl
theorem mw176 : (Jvm.Cond.initialized "JobTerminal") ∈ GW := q_mem 54 rfl rfl
theorem mw177 : (Jvm.Cond.code ({ cls := "JobTerminal$Terminal", name := "translate", desc := "(I)I" } : Jvm.MethodName) prog_7_method_4_code (2 : Nat) (Option.some Jvm.ClassFile.FieldType.int)) ∈ GW := q_mem 280 rfl rfl
theorem mw178 : (Jvm.Cond.methodLink "JobTerminal" (61 : Nat) ({ cls := "JobTerminal$Terminal", name := "translate", desc := "(I)I" } : Jvm.MethodName)) ∈ GW := q_mem 277 rfl rfl
theorem mw179 : (Jvm.Cond.instanceMethod ({ cls := "JobTerminal$Terminal", name := "translate", desc := "(I)I" } : Jvm.MethodName)) ∈ GW := q_mem 278 rfl rfl
theorem mw180 : (Jvm.Cond.selects "JobTerminal$Terminal" ({ cls := "JobTerminal$Terminal", name := "translate", desc := "(I)I" } : Jvm.MethodName) ({ cls := "JobTerminal$Terminal", name := "translate", desc := "(I)I" } : Jvm.MethodName)) ∈ GW := q_mem 279 rfl rfl
theorem mw181 : (Jvm.Cond.code ({ cls := "JobTerminal$Terminal", name := "signalFor", desc := "(I)I" } : Jvm.MethodName) prog_7_method_5_code (2 : Nat) (Option.some Jvm.ClassFile.FieldType.int)) ∈ GW := q_mem 288 rfl rfl
theorem mw182 : (Jvm.Cond.methodLink "JobTerminal" (65 : Nat) ({ cls := "JobTerminal$Terminal", name := "signalFor", desc := "(I)I" } : Jvm.MethodName)) ∈ GW := q_mem 285 rfl rfl
theorem mw183 : (Jvm.Cond.instanceMethod ({ cls := "JobTerminal$Terminal", name := "signalFor", desc := "(I)I" } : Jvm.MethodName)) ∈ GW := q_mem 286 rfl rfl
theorem mw184 : (Jvm.Cond.selects "JobTerminal$Terminal" ({ cls := "JobTerminal$Terminal", name := "signalFor", desc := "(I)I" } : Jvm.MethodName) ({ cls := "JobTerminal$Terminal", name := "signalFor", desc := "(I)I" } : Jvm.MethodName)) ∈ GW := q_mem 287 rfl rfl
theorem mw185 : (Jvm.Cond.code ({ cls := "JobTerminal$Job", name := "receive", desc := "(I)V" } : Jvm.MethodName) prog_3_method_10_code (2 : Nat) (Option.none : Option Jvm.ClassFile.FieldType)) ∈ GW := q_mem 356 rfl rfl
theorem mw186 : (Jvm.Cond.methodLink "JobTerminal" (71 : Nat) ({ cls := "JobTerminal$Job", name := "receive", desc := "(I)V" } : Jvm.MethodName)) ∈ GW := q_mem 353 rfl rfl
theorem mw187 : (Jvm.Cond.instanceMethod ({ cls := "JobTerminal$Job", name := "receive", desc := "(I)V" } : Jvm.MethodName)) ∈ GW := q_mem 354 rfl rfl
theorem mw188 : (Jvm.Cond.selects "JobTerminal$Job" ({ cls := "JobTerminal$Job", name := "receive", desc := "(I)V" } : Jvm.MethodName) ({ cls := "JobTerminal$Job", name := "receive", desc := "(I)V" } : Jvm.MethodName)) ∈ GW := q_mem 355 rfl rfl
theorem mw189 : (Jvm.Cond.code ({ cls := "JobTerminal$Terminal", name := "type", desc := "(I)Z" } : Jvm.MethodName) prog_7_method_7_code (2 : Nat) (Option.some Jvm.ClassFile.FieldType.boolean)) ∈ GW := q_mem 292 rfl rfl
theorem mw190 : (Jvm.Cond.methodLink "JobTerminal" (68 : Nat) ({ cls := "JobTerminal$Terminal", name := "type", desc := "(I)Z" } : Jvm.MethodName)) ∈ GW := q_mem 289 rfl rfl
theorem mw191 : (Jvm.Cond.instanceMethod ({ cls := "JobTerminal$Terminal", name := "type", desc := "(I)Z" } : Jvm.MethodName)) ∈ GW := q_mem 290 rfl rfl
theorem mw192 : (Jvm.Cond.selects "JobTerminal$Terminal" ({ cls := "JobTerminal$Terminal", name := "type", desc := "(I)Z" } : Jvm.MethodName) ({ cls := "JobTerminal$Terminal", name := "type", desc := "(I)Z" } : Jvm.MethodName)) ∈ GW := q_mem 291 rfl rfl
theorem mw193 : (Jvm.Cond.code ({ cls := "JobTerminal$Terminal", name := "dropEdit", desc := "(I)V" } : Jvm.MethodName) prog_7_method_6_code (2 : Nat) (Option.none : Option Jvm.ClassFile.FieldType)) ∈ GW := q_mem 372 rfl rfl
theorem mw194 : (Jvm.Cond.methodLink "JobTerminal" (74 : Nat) ({ cls := "JobTerminal$Terminal", name := "dropEdit", desc := "(I)V" } : Jvm.MethodName)) ∈ GW := q_mem 369 rfl rfl
theorem mw195 : (Jvm.Cond.instanceMethod ({ cls := "JobTerminal$Terminal", name := "dropEdit", desc := "(I)V" } : Jvm.MethodName)) ∈ GW := q_mem 370 rfl rfl
theorem mw196 : (Jvm.Cond.selects "JobTerminal$Terminal" ({ cls := "JobTerminal$Terminal", name := "dropEdit", desc := "(I)V" } : Jvm.MethodName) ({ cls := "JobTerminal$Terminal", name := "dropEdit", desc := "(I)V" } : Jvm.MethodName)) ∈ GW := q_mem 371 rfl rfl
theorem mw197 : (Jvm.Cond.code ({ cls := "JobTerminal", name := "settleAll", desc := "()V" } : Jvm.MethodName) prog_1_method_23_code (2 : Nat) (Option.none : Option Jvm.ClassFile.FieldType)) ∈ GW := q_mem 380 rfl rfl
theorem mw198 : (Jvm.Cond.methodLink "JobTerminal" (77 : Nat) ({ cls := "JobTerminal", name := "settleAll", desc := "()V" } : Jvm.MethodName)) ∈ GW := q_mem 377 rfl rfl
theorem mw199 : (Jvm.Cond.instanceMethod ({ cls := "JobTerminal", name := "settleAll", desc := "()V" } : Jvm.MethodName)) ∈ GW := q_mem 379 rfl rfl
theorem mw200 : (Jvm.Cond.selects "JobTerminal" ({ cls := "JobTerminal", name := "settleAll", desc := "()V" } : Jvm.MethodName) ({ cls := "JobTerminal", name := "settleAll", desc := "()V" } : Jvm.MethodName)) ∈ GW := q_mem 11 rfl rfl
theorem mw201 : (Jvm.Cond.code ({ cls := "JobTerminal$Job", name := "exists", desc := "()Z" } : Jvm.MethodName) prog_3_method_2_code (1 : Nat) (Option.some Jvm.ClassFile.FieldType.boolean)) ∈ GW := q_mem 399 rfl rfl
theorem mw202 : (Jvm.Cond.methodLink "JobTerminal" (132 : Nat) ({ cls := "JobTerminal$Job", name := "exists", desc := "()Z" } : Jvm.MethodName)) ∈ GW := q_mem 396 rfl rfl
theorem mw203 : (Jvm.Cond.instanceMethod ({ cls := "JobTerminal$Job", name := "exists", desc := "()Z" } : Jvm.MethodName)) ∈ GW := q_mem 397 rfl rfl
theorem mw204 : (Jvm.Cond.selects "JobTerminal$Job" ({ cls := "JobTerminal$Job", name := "exists", desc := "()Z" } : Jvm.MethodName) ({ cls := "JobTerminal$Job", name := "exists", desc := "()Z" } : Jvm.MethodName)) ∈ GW := q_mem 398 rfl rfl
set_option maxRecDepth 20000 in
theorem mw205 : (Jvm.Cond.methodLink "JobTerminal$Job" (34 : Nat) ({ cls := "JobTerminal$NumberRow", name := "clear", desc := "()V" } : Jvm.MethodName)) ∈ GW := q_mem 656 rfl rfl
set_option maxRecDepth 20000 in
theorem mw206 : (Jvm.Cond.code ({ cls := "JobTerminal", name := "findJob", desc := "(I)LJobTerminal$Job;" } : Jvm.MethodName) prog_1_method_19_code (3 : Nat) (Option.some (Jvm.ClassFile.FieldType.object "JobTerminal$Job"))) ∈ GW := q_mem 521 rfl rfl
set_option maxRecDepth 20000 in
theorem mw207 : (Jvm.Cond.methodLink "JobTerminal" (114 : Nat) ({ cls := "JobTerminal", name := "findJob", desc := "(I)LJobTerminal$Job;" } : Jvm.MethodName)) ∈ GW := q_mem 518 rfl rfl
set_option maxRecDepth 20000 in
theorem mw208 : (Jvm.Cond.instanceMethod ({ cls := "JobTerminal", name := "findJob", desc := "(I)LJobTerminal$Job;" } : Jvm.MethodName)) ∈ GW := q_mem 520 rfl rfl
theorem mw209 : (Jvm.Cond.selects "JobTerminal" ({ cls := "JobTerminal", name := "findJob", desc := "(I)LJobTerminal$Job;" } : Jvm.MethodName) ({ cls := "JobTerminal", name := "findJob", desc := "(I)LJobTerminal$Job;" } : Jvm.MethodName)) ∈ GW := q_mem 21 rfl rfl
set_option maxRecDepth 20000 in
theorem mw210 : (Jvm.Cond.code ({ cls := "JobTerminal", name := "sendAndSettle", desc := "(LJobTerminal$Job;I)I" } : Jvm.MethodName) prog_1_method_22_code (3 : Nat) (Option.some Jvm.ClassFile.FieldType.int)) ∈ GW := q_mem 669 rfl rfl
set_option maxRecDepth 20000 in
theorem mw211 : (Jvm.Cond.methodLink "JobTerminal" (126 : Nat) ({ cls := "JobTerminal", name := "sendAndSettle", desc := "(LJobTerminal$Job;I)I" } : Jvm.MethodName)) ∈ GW := q_mem 666 rfl rfl
set_option maxRecDepth 20000 in
theorem mw212 : (Jvm.Cond.instanceMethod ({ cls := "JobTerminal", name := "sendAndSettle", desc := "(LJobTerminal$Job;I)I" } : Jvm.MethodName)) ∈ GW := q_mem 668 rfl rfl
theorem mw213 : (Jvm.Cond.selects "JobTerminal" ({ cls := "JobTerminal", name := "sendAndSettle", desc := "(LJobTerminal$Job;I)I" } : Jvm.MethodName) ({ cls := "JobTerminal", name := "sendAndSettle", desc := "(LJobTerminal$Job;I)I" } : Jvm.MethodName)) ∈ GW := q_mem 25 rfl rfl
set_option maxRecDepth 20000 in
theorem mw214 : (Jvm.Cond.code ({ cls := "JobTerminal$JobProcess", name := "vanish", desc := "()V" } : Jvm.MethodName) prog_4_method_3_code (1 : Nat) (Option.none : Option Jvm.ClassFile.FieldType)) ∈ GW := q_mem 411 rfl rfl
set_option maxRecDepth 20000 in
theorem mw215 : (Jvm.Cond.methodLink "JobTerminal$Job" (41 : Nat) ({ cls := "JobTerminal$JobProcess", name := "vanish", desc := "()V" } : Jvm.MethodName)) ∈ GW := q_mem 408 rfl rfl
set_option maxRecDepth 20000 in
theorem mw216 : (Jvm.Cond.instanceMethod ({ cls := "JobTerminal$JobProcess", name := "vanish", desc := "()V" } : Jvm.MethodName)) ∈ GW := q_mem 409 rfl rfl
set_option maxRecDepth 20000 in
theorem mw217 : (Jvm.Cond.selects "JobTerminal$JobProcess" ({ cls := "JobTerminal$JobProcess", name := "vanish", desc := "()V" } : Jvm.MethodName) ({ cls := "JobTerminal$JobProcess", name := "vanish", desc := "()V" } : Jvm.MethodName)) ∈ GW := q_mem 410 rfl rfl
set_option maxRecDepth 20000 in
theorem mw218 : (Jvm.Cond.code ({ cls := "JobTerminal$Job", name := "vanish", desc := "()V" } : Jvm.MethodName) prog_3_method_4_code (1 : Nat) (Option.none : Option Jvm.ClassFile.FieldType)) ∈ GW := q_mem 407 rfl rfl
set_option maxRecDepth 20000 in
theorem mw219 : (Jvm.Cond.methodLink "JobTerminal" (210 : Nat) ({ cls := "JobTerminal$Job", name := "vanish", desc := "()V" } : Jvm.MethodName)) ∈ GW := q_mem 404 rfl rfl
set_option maxRecDepth 20000 in
theorem mw220 : (Jvm.Cond.instanceMethod ({ cls := "JobTerminal$Job", name := "vanish", desc := "()V" } : Jvm.MethodName)) ∈ GW := q_mem 405 rfl rfl
set_option maxRecDepth 20000 in
theorem mw221 : (Jvm.Cond.selects "JobTerminal$Job" ({ cls := "JobTerminal$Job", name := "vanish", desc := "()V" } : Jvm.MethodName) ({ cls := "JobTerminal$Job", name := "vanish", desc := "()V" } : Jvm.MethodName)) ∈ GW := q_mem 406 rfl rfl
set_option maxRecDepth 20000 in
theorem mw222 : (Jvm.Cond.code ({ cls := "JobTerminal", name := "tell", desc := "(LJobTerminal$Job;)I" } : Jvm.MethodName) prog_1_method_25_code (3 : Nat) (Option.some Jvm.ClassFile.FieldType.int)) ∈ GW := q_mem 403 rfl rfl
theorem mw223 : (Jvm.Cond.methodLink "JobTerminal" (140 : Nat) ({ cls := "JobTerminal", name := "tell", desc := "(LJobTerminal$Job;)I" } : Jvm.MethodName)) ∈ GW := q_mem 400 rfl rfl
set_option maxRecDepth 20000 in
theorem mw224 : (Jvm.Cond.instanceMethod ({ cls := "JobTerminal", name := "tell", desc := "(LJobTerminal$Job;)I" } : Jvm.MethodName)) ∈ GW := q_mem 402 rfl rfl
theorem mw225 : (Jvm.Cond.selects "JobTerminal" ({ cls := "JobTerminal", name := "tell", desc := "(LJobTerminal$Job;)I" } : Jvm.MethodName) ({ cls := "JobTerminal", name := "tell", desc := "(LJobTerminal$Job;)I" } : Jvm.MethodName)) ∈ GW := q_mem 13 rfl rfl
set_option maxRecDepth 20000 in
theorem mw226 : (Jvm.Cond.code ({ cls := "JobTerminal$Job", name := "readsFromPipe", desc := "(LJobTerminal$JobProcess;)Z" } : Jvm.MethodName) prog_3_method_6_code (2 : Nat) (Option.some Jvm.ClassFile.FieldType.boolean)) ∈ GW := q_mem 435 rfl rfl
set_option maxRecDepth 20000 in
theorem mw227 : (Jvm.Cond.methodLink "JobTerminal" (235 : Nat) ({ cls := "JobTerminal$Job", name := "readsFromPipe", desc := "(LJobTerminal$JobProcess;)Z" } : Jvm.MethodName)) ∈ GW := q_mem 432 rfl rfl
set_option maxRecDepth 20000 in
theorem mw228 : (Jvm.Cond.instanceMethod ({ cls := "JobTerminal$Job", name := "readsFromPipe", desc := "(LJobTerminal$JobProcess;)Z" } : Jvm.MethodName)) ∈ GW := q_mem 433 rfl rfl
set_option maxRecDepth 20000 in
theorem mw229 : (Jvm.Cond.selects "JobTerminal$Job" ({ cls := "JobTerminal$Job", name := "readsFromPipe", desc := "(LJobTerminal$JobProcess;)Z" } : Jvm.MethodName) ({ cls := "JobTerminal$Job", name := "readsFromPipe", desc := "(LJobTerminal$JobProcess;)Z" } : Jvm.MethodName)) ∈ GW := q_mem 434 rfl rfl
set_option maxRecDepth 20000 in
theorem mw230 : (Jvm.Cond.code ({ cls := "JobTerminal$Job", name := "firstHasEnded", desc := "()Z" } : Jvm.MethodName) prog_3_method_8_code (1 : Nat) (Option.some Jvm.ClassFile.FieldType.boolean)) ∈ GW := q_mem 439 rfl rfl
set_option maxRecDepth 20000 in
theorem mw231 : (Jvm.Cond.methodLink "JobTerminal" (238 : Nat) ({ cls := "JobTerminal$Job", name := "firstHasEnded", desc := "()Z" } : Jvm.MethodName)) ∈ GW := q_mem 436 rfl rfl
set_option maxRecDepth 20000 in
theorem mw232 : (Jvm.Cond.instanceMethod ({ cls := "JobTerminal$Job", name := "firstHasEnded", desc := "()Z" } : Jvm.MethodName)) ∈ GW := q_mem 437 rfl rfl
set_option maxRecDepth 20000 in
theorem mw233 : (Jvm.Cond.selects "JobTerminal$Job" ({ cls := "JobTerminal$Job", name := "firstHasEnded", desc := "()Z" } : Jvm.MethodName) ({ cls := "JobTerminal$Job", name := "firstHasEnded", desc := "()Z" } : Jvm.MethodName)) ∈ GW := q_mem 438 rfl rfl
set_option maxRecDepth 20000 in
theorem mw234 : (Jvm.Cond.code ({ cls := "JobTerminal$Job", name := "writesToPipe", desc := "(LJobTerminal$JobProcess;)Z" } : Jvm.MethodName) prog_3_method_7_code (2 : Nat) (Option.some Jvm.ClassFile.FieldType.boolean)) ∈ GW := q_mem 447 rfl rfl
set_option maxRecDepth 20000 in
theorem mw235 : (Jvm.Cond.methodLink "JobTerminal" (241 : Nat) ({ cls := "JobTerminal$Job", name := "writesToPipe", desc := "(LJobTerminal$JobProcess;)Z" } : Jvm.MethodName)) ∈ GW := q_mem 444 rfl rfl
set_option maxRecDepth 20000 in
theorem mw236 : (Jvm.Cond.instanceMethod ({ cls := "JobTerminal$Job", name := "writesToPipe", desc := "(LJobTerminal$JobProcess;)Z" } : Jvm.MethodName)) ∈ GW := q_mem 445 rfl rfl
set_option maxRecDepth 20000 in
theorem mw237 : (Jvm.Cond.selects "JobTerminal$Job" ({ cls := "JobTerminal$Job", name := "writesToPipe", desc := "(LJobTerminal$JobProcess;)Z" } : Jvm.MethodName) ({ cls := "JobTerminal$Job", name := "writesToPipe", desc := "(LJobTerminal$JobProcess;)Z" } : Jvm.MethodName)) ∈ GW := q_mem 446 rfl rfl
set_option maxRecDepth 20000 in
theorem mw238 : (Jvm.Cond.code ({ cls := "JobTerminal$Job", name := "secondHasEnded", desc := "()Z" } : Jvm.MethodName) prog_3_method_9_code (1 : Nat) (Option.some Jvm.ClassFile.FieldType.boolean)) ∈ GW := q_mem 451 rfl rfl
set_option maxRecDepth 20000 in
theorem mw239 : (Jvm.Cond.methodLink "JobTerminal" (244 : Nat) ({ cls := "JobTerminal$Job", name := "secondHasEnded", desc := "()Z" } : Jvm.MethodName)) ∈ GW := q_mem 448 rfl rfl
set_option maxRecDepth 20000 in
theorem mw240 : (Jvm.Cond.instanceMethod ({ cls := "JobTerminal$Job", name := "secondHasEnded", desc := "()Z" } : Jvm.MethodName)) ∈ GW := q_mem 449 rfl rfl
set_option maxRecDepth 20000 in
theorem mw241 : (Jvm.Cond.selects "JobTerminal$Job" ({ cls := "JobTerminal$Job", name := "secondHasEnded", desc := "()Z" } : Jvm.MethodName) ({ cls := "JobTerminal$Job", name := "secondHasEnded", desc := "()Z" } : Jvm.MethodName)) ∈ GW := q_mem 450 rfl rfl
set_option maxRecDepth 20000 in
theorem mw242 : (Jvm.Cond.methodLink "JobTerminal" (247 : Nat) ({ cls := "JobTerminal$NumberRow", name := "hasRoomFor", desc := "(I)Z" } : Jvm.MethodName)) ∈ GW := q_mem 452 rfl rfl
set_option maxRecDepth 20000 in
theorem mw243 : (Jvm.Cond.code ({ cls := "JobTerminal$Programs", name := "opAt", desc := "(II)I" } : Jvm.MethodName) prog_6_method_5_code (4 : Nat) (Option.some Jvm.ClassFile.FieldType.int)) ∈ GW := q_mem 427 rfl rfl
set_option maxRecDepth 20000 in
theorem mw244 : (Jvm.Cond.methodLink "JobTerminal" (222 : Nat) ({ cls := "JobTerminal$Programs", name := "opAt", desc := "(II)I" } : Jvm.MethodName)) ∈ GW := q_mem 424 rfl rfl
set_option maxRecDepth 20000 in
theorem mw245 : (Jvm.Cond.instanceMethod ({ cls := "JobTerminal$Programs", name := "opAt", desc := "(II)I" } : Jvm.MethodName)) ∈ GW := q_mem 425 rfl rfl
set_option maxRecDepth 20000 in
theorem mw246 : (Jvm.Cond.selects "JobTerminal$Programs" ({ cls := "JobTerminal$Programs", name := "opAt", desc := "(II)I" } : Jvm.MethodName) ({ cls := "JobTerminal$Programs", name := "opAt", desc := "(II)I" } : Jvm.MethodName)) ∈ GW := q_mem 426 rfl rfl
set_option maxRecDepth 20000 in
theorem mw247 : (Jvm.Cond.code ({ cls := "JobTerminal", name := "canWrite", desc := "(LJobTerminal$JobProcess;)Z" } : Jvm.MethodName) prog_1_method_29_code (3 : Nat) (Option.some Jvm.ClassFile.FieldType.boolean)) ∈ GW := q_mem 443 rfl rfl
set_option maxRecDepth 20000 in
theorem mw248 : (Jvm.Cond.methodLink "JobTerminal" (229 : Nat) ({ cls := "JobTerminal", name := "canWrite", desc := "(LJobTerminal$JobProcess;)Z" } : Jvm.MethodName)) ∈ GW := q_mem 440 rfl rfl
set_option maxRecDepth 20000 in
theorem mw249 : (Jvm.Cond.instanceMethod ({ cls := "JobTerminal", name := "canWrite", desc := "(LJobTerminal$JobProcess;)Z" } : Jvm.MethodName)) ∈ GW := q_mem 442 rfl rfl
theorem mw250 : (Jvm.Cond.selects "JobTerminal" ({ cls := "JobTerminal", name := "canWrite", desc := "(LJobTerminal$JobProcess;)Z" } : Jvm.MethodName) ({ cls := "JobTerminal", name := "canWrite", desc := "(LJobTerminal$JobProcess;)Z" } : Jvm.MethodName)) ∈ GW := q_mem 17 rfl rfl
set_option maxRecDepth 20000 in
theorem mw251 : (Jvm.Cond.code ({ cls := "JobTerminal", name := "canRead", desc := "(LJobTerminal$JobProcess;)Z" } : Jvm.MethodName) prog_1_method_28_code (3 : Nat) (Option.some Jvm.ClassFile.FieldType.boolean)) ∈ GW := q_mem 431 rfl rfl
set_option maxRecDepth 20000 in
theorem mw252 : (Jvm.Cond.methodLink "JobTerminal" (226 : Nat) ({ cls := "JobTerminal", name := "canRead", desc := "(LJobTerminal$JobProcess;)Z" } : Jvm.MethodName)) ∈ GW := q_mem 428 rfl rfl
set_option maxRecDepth 20000 in
theorem mw253 : (Jvm.Cond.instanceMethod ({ cls := "JobTerminal", name := "canRead", desc := "(LJobTerminal$JobProcess;)Z" } : Jvm.MethodName)) ∈ GW := q_mem 430 rfl rfl
theorem mw254 : (Jvm.Cond.selects "JobTerminal" ({ cls := "JobTerminal", name := "canRead", desc := "(LJobTerminal$JobProcess;)Z" } : Jvm.MethodName) ({ cls := "JobTerminal", name := "canRead", desc := "(LJobTerminal$JobProcess;)Z" } : Jvm.MethodName)) ∈ GW := q_mem 16 rfl rfl
set_option maxRecDepth 20000 in
theorem mw255 : (Jvm.Cond.code ({ cls := "JobTerminal", name := "canGoOn", desc := "(LJobTerminal$JobProcess;)Z" } : Jvm.MethodName) prog_1_method_27_code (2 : Nat) (Option.some Jvm.ClassFile.FieldType.boolean)) ∈ GW := q_mem 423 rfl rfl
set_option maxRecDepth 20000 in
theorem mw256 : (Jvm.Cond.methodLink "JobTerminal" (213 : Nat) ({ cls := "JobTerminal", name := "canGoOn", desc := "(LJobTerminal$JobProcess;)Z" } : Jvm.MethodName)) ∈ GW := q_mem 420 rfl rfl
set_option maxRecDepth 20000 in
theorem mw257 : (Jvm.Cond.instanceMethod ({ cls := "JobTerminal", name := "canGoOn", desc := "(LJobTerminal$JobProcess;)Z" } : Jvm.MethodName)) ∈ GW := q_mem 422 rfl rfl
theorem mw258 : (Jvm.Cond.selects "JobTerminal" ({ cls := "JobTerminal", name := "canGoOn", desc := "(LJobTerminal$JobProcess;)Z" } : Jvm.MethodName) ({ cls := "JobTerminal", name := "canGoOn", desc := "(LJobTerminal$JobProcess;)Z" } : Jvm.MethodName)) ∈ GW := q_mem 15 rfl rfl
set_option maxRecDepth 20000 in
theorem mw259 : (Jvm.Cond.methodLink "JobTerminal" (264 : Nat) ({ cls := "JobTerminal$NumberRow", name := "takeOldest", desc := "()I" } : Jvm.MethodName)) ∈ GW := q_mem 465 rfl rfl
set_option maxRecDepth 20000 in
theorem mw260 : (Jvm.Cond.code ({ cls := "JobTerminal$JobProcess", name := "take", desc := "(I)V" } : Jvm.MethodName) prog_4_method_9_code (2 : Nat) (Option.none : Option Jvm.ClassFile.FieldType)) ∈ GW := q_mem 469 rfl rfl
set_option maxRecDepth 20000 in
theorem mw261 : (Jvm.Cond.methodLink "JobTerminal" (267 : Nat) ({ cls := "JobTerminal$JobProcess", name := "take", desc := "(I)V" } : Jvm.MethodName)) ∈ GW := q_mem 466 rfl rfl
set_option maxRecDepth 20000 in
theorem mw262 : (Jvm.Cond.instanceMethod ({ cls := "JobTerminal$JobProcess", name := "take", desc := "(I)V" } : Jvm.MethodName)) ∈ GW := q_mem 467 rfl rfl
set_option maxRecDepth 20000 in
theorem mw263 : (Jvm.Cond.selects "JobTerminal$JobProcess" ({ cls := "JobTerminal$JobProcess", name := "take", desc := "(I)V" } : Jvm.MethodName) ({ cls := "JobTerminal$JobProcess", name := "take", desc := "(I)V" } : Jvm.MethodName)) ∈ GW := q_mem 468 rfl rfl
set_option maxRecDepth 20000 in
theorem mw264 : (Jvm.Cond.code ({ cls := "JobTerminal$JobProcess", name := "shuns", desc := "(I)Z" } : Jvm.MethodName) prog_4_method_5_code (2 : Nat) (Option.some Jvm.ClassFile.FieldType.boolean)) ∈ GW := q_mem 473 rfl rfl
set_option maxRecDepth 20000 in
theorem mw265 : (Jvm.Cond.methodLink "JobTerminal" (270 : Nat) ({ cls := "JobTerminal$JobProcess", name := "shuns", desc := "(I)Z" } : Jvm.MethodName)) ∈ GW := q_mem 470 rfl rfl
set_option maxRecDepth 20000 in
theorem mw266 : (Jvm.Cond.instanceMethod ({ cls := "JobTerminal$JobProcess", name := "shuns", desc := "(I)Z" } : Jvm.MethodName)) ∈ GW := q_mem 471 rfl rfl
set_option maxRecDepth 20000 in
theorem mw267 : (Jvm.Cond.selects "JobTerminal$JobProcess" ({ cls := "JobTerminal$JobProcess", name := "shuns", desc := "(I)Z" } : Jvm.MethodName) ({ cls := "JobTerminal$JobProcess", name := "shuns", desc := "(I)Z" } : Jvm.MethodName)) ∈ GW := q_mem 472 rfl rfl
set_option maxRecDepth 20000 in
theorem mw268 : (Jvm.Cond.code ({ cls := "JobTerminal$JobProcess", name := "fail", desc := "()V" } : Jvm.MethodName) prog_4_method_10_code (1 : Nat) (Option.none : Option Jvm.ClassFile.FieldType)) ∈ GW := q_mem 477 rfl rfl
set_option maxRecDepth 20000 in
theorem mw269 : (Jvm.Cond.methodLink "JobTerminal" (273 : Nat) ({ cls := "JobTerminal$JobProcess", name := "fail", desc := "()V" } : Jvm.MethodName)) ∈ GW := q_mem 474 rfl rfl
set_option maxRecDepth 20000 in
theorem mw270 : (Jvm.Cond.instanceMethod ({ cls := "JobTerminal$JobProcess", name := "fail", desc := "()V" } : Jvm.MethodName)) ∈ GW := q_mem 475 rfl rfl
set_option maxRecDepth 20000 in
theorem mw271 : (Jvm.Cond.selects "JobTerminal$JobProcess" ({ cls := "JobTerminal$JobProcess", name := "fail", desc := "()V" } : Jvm.MethodName) ({ cls := "JobTerminal$JobProcess", name := "fail", desc := "()V" } : Jvm.MethodName)) ∈ GW := q_mem 476 rfl rfl
set_option maxRecDepth 20000 in
theorem mw272 : (Jvm.Cond.methodLink "JobTerminal" (286 : Nat) ({ cls := "JobTerminal$NumberRow", name := "putLast", desc := "(I)V" } : Jvm.MethodName)) ∈ GW := q_mem 485 rfl rfl
set_option maxRecDepth 20000 in
theorem mw273 : (Jvm.Cond.code ({ cls := "JobTerminal", name := "writeToPipe", desc := "(LJobTerminal$Job;LJobTerminal$JobProcess;I)Z" } : Jvm.MethodName) prog_1_method_33_code (3 : Nat) (Option.some Jvm.ClassFile.FieldType.boolean)) ∈ GW := q_mem 484 rfl rfl
set_option maxRecDepth 20000 in
theorem mw274 : (Jvm.Cond.methodLink "JobTerminal" (276 : Nat) ({ cls := "JobTerminal", name := "writeToPipe", desc := "(LJobTerminal$Job;LJobTerminal$JobProcess;I)Z" } : Jvm.MethodName)) ∈ GW := q_mem 482 rfl rfl
set_option maxRecDepth 20000 in
theorem mw275 : (Jvm.Cond.static ({ cls := "JobTerminal", name := "writeToPipe", desc := "(LJobTerminal$Job;LJobTerminal$JobProcess;I)Z" } : Jvm.MethodName)) ∈ GW := q_mem 483 rfl rfl
set_option maxRecDepth 20000 in
theorem mw276 : (Jvm.Cond.methodLink "JobTerminal" (280 : Nat) ({ cls := "JobTerminal$Terminal", name := "has", desc := "(I)Z" } : Jvm.MethodName)) ∈ GW := q_mem 486 rfl rfl
set_option maxRecDepth 20000 in
theorem mw277 : (Jvm.Cond.methodLink "JobTerminal" (283 : Nat) ({ cls := "JobTerminal$Terminal", name := "show", desc := "(I)V" } : Jvm.MethodName)) ∈ GW := q_mem 487 rfl rfl
set_option maxRecDepth 20000 in
theorem mw278 : (Jvm.Cond.methodLink "JobTerminal$JobProcess" (55 : Nat) ({ cls := "JobTerminal$JobProcess", name := "receive", desc := "(I)V" } : Jvm.MethodName)) ∈ GW := q_mem 492 rfl rfl
set_option maxRecDepth 20000 in
theorem mw279 : (Jvm.Cond.code ({ cls := "JobTerminal$Programs", name := "numberAt", desc := "(II)I" } : Jvm.MethodName) prog_6_method_6_code (3 : Nat) (Option.some Jvm.ClassFile.FieldType.int)) ∈ GW := q_mem 460 rfl rfl
set_option maxRecDepth 20000 in
theorem mw280 : (Jvm.Cond.methodLink "JobTerminal" (250 : Nat) ({ cls := "JobTerminal$Programs", name := "numberAt", desc := "(II)I" } : Jvm.MethodName)) ∈ GW := q_mem 457 rfl rfl
set_option maxRecDepth 20000 in
theorem mw281 : (Jvm.Cond.instanceMethod ({ cls := "JobTerminal$Programs", name := "numberAt", desc := "(II)I" } : Jvm.MethodName)) ∈ GW := q_mem 458 rfl rfl
set_option maxRecDepth 20000 in
theorem mw282 : (Jvm.Cond.selects "JobTerminal$Programs" ({ cls := "JobTerminal$Programs", name := "numberAt", desc := "(II)I" } : Jvm.MethodName) ({ cls := "JobTerminal$Programs", name := "numberAt", desc := "(II)I" } : Jvm.MethodName)) ∈ GW := q_mem 459 rfl rfl
set_option maxRecDepth 20000 in
theorem mw283 : (Jvm.Cond.code ({ cls := "JobTerminal", name := "write", desc := "(LJobTerminal$JobProcess;I)Z" } : Jvm.MethodName) prog_1_method_32_code (4 : Nat) (Option.some Jvm.ClassFile.FieldType.boolean)) ∈ GW := q_mem 481 rfl rfl
set_option maxRecDepth 20000 in
theorem mw284 : (Jvm.Cond.methodLink "JobTerminal" (256 : Nat) ({ cls := "JobTerminal", name := "write", desc := "(LJobTerminal$JobProcess;I)Z" } : Jvm.MethodName)) ∈ GW := q_mem 478 rfl rfl
set_option maxRecDepth 20000 in
theorem mw285 : (Jvm.Cond.instanceMethod ({ cls := "JobTerminal", name := "write", desc := "(LJobTerminal$JobProcess;I)Z" } : Jvm.MethodName)) ∈ GW := q_mem 480 rfl rfl
theorem mw286 : (Jvm.Cond.selects "JobTerminal" ({ cls := "JobTerminal", name := "write", desc := "(LJobTerminal$JobProcess;I)Z" } : Jvm.MethodName) ({ cls := "JobTerminal", name := "write", desc := "(LJobTerminal$JobProcess;I)Z" } : Jvm.MethodName)) ∈ GW := q_mem 20 rfl rfl
set_option maxRecDepth 20000 in
theorem mw287 : (Jvm.Cond.code ({ cls := "JobTerminal", name := "read", desc := "(LJobTerminal$JobProcess;)Z" } : Jvm.MethodName) prog_1_method_31_code (3 : Nat) (Option.some Jvm.ClassFile.FieldType.boolean)) ∈ GW := q_mem 464 rfl rfl
set_option maxRecDepth 20000 in
theorem mw288 : (Jvm.Cond.methodLink "JobTerminal" (253 : Nat) ({ cls := "JobTerminal", name := "read", desc := "(LJobTerminal$JobProcess;)Z" } : Jvm.MethodName)) ∈ GW := q_mem 461 rfl rfl
set_option maxRecDepth 20000 in
theorem mw289 : (Jvm.Cond.instanceMethod ({ cls := "JobTerminal", name := "read", desc := "(LJobTerminal$JobProcess;)Z" } : Jvm.MethodName)) ∈ GW := q_mem 463 rfl rfl
theorem mw290 : (Jvm.Cond.selects "JobTerminal" ({ cls := "JobTerminal", name := "read", desc := "(LJobTerminal$JobProcess;)Z" } : Jvm.MethodName) ({ cls := "JobTerminal", name := "read", desc := "(LJobTerminal$JobProcess;)Z" } : Jvm.MethodName)) ∈ GW := q_mem 19 rfl rfl
set_option maxRecDepth 20000 in
theorem mw291 : (Jvm.Cond.code ({ cls := "JobTerminal$JobProcess", name := "runOwnOp", desc := "(II)V" } : Jvm.MethodName) prog_4_method_11_code (4 : Nat) (Option.none : Option Jvm.ClassFile.FieldType)) ∈ GW := q_mem 491 rfl rfl
set_option maxRecDepth 20000 in
theorem mw292 : (Jvm.Cond.methodLink "JobTerminal" (260 : Nat) ({ cls := "JobTerminal$JobProcess", name := "runOwnOp", desc := "(II)V" } : Jvm.MethodName)) ∈ GW := q_mem 488 rfl rfl
set_option maxRecDepth 20000 in
theorem mw293 : (Jvm.Cond.instanceMethod ({ cls := "JobTerminal$JobProcess", name := "runOwnOp", desc := "(II)V" } : Jvm.MethodName)) ∈ GW := q_mem 489 rfl rfl
set_option maxRecDepth 20000 in
theorem mw294 : (Jvm.Cond.selects "JobTerminal$JobProcess" ({ cls := "JobTerminal$JobProcess", name := "runOwnOp", desc := "(II)V" } : Jvm.MethodName) ({ cls := "JobTerminal$JobProcess", name := "runOwnOp", desc := "(II)V" } : Jvm.MethodName)) ∈ GW := q_mem 490 rfl rfl
set_option maxRecDepth 20000 in
theorem mw295 : (Jvm.Cond.code ({ cls := "JobTerminal", name := "nextToGo", desc := "()LJobTerminal$JobProcess;" } : Jvm.MethodName) prog_1_method_26_code (3 : Nat) (Option.some (Jvm.ClassFile.FieldType.object "JobTerminal$JobProcess"))) ∈ GW := q_mem 419 rfl rfl
set_option maxRecDepth 20000 in
theorem mw296 : (Jvm.Cond.methodLink "JobTerminal" (144 : Nat) ({ cls := "JobTerminal", name := "nextToGo", desc := "()LJobTerminal$JobProcess;" } : Jvm.MethodName)) ∈ GW := q_mem 416 rfl rfl
set_option maxRecDepth 20000 in
theorem mw297 : (Jvm.Cond.instanceMethod ({ cls := "JobTerminal", name := "nextToGo", desc := "()LJobTerminal$JobProcess;" } : Jvm.MethodName)) ∈ GW := q_mem 418 rfl rfl
theorem mw298 : (Jvm.Cond.selects "JobTerminal" ({ cls := "JobTerminal", name := "nextToGo", desc := "()LJobTerminal$JobProcess;" } : Jvm.MethodName) ({ cls := "JobTerminal", name := "nextToGo", desc := "()LJobTerminal$JobProcess;" } : Jvm.MethodName)) ∈ GW := q_mem 14 rfl rfl
set_option maxRecDepth 20000 in
theorem mw299 : (Jvm.Cond.code ({ cls := "JobTerminal", name := "runLine", desc := "(LJobTerminal$JobProcess;)Z" } : Jvm.MethodName) prog_1_method_30_code (4 : Nat) (Option.some Jvm.ClassFile.FieldType.boolean)) ∈ GW := q_mem 456 rfl rfl
set_option maxRecDepth 20000 in
theorem mw300 : (Jvm.Cond.methodLink "JobTerminal" (148 : Nat) ({ cls := "JobTerminal", name := "runLine", desc := "(LJobTerminal$JobProcess;)Z" } : Jvm.MethodName)) ∈ GW := q_mem 453 rfl rfl
set_option maxRecDepth 20000 in
theorem mw301 : (Jvm.Cond.instanceMethod ({ cls := "JobTerminal", name := "runLine", desc := "(LJobTerminal$JobProcess;)Z" } : Jvm.MethodName)) ∈ GW := q_mem 455 rfl rfl
theorem mw302 : (Jvm.Cond.selects "JobTerminal" ({ cls := "JobTerminal", name := "runLine", desc := "(LJobTerminal$JobProcess;)Z" } : Jvm.MethodName) ({ cls := "JobTerminal", name := "runLine", desc := "(LJobTerminal$JobProcess;)Z" } : Jvm.MethodName)) ∈ GW := q_mem 18 rfl rfl
set_option maxRecDepth 20000 in
theorem mw303 : (Jvm.Cond.methodLink "JobTerminal$Job" (58 : Nat) ({ cls := "JobTerminal$Job", name := "receive", desc := "(I)V" } : Jvm.MethodName)) ∈ GW := q_mem 509 rfl rfl
set_option maxRecDepth 20000 in
theorem mw304 : (Jvm.Cond.code ({ cls := "JobTerminal$Terminal", name := "hangUp", desc := "()V" } : Jvm.MethodName) prog_7_method_3_code (1 : Nat) (Option.none : Option Jvm.ClassFile.FieldType)) ∈ GW := q_mem 504 rfl rfl
set_option maxRecDepth 20000 in
theorem mw305 : (Jvm.Cond.methodLink "JobTerminal" (167 : Nat) ({ cls := "JobTerminal$Terminal", name := "hangUp", desc := "()V" } : Jvm.MethodName)) ∈ GW := q_mem 501 rfl rfl
set_option maxRecDepth 20000 in
theorem mw306 : (Jvm.Cond.instanceMethod ({ cls := "JobTerminal$Terminal", name := "hangUp", desc := "()V" } : Jvm.MethodName)) ∈ GW := q_mem 502 rfl rfl
set_option maxRecDepth 20000 in
theorem mw307 : (Jvm.Cond.selects "JobTerminal$Terminal" ({ cls := "JobTerminal$Terminal", name := "hangUp", desc := "()V" } : Jvm.MethodName) ({ cls := "JobTerminal$Terminal", name := "hangUp", desc := "()V" } : Jvm.MethodName)) ∈ GW := q_mem 503 rfl rfl
set_option maxRecDepth 20000 in
theorem mw308 : (Jvm.Cond.code ({ cls := "JobTerminal$Job", name := "receiveHangUp", desc := "()V" } : Jvm.MethodName) prog_3_method_11_code (1 : Nat) (Option.none : Option Jvm.ClassFile.FieldType)) ∈ GW := q_mem 508 rfl rfl
set_option maxRecDepth 20000 in
theorem mw309 : (Jvm.Cond.methodLink "JobTerminal" (170 : Nat) ({ cls := "JobTerminal$Job", name := "receiveHangUp", desc := "()V" } : Jvm.MethodName)) ∈ GW := q_mem 505 rfl rfl
set_option maxRecDepth 20000 in
theorem mw310 : (Jvm.Cond.instanceMethod ({ cls := "JobTerminal$Job", name := "receiveHangUp", desc := "()V" } : Jvm.MethodName)) ∈ GW := q_mem 506 rfl rfl
set_option maxRecDepth 20000 in
theorem mw311 : (Jvm.Cond.selects "JobTerminal$Job" ({ cls := "JobTerminal$Job", name := "receiveHangUp", desc := "()V" } : Jvm.MethodName) ({ cls := "JobTerminal$Job", name := "receiveHangUp", desc := "()V" } : Jvm.MethodName)) ∈ GW := q_mem 507 rfl rfl
set_option maxRecDepth 20000 in
theorem mw312 : (Jvm.Cond.code ({ cls := "JobTerminal$JobProcess", name := "look", desc := "(I)I" } : Jvm.MethodName) prog_4_method_4_code (2 : Nat) (Option.some Jvm.ClassFile.FieldType.int)) ∈ GW := q_mem 529 rfl rfl
set_option maxRecDepth 20000 in
theorem mw313 : (Jvm.Cond.methodLink "JobTerminal" (173 : Nat) ({ cls := "JobTerminal$JobProcess", name := "look", desc := "(I)I" } : Jvm.MethodName)) ∈ GW := q_mem 526 rfl rfl
set_option maxRecDepth 20000 in
theorem mw314 : (Jvm.Cond.instanceMethod ({ cls := "JobTerminal$JobProcess", name := "look", desc := "(I)I" } : Jvm.MethodName)) ∈ GW := q_mem 527 rfl rfl
set_option maxRecDepth 20000 in
theorem mw315 : (Jvm.Cond.selects "JobTerminal$JobProcess" ({ cls := "JobTerminal$JobProcess", name := "look", desc := "(I)I" } : Jvm.MethodName) ({ cls := "JobTerminal$JobProcess", name := "look", desc := "(I)I" } : Jvm.MethodName)) ∈ GW := q_mem 528 rfl rfl
set_option maxRecDepth 20000 in
theorem mw316 : (Jvm.Cond.code ({ cls := "JobTerminal$Display", name := "codeBefore", desc := "(I)I" } : Jvm.MethodName) prog_2_method_3_code (3 : Nat) (Option.some Jvm.ClassFile.FieldType.int)) ∈ GW := q_mem 541 rfl rfl
set_option maxRecDepth 20000 in
theorem mw317 : (Jvm.Cond.methodLink "JobTerminal" (185 : Nat) ({ cls := "JobTerminal$Display", name := "codeBefore", desc := "(I)I" } : Jvm.MethodName)) ∈ GW := q_mem 538 rfl rfl
set_option maxRecDepth 20000 in
theorem mw318 : (Jvm.Cond.instanceMethod ({ cls := "JobTerminal$Display", name := "codeBefore", desc := "(I)I" } : Jvm.MethodName)) ∈ GW := q_mem 539 rfl rfl
set_option maxRecDepth 20000 in
theorem mw319 : (Jvm.Cond.selects "JobTerminal$Display" ({ cls := "JobTerminal$Display", name := "codeBefore", desc := "(I)I" } : Jvm.MethodName) ({ cls := "JobTerminal$Display", name := "codeBefore", desc := "(I)I" } : Jvm.MethodName)) ∈ GW := q_mem 540 rfl rfl
theorem mw320 : (Jvm.Cond.fieldLink "JobTerminal" (39 : Nat) "JobTerminal" "foregroundJob" "LJobTerminal$Job;") ∈ GW := q_mem 238 rfl rfl
theorem mw321 : (Jvm.Cond.fieldLink "JobTerminal" (32 : Nat) "JobTerminal" "jobs" "[LJobTerminal$Job;") ∈ GW := q_mem 236 rfl rfl
theorem mw322 : (Jvm.Cond.fieldLink "JobTerminal" (43 : Nat) "JobTerminal" "latestSlot" "I") ∈ GW := q_mem 239 rfl rfl
theorem mw323 : (Jvm.Cond.fieldLink "JobTerminal" (25 : Nat) "JobTerminal" "processes" "[LJobTerminal$JobProcess;") ∈ GW := q_mem 235 rfl rfl
theorem mw324 : (Jvm.Cond.fieldLink "JobTerminal" (10 : Nat) "JobTerminal" "programs" "LJobTerminal$Programs;") ∈ GW := q_mem 234 rfl rfl
theorem mw325 : (Jvm.Cond.fieldLink "JobTerminal" (19 : Nat) "JobTerminal" "terminal" "LJobTerminal$Terminal;") ∈ GW := q_mem 237 rfl rfl
theorem mw326 : (Jvm.Cond.fieldLink "JobTerminal$Display" (11 : Nat) "JobTerminal$Display" "codes" "[I") ∈ GW := q_mem 123 rfl rfl
theorem mw327 : (Jvm.Cond.fieldLink "JobTerminal$Display" (15 : Nat) "JobTerminal$Display" "next" "I") ∈ GW := q_mem 124 rfl rfl
theorem mw328 : (Jvm.Cond.fieldLink "JobTerminal$Display" (19 : Nat) "JobTerminal$Display" "total" "I") ∈ GW := q_mem 125 rfl rfl
theorem mw329 : (Jvm.Cond.fieldLink "JobTerminal$Job" (27 : Nat) "JobTerminal$Job" "first" "LJobTerminal$JobProcess;") ∈ GW := q_mem 214 rfl rfl
theorem mw330 : (Jvm.Cond.fieldLink "JobTerminal$Job" (20 : Nat) "JobTerminal$Job" "pipe" "LJobTerminal$NumberRow;") ∈ GW := q_mem 212 rfl rfl
theorem mw331 : (Jvm.Cond.fieldLink "JobTerminal$Job" (31 : Nat) "JobTerminal$Job" "second" "LJobTerminal$JobProcess;") ∈ GW := q_mem 215 rfl rfl
theorem mw332 : (Jvm.Cond.fieldLink "JobTerminal$JobProcess" (34 : Nat) "JobTerminal$JobProcess" "blocked" "I") ∈ GW := q_mem 175 rfl rfl
theorem mw333 : (Jvm.Cond.fieldLink "JobTerminal$JobProcess" (28 : Nat) "JobTerminal$JobProcess" "code" "I") ∈ GW := q_mem 173 rfl rfl
theorem mw334 : (Jvm.Cond.fieldLink "JobTerminal$JobProcess" (37 : Nat) "JobTerminal$JobProcess" "ignored" "I") ∈ GW := q_mem 176 rfl rfl
theorem mw335 : (Jvm.Cond.fieldLink "JobTerminal$JobProcess" (22 : Nat) "JobTerminal$JobProcess" "line" "I") ∈ GW := q_mem 169 rfl rfl
theorem mw336 : (Jvm.Cond.fieldLink "JobTerminal$JobProcess" (40 : Nat) "JobTerminal$JobProcess" "nap" "I") ∈ GW := q_mem 177 rfl rfl
theorem mw337 : (Jvm.Cond.fieldLink "JobTerminal$JobProcess" (9 : Nat) "JobTerminal$JobProcess" "owner" "LJobTerminal$Job;") ∈ GW := q_mem 162 rfl rfl
theorem mw338 : (Jvm.Cond.fieldLink "JobTerminal$JobProcess" (31 : Nat) "JobTerminal$JobProcess" "pending" "I") ∈ GW := q_mem 174 rfl rfl
theorem mw339 : (Jvm.Cond.fieldLink "JobTerminal$JobProcess" (25 : Nat) "JobTerminal$JobProcess" "register" "I") ∈ GW := q_mem 171 rfl rfl
theorem mw340 : (Jvm.Cond.fieldLink "JobTerminal$JobProcess" (15 : Nat) "JobTerminal$JobProcess" "state" "I") ∈ GW := q_mem 164 rfl rfl
theorem mw341 : (Jvm.Cond.fieldLink "JobTerminal$NumberRow" (21 : Nat) "JobTerminal$NumberRow" "count" "I") ∈ GW := q_mem 107 rfl rfl
theorem mw342 : (Jvm.Cond.fieldLink "JobTerminal$NumberRow" (15 : Nat) "JobTerminal$NumberRow" "numbers" "[I") ∈ GW := q_mem 105 rfl rfl
theorem mw343 : (Jvm.Cond.fieldLink "JobTerminal$NumberRow" (29 : Nat) "JobTerminal$NumberRow" "oldest" "I") ∈ GW := q_mem 106 rfl rfl
theorem mw344 : (Jvm.Cond.fieldLink "JobTerminal$Programs" (15 : Nat) "JobTerminal$Programs" "numbers" "[I") ∈ GW := q_mem 83 rfl rfl
theorem mw345 : (Jvm.Cond.fieldLink "JobTerminal$Programs" (11 : Nat) "JobTerminal$Programs" "ops" "[I") ∈ GW := q_mem 82 rfl rfl
theorem mw346 : (Jvm.Cond.fieldLink "JobTerminal$Terminal" (26 : Nat) "JobTerminal$Terminal" "display" "LJobTerminal$Display;") ∈ GW := q_mem 138 rfl rfl
theorem mw347 : (Jvm.Cond.fieldLink "JobTerminal$Terminal" (16 : Nat) "JobTerminal$Terminal" "edit" "LJobTerminal$NumberRow;") ∈ GW := q_mem 134 rfl rfl
theorem mw348 : (Jvm.Cond.fieldLink "JobTerminal$Terminal" (30 : Nat) "JobTerminal$Terminal" "modes" "I") ∈ GW := q_mem 140 rfl rfl
theorem mw349 : (Jvm.Cond.fieldLink "JobTerminal$Terminal" (20 : Nat) "JobTerminal$Terminal" "queue" "LJobTerminal$NumberRow;") ∈ GW := q_mem 136 rfl rfl
theorem mw350 : (Jvm.Cond.fieldLink "JobTerminal$Job" (24 : Nat) "JobTerminal$Job" "settledState" "I") ∈ GW := q_mem 219 rfl rfl
theorem mw351 : (Jvm.Cond.fieldLink "JobTerminal$Job" (37 : Nat) "JobTerminal$Job" "untold" "Z") ∈ GW := q_mem 217 rfl rfl
theorem mw352 : (Jvm.Cond.fieldLink "JobTerminal$JobProcess" (19 : Nat) "JobTerminal$JobProcess" "program" "I") ∈ GW := q_mem 167 rfl rfl
theorem mw353 : (Jvm.Cond.fieldLink "JobTerminal$Terminal" (34 : Nat) "JobTerminal$Terminal" "hangs" "Z") ∈ GW := q_mem 142 rfl rfl
set_option maxRecDepth 20000 in
theorem mw354 : (Jvm.Cond.code ({ cls := "JobTerminalModel", name := "stateOf", desc := "(I)I" } : Jvm.MethodName) prog_9_method_4_code (4 : Nat) (Option.some Jvm.ClassFile.FieldType.int)) ∈ GW := q_mem 848 rfl rfl
set_option maxRecDepth 20000 in
theorem mw355 : (Jvm.Cond.methodLink "JobTerminalModel" (87 : Nat) ({ cls := "JobTerminalModel", name := "stateOf", desc := "(I)I" } : Jvm.MethodName)) ∈ GW := q_mem 845 rfl rfl
set_option maxRecDepth 20000 in
theorem mw356 : (Jvm.Cond.instanceMethod ({ cls := "JobTerminalModel", name := "stateOf", desc := "(I)I" } : Jvm.MethodName)) ∈ GW := q_mem 847 rfl rfl
theorem mw357 : (Jvm.Cond.selects "JobTerminalModel" ({ cls := "JobTerminalModel", name := "stateOf", desc := "(I)I" } : Jvm.MethodName) ({ cls := "JobTerminalModel", name := "stateOf", desc := "(I)I" } : Jvm.MethodName)) ∈ GW := q_mem 38 rfl rfl
theorem mw358 : (Jvm.Cond.initialized "JobTerminalModel") ∈ GW := q_mem 62 rfl rfl
set_option maxRecDepth 20000 in
theorem mw359 : (Jvm.Cond.code ({ cls := "JobTerminalModel", name := "has", desc := "(II)Z" } : Jvm.MethodName) prog_9_method_6_code (2 : Nat) (Option.some Jvm.ClassFile.FieldType.boolean)) ∈ GW := q_mem 812 rfl rfl
set_option maxRecDepth 20000 in
theorem mw360 : (Jvm.Cond.methodLink "JobTerminalModel" (91 : Nat) ({ cls := "JobTerminalModel", name := "has", desc := "(II)Z" } : Jvm.MethodName)) ∈ GW := q_mem 810 rfl rfl
set_option maxRecDepth 20000 in
theorem mw361 : (Jvm.Cond.static ({ cls := "JobTerminalModel", name := "has", desc := "(II)Z" } : Jvm.MethodName)) ∈ GW := q_mem 811 rfl rfl
set_option maxRecDepth 20000 in
theorem mw362 : (Jvm.Cond.code ({ cls := "JobTerminalModel", name := "act", desc := "(II)V" } : Jvm.MethodName) prog_9_method_7_code (3 : Nat) (Option.none : Option Jvm.ClassFile.FieldType)) ∈ GW := q_mem 816 rfl rfl
set_option maxRecDepth 20000 in
theorem mw363 : (Jvm.Cond.methodLink "JobTerminalModel" (95 : Nat) ({ cls := "JobTerminalModel", name := "act", desc := "(II)V" } : Jvm.MethodName)) ∈ GW := q_mem 813 rfl rfl
set_option maxRecDepth 20000 in
theorem mw364 : (Jvm.Cond.instanceMethod ({ cls := "JobTerminalModel", name := "act", desc := "(II)V" } : Jvm.MethodName)) ∈ GW := q_mem 815 rfl rfl
theorem mw365 : (Jvm.Cond.selects "JobTerminalModel" ({ cls := "JobTerminalModel", name := "act", desc := "(II)V" } : Jvm.MethodName) ({ cls := "JobTerminalModel", name := "act", desc := "(II)V" } : Jvm.MethodName)) ∈ GW := q_mem 30 rfl rfl
set_option maxRecDepth 20000 in
theorem mw366 : (Jvm.Cond.code ({ cls := "JobTerminalModel", name := "actPending", desc := "(I)V" } : Jvm.MethodName) prog_9_method_8_code (3 : Nat) (Option.none : Option Jvm.ClassFile.FieldType)) ∈ GW := q_mem 809 rfl rfl
set_option maxRecDepth 20000 in
theorem mw367 : (Jvm.Cond.methodLink "JobTerminalModel" (99 : Nat) ({ cls := "JobTerminalModel", name := "actPending", desc := "(I)V" } : Jvm.MethodName)) ∈ GW := q_mem 806 rfl rfl
set_option maxRecDepth 20000 in
theorem mw368 : (Jvm.Cond.instanceMethod ({ cls := "JobTerminalModel", name := "actPending", desc := "(I)V" } : Jvm.MethodName)) ∈ GW := q_mem 808 rfl rfl
theorem mw369 : (Jvm.Cond.selects "JobTerminalModel" ({ cls := "JobTerminalModel", name := "actPending", desc := "(I)V" } : Jvm.MethodName) ({ cls := "JobTerminalModel", name := "actPending", desc := "(I)V" } : Jvm.MethodName)) ∈ GW := q_mem 29 rfl rfl
set_option maxRecDepth 20000 in
theorem mw370 : (Jvm.Cond.code ({ cls := "JobTerminalModel", name := "sendTo", desc := "(II)V" } : Jvm.MethodName) prog_9_method_9_code (3 : Nat) (Option.none : Option Jvm.ClassFile.FieldType)) ∈ GW := q_mem 805 rfl rfl
set_option maxRecDepth 20000 in
theorem mw371 : (Jvm.Cond.methodLink "JobTerminalModel" (103 : Nat) ({ cls := "JobTerminalModel", name := "sendTo", desc := "(II)V" } : Jvm.MethodName)) ∈ GW := q_mem 802 rfl rfl
set_option maxRecDepth 20000 in
theorem mw372 : (Jvm.Cond.instanceMethod ({ cls := "JobTerminalModel", name := "sendTo", desc := "(II)V" } : Jvm.MethodName)) ∈ GW := q_mem 804 rfl rfl
theorem mw373 : (Jvm.Cond.selects "JobTerminalModel" ({ cls := "JobTerminalModel", name := "sendTo", desc := "(II)V" } : Jvm.MethodName) ({ cls := "JobTerminalModel", name := "sendTo", desc := "(II)V" } : Jvm.MethodName)) ∈ GW := q_mem 28 rfl rfl
set_option maxRecDepth 20000 in
theorem mw374 : (Jvm.Cond.code ({ cls := "JobTerminalModel", name := "flagged", desc := "(I)Z" } : Jvm.MethodName) prog_9_method_11_code (2 : Nat) (Option.some Jvm.ClassFile.FieldType.boolean)) ∈ GW := q_mem 797 rfl rfl
set_option maxRecDepth 20000 in
theorem mw375 : (Jvm.Cond.methodLink "JobTerminalModel" (109 : Nat) ({ cls := "JobTerminalModel", name := "flagged", desc := "(I)Z" } : Jvm.MethodName)) ∈ GW := q_mem 794 rfl rfl
set_option maxRecDepth 20000 in
theorem mw376 : (Jvm.Cond.instanceMethod ({ cls := "JobTerminalModel", name := "flagged", desc := "(I)Z" } : Jvm.MethodName)) ∈ GW := q_mem 796 rfl rfl
theorem mw377 : (Jvm.Cond.selects "JobTerminalModel" ({ cls := "JobTerminalModel", name := "flagged", desc := "(I)Z" } : Jvm.MethodName) ({ cls := "JobTerminalModel", name := "flagged", desc := "(I)Z" } : Jvm.MethodName)) ∈ GW := q_mem 26 rfl rfl
set_option maxRecDepth 20000 in
theorem mw378 : (Jvm.Cond.code ({ cls := "JobTerminalModel", name := "put", desc := "(I)V" } : Jvm.MethodName) prog_9_method_12_code (2 : Nat) (Option.none : Option Jvm.ClassFile.FieldType)) ∈ GW := q_mem 828 rfl rfl
set_option maxRecDepth 20000 in
theorem mw379 : (Jvm.Cond.methodLink "JobTerminalModel" (113 : Nat) ({ cls := "JobTerminalModel", name := "put", desc := "(I)V" } : Jvm.MethodName)) ∈ GW := q_mem 825 rfl rfl
set_option maxRecDepth 20000 in
theorem mw380 : (Jvm.Cond.instanceMethod ({ cls := "JobTerminalModel", name := "put", desc := "(I)V" } : Jvm.MethodName)) ∈ GW := q_mem 827 rfl rfl
theorem mw381 : (Jvm.Cond.selects "JobTerminalModel" ({ cls := "JobTerminalModel", name := "put", desc := "(I)V" } : Jvm.MethodName) ({ cls := "JobTerminalModel", name := "put", desc := "(I)V" } : Jvm.MethodName)) ∈ GW := q_mem 33 rfl rfl
set_option maxRecDepth 20000 in
theorem mw382 : (Jvm.Cond.code ({ cls := "JobTerminalModel", name := "show", desc := "(I)V" } : Jvm.MethodName) prog_9_method_13_code (2 : Nat) (Option.none : Option Jvm.ClassFile.FieldType)) ∈ GW := q_mem 824 rfl rfl
set_option maxRecDepth 20000 in
theorem mw383 : (Jvm.Cond.methodLink "JobTerminalModel" (116 : Nat) ({ cls := "JobTerminalModel", name := "show", desc := "(I)V" } : Jvm.MethodName)) ∈ GW := q_mem 821 rfl rfl
set_option maxRecDepth 20000 in
theorem mw384 : (Jvm.Cond.instanceMethod ({ cls := "JobTerminalModel", name := "show", desc := "(I)V" } : Jvm.MethodName)) ∈ GW := q_mem 823 rfl rfl
theorem mw385 : (Jvm.Cond.selects "JobTerminalModel" ({ cls := "JobTerminalModel", name := "show", desc := "(I)V" } : Jvm.MethodName) ({ cls := "JobTerminalModel", name := "show", desc := "(I)V" } : Jvm.MethodName)) ∈ GW := q_mem 32 rfl rfl
set_option maxRecDepth 20000 in
theorem mw386 : (Jvm.Cond.code ({ cls := "JobTerminalModel", name := "echo", desc := "(I)V" } : Jvm.MethodName) prog_9_method_14_code (2 : Nat) (Option.none : Option Jvm.ClassFile.FieldType)) ∈ GW := q_mem 820 rfl rfl
set_option maxRecDepth 20000 in
theorem mw387 : (Jvm.Cond.methodLink "JobTerminalModel" (128 : Nat) ({ cls := "JobTerminalModel", name := "echo", desc := "(I)V" } : Jvm.MethodName)) ∈ GW := q_mem 817 rfl rfl
set_option maxRecDepth 20000 in
theorem mw388 : (Jvm.Cond.instanceMethod ({ cls := "JobTerminalModel", name := "echo", desc := "(I)V" } : Jvm.MethodName)) ∈ GW := q_mem 819 rfl rfl
theorem mw389 : (Jvm.Cond.selects "JobTerminalModel" ({ cls := "JobTerminalModel", name := "echo", desc := "(I)V" } : Jvm.MethodName) ({ cls := "JobTerminalModel", name := "echo", desc := "(I)V" } : Jvm.MethodName)) ∈ GW := q_mem 31 rfl rfl
set_option maxRecDepth 20000 in
theorem mw390 : (Jvm.Cond.code ({ cls := "JobTerminalModel", name := "enter", desc := "(II)Z" } : Jvm.MethodName) prog_9_method_16_code (4 : Nat) (Option.some Jvm.ClassFile.FieldType.boolean)) ∈ GW := q_mem 840 rfl rfl
set_option maxRecDepth 20000 in
theorem mw391 : (Jvm.Cond.methodLink "JobTerminalModel" (140 : Nat) ({ cls := "JobTerminalModel", name := "enter", desc := "(II)Z" } : Jvm.MethodName)) ∈ GW := q_mem 837 rfl rfl
set_option maxRecDepth 20000 in
theorem mw392 : (Jvm.Cond.instanceMethod ({ cls := "JobTerminalModel", name := "enter", desc := "(II)Z" } : Jvm.MethodName)) ∈ GW := q_mem 839 rfl rfl
theorem mw393 : (Jvm.Cond.selects "JobTerminalModel" ({ cls := "JobTerminalModel", name := "enter", desc := "(II)Z" } : Jvm.MethodName) ({ cls := "JobTerminalModel", name := "enter", desc := "(II)Z" } : Jvm.MethodName)) ∈ GW := q_mem 36 rfl rfl
set_option maxRecDepth 20000 in
theorem mw394 : (Jvm.Cond.code ({ cls := "JobTerminalModel", name := "rubOut", desc := "()V" } : Jvm.MethodName) prog_9_method_15_code (3 : Nat) (Option.none : Option Jvm.ClassFile.FieldType)) ∈ GW := q_mem 836 rfl rfl
set_option maxRecDepth 20000 in
theorem mw395 : (Jvm.Cond.methodLink "JobTerminalModel" (137 : Nat) ({ cls := "JobTerminalModel", name := "rubOut", desc := "()V" } : Jvm.MethodName)) ∈ GW := q_mem 833 rfl rfl
set_option maxRecDepth 20000 in
theorem mw396 : (Jvm.Cond.instanceMethod ({ cls := "JobTerminalModel", name := "rubOut", desc := "()V" } : Jvm.MethodName)) ∈ GW := q_mem 835 rfl rfl
theorem mw397 : (Jvm.Cond.selects "JobTerminalModel" ({ cls := "JobTerminalModel", name := "rubOut", desc := "()V" } : Jvm.MethodName) ({ cls := "JobTerminalModel", name := "rubOut", desc := "()V" } : Jvm.MethodName)) ∈ GW := q_mem 35 rfl rfl
set_option maxRecDepth 20000 in
theorem mw398 : (Jvm.Cond.code ({ cls := "JobTerminalModel", name := "sendJob", desc := "(II)V" } : Jvm.MethodName) prog_9_method_10_code (3 : Nat) (Option.none : Option Jvm.ClassFile.FieldType)) ∈ GW := q_mem 801 rfl rfl
set_option maxRecDepth 20000 in
theorem mw399 : (Jvm.Cond.methodLink "JobTerminalModel" (125 : Nat) ({ cls := "JobTerminalModel", name := "sendJob", desc := "(II)V" } : Jvm.MethodName)) ∈ GW := q_mem 798 rfl rfl
set_option maxRecDepth 20000 in
theorem mw400 : (Jvm.Cond.instanceMethod ({ cls := "JobTerminalModel", name := "sendJob", desc := "(II)V" } : Jvm.MethodName)) ∈ GW := q_mem 800 rfl rfl
theorem mw401 : (Jvm.Cond.selects "JobTerminalModel" ({ cls := "JobTerminalModel", name := "sendJob", desc := "(II)V" } : Jvm.MethodName) ({ cls := "JobTerminalModel", name := "sendJob", desc := "(II)V" } : Jvm.MethodName)) ∈ GW := q_mem 27 rfl rfl
set_option maxRecDepth 20000 in
theorem mw402 : (Jvm.Cond.code ({ cls := "JobTerminalModel", name := "compare", desc := "()V" } : Jvm.MethodName) prog_9_method_5_code (2 : Nat) (Option.none : Option Jvm.ClassFile.FieldType)) ∈ GW := q_mem 844 rfl rfl
set_option maxRecDepth 20000 in
theorem mw403 : (Jvm.Cond.methodLink "JobTerminalModel" (134 : Nat) ({ cls := "JobTerminalModel", name := "compare", desc := "()V" } : Jvm.MethodName)) ∈ GW := q_mem 841 rfl rfl
set_option maxRecDepth 20000 in
theorem mw404 : (Jvm.Cond.instanceMethod ({ cls := "JobTerminalModel", name := "compare", desc := "()V" } : Jvm.MethodName)) ∈ GW := q_mem 843 rfl rfl
theorem mw405 : (Jvm.Cond.selects "JobTerminalModel" ({ cls := "JobTerminalModel", name := "compare", desc := "()V" } : Jvm.MethodName) ({ cls := "JobTerminalModel", name := "compare", desc := "()V" } : Jvm.MethodName)) ∈ GW := q_mem 37 rfl rfl
set_option maxRecDepth 20000 in
theorem mw406 : (Jvm.Cond.code ({ cls := "JobTerminalModel", name := "keyOfLine", desc := "(I)Z" } : Jvm.MethodName) prog_9_method_18_code (3 : Nat) (Option.some Jvm.ClassFile.FieldType.boolean)) ∈ GW := q_mem 832 rfl rfl
set_option maxRecDepth 20000 in
theorem mw407 : (Jvm.Cond.methodLink "JobTerminalModel" (131 : Nat) ({ cls := "JobTerminalModel", name := "keyOfLine", desc := "(I)Z" } : Jvm.MethodName)) ∈ GW := q_mem 829 rfl rfl
set_option maxRecDepth 20000 in
theorem mw408 : (Jvm.Cond.instanceMethod ({ cls := "JobTerminalModel", name := "keyOfLine", desc := "(I)Z" } : Jvm.MethodName)) ∈ GW := q_mem 831 rfl rfl
theorem mw409 : (Jvm.Cond.selects "JobTerminalModel" ({ cls := "JobTerminalModel", name := "keyOfLine", desc := "(I)Z" } : Jvm.MethodName) ({ cls := "JobTerminalModel", name := "keyOfLine", desc := "(I)Z" } : Jvm.MethodName)) ∈ GW := q_mem 34 rfl rfl
set_option maxRecDepth 20000 in
theorem mw410 : (Jvm.Cond.code ({ cls := "JobTerminalModel", name := "begin", desc := "(II)I" } : Jvm.MethodName) prog_9_method_21_code (4 : Nat) (Option.some Jvm.ClassFile.FieldType.int)) ∈ GW := q_mem 864 rfl rfl
set_option maxRecDepth 20000 in
theorem mw411 : (Jvm.Cond.methodLink "JobTerminalModel" (143 : Nat) ({ cls := "JobTerminalModel", name := "begin", desc := "(II)I" } : Jvm.MethodName)) ∈ GW := q_mem 861 rfl rfl
set_option maxRecDepth 20000 in
theorem mw412 : (Jvm.Cond.instanceMethod ({ cls := "JobTerminalModel", name := "begin", desc := "(II)I" } : Jvm.MethodName)) ∈ GW := q_mem 863 rfl rfl
theorem mw413 : (Jvm.Cond.selects "JobTerminalModel" ({ cls := "JobTerminalModel", name := "begin", desc := "(II)I" } : Jvm.MethodName) ({ cls := "JobTerminalModel", name := "begin", desc := "(II)I" } : Jvm.MethodName)) ∈ GW := q_mem 39 rfl rfl
set_option maxRecDepth 20000 in
theorem mw414 : (Jvm.Cond.code ({ cls := "JobTerminalModel", name := "isJob", desc := "(I)Z" } : Jvm.MethodName) prog_9_method_3_code (2 : Nat) (Option.some Jvm.ClassFile.FieldType.boolean)) ∈ GW := q_mem 872 rfl rfl
set_option maxRecDepth 20000 in
theorem mw415 : (Jvm.Cond.methodLink "JobTerminalModel" (147 : Nat) ({ cls := "JobTerminalModel", name := "isJob", desc := "(I)Z" } : Jvm.MethodName)) ∈ GW := q_mem 869 rfl rfl
set_option maxRecDepth 20000 in
theorem mw416 : (Jvm.Cond.instanceMethod ({ cls := "JobTerminalModel", name := "isJob", desc := "(I)Z" } : Jvm.MethodName)) ∈ GW := q_mem 871 rfl rfl
theorem mw417 : (Jvm.Cond.selects "JobTerminalModel" ({ cls := "JobTerminalModel", name := "isJob", desc := "(I)Z" } : Jvm.MethodName) ({ cls := "JobTerminalModel", name := "isJob", desc := "(I)Z" } : Jvm.MethodName)) ∈ GW := q_mem 40 rfl rfl
set_option maxRecDepth 20000 in
theorem mw418 : (Jvm.Cond.code ({ cls := "JobTerminalModel", name := "goOn", desc := "(I)I" } : Jvm.MethodName) prog_9_method_23_code (2 : Nat) (Option.some Jvm.ClassFile.FieldType.int)) ∈ GW := q_mem 876 rfl rfl
set_option maxRecDepth 20000 in
theorem mw419 : (Jvm.Cond.methodLink "JobTerminalModel" (150 : Nat) ({ cls := "JobTerminalModel", name := "goOn", desc := "(I)I" } : Jvm.MethodName)) ∈ GW := q_mem 873 rfl rfl
set_option maxRecDepth 20000 in
theorem mw420 : (Jvm.Cond.instanceMethod ({ cls := "JobTerminalModel", name := "goOn", desc := "(I)I" } : Jvm.MethodName)) ∈ GW := q_mem 875 rfl rfl
theorem mw421 : (Jvm.Cond.selects "JobTerminalModel" ({ cls := "JobTerminalModel", name := "goOn", desc := "(I)I" } : Jvm.MethodName) ({ cls := "JobTerminalModel", name := "goOn", desc := "(I)I" } : Jvm.MethodName)) ∈ GW := q_mem 41 rfl rfl
set_option maxRecDepth 20000 in
theorem mw422 : (Jvm.Cond.code ({ cls := "JobTerminalModel", name := "opOf", desc := "(I)I" } : Jvm.MethodName) prog_9_method_29_code (3 : Nat) (Option.some Jvm.ClassFile.FieldType.int)) ∈ GW := q_mem 904 rfl rfl
set_option maxRecDepth 20000 in
theorem mw423 : (Jvm.Cond.methodLink "JobTerminalModel" (157 : Nat) ({ cls := "JobTerminalModel", name := "opOf", desc := "(I)I" } : Jvm.MethodName)) ∈ GW := q_mem 901 rfl rfl
set_option maxRecDepth 20000 in
theorem mw424 : (Jvm.Cond.instanceMethod ({ cls := "JobTerminalModel", name := "opOf", desc := "(I)I" } : Jvm.MethodName)) ∈ GW := q_mem 903 rfl rfl
theorem mw425 : (Jvm.Cond.selects "JobTerminalModel" ({ cls := "JobTerminalModel", name := "opOf", desc := "(I)I" } : Jvm.MethodName) ({ cls := "JobTerminalModel", name := "opOf", desc := "(I)I" } : Jvm.MethodName)) ∈ GW := q_mem 43 rfl rfl
set_option maxRecDepth 20000 in
theorem mw426 : (Jvm.Cond.code ({ cls := "JobTerminalModel", name := "writes", desc := "(I)Z" } : Jvm.MethodName) prog_9_method_33_code (2 : Nat) (Option.some Jvm.ClassFile.FieldType.boolean)) ∈ GW := q_mem 912 rfl rfl
set_option maxRecDepth 20000 in
theorem mw427 : (Jvm.Cond.methodLink "JobTerminalModel" (163 : Nat) ({ cls := "JobTerminalModel", name := "writes", desc := "(I)Z" } : Jvm.MethodName)) ∈ GW := q_mem 909 rfl rfl
set_option maxRecDepth 20000 in
theorem mw428 : (Jvm.Cond.instanceMethod ({ cls := "JobTerminalModel", name := "writes", desc := "(I)Z" } : Jvm.MethodName)) ∈ GW := q_mem 911 rfl rfl
theorem mw429 : (Jvm.Cond.selects "JobTerminalModel" ({ cls := "JobTerminalModel", name := "writes", desc := "(I)Z" } : Jvm.MethodName) ({ cls := "JobTerminalModel", name := "writes", desc := "(I)Z" } : Jvm.MethodName)) ∈ GW := q_mem 45 rfl rfl
set_option maxRecDepth 20000 in
theorem mw430 : (Jvm.Cond.code ({ cls := "JobTerminalModel", name := "writesPipe", desc := "(I)Z" } : Jvm.MethodName) prog_9_method_32_code (2 : Nat) (Option.some Jvm.ClassFile.FieldType.boolean)) ∈ GW := q_mem 916 rfl rfl
set_option maxRecDepth 20000 in
theorem mw431 : (Jvm.Cond.methodLink "JobTerminalModel" (166 : Nat) ({ cls := "JobTerminalModel", name := "writesPipe", desc := "(I)Z" } : Jvm.MethodName)) ∈ GW := q_mem 913 rfl rfl
set_option maxRecDepth 20000 in
theorem mw432 : (Jvm.Cond.instanceMethod ({ cls := "JobTerminalModel", name := "writesPipe", desc := "(I)Z" } : Jvm.MethodName)) ∈ GW := q_mem 915 rfl rfl
theorem mw433 : (Jvm.Cond.selects "JobTerminalModel" ({ cls := "JobTerminalModel", name := "writesPipe", desc := "(I)Z" } : Jvm.MethodName) ({ cls := "JobTerminalModel", name := "writesPipe", desc := "(I)Z" } : Jvm.MethodName)) ∈ GW := q_mem 46 rfl rfl
set_option maxRecDepth 20000 in
theorem mw434 : (Jvm.Cond.code ({ cls := "JobTerminalModel", name := "readsPipe", desc := "(I)Z" } : Jvm.MethodName) prog_9_method_31_code (2 : Nat) (Option.some Jvm.ClassFile.FieldType.boolean)) ∈ GW := q_mem 908 rfl rfl
set_option maxRecDepth 20000 in
theorem mw435 : (Jvm.Cond.methodLink "JobTerminalModel" (160 : Nat) ({ cls := "JobTerminalModel", name := "readsPipe", desc := "(I)Z" } : Jvm.MethodName)) ∈ GW := q_mem 905 rfl rfl
set_option maxRecDepth 20000 in
theorem mw436 : (Jvm.Cond.instanceMethod ({ cls := "JobTerminalModel", name := "readsPipe", desc := "(I)Z" } : Jvm.MethodName)) ∈ GW := q_mem 907 rfl rfl
theorem mw437 : (Jvm.Cond.selects "JobTerminalModel" ({ cls := "JobTerminalModel", name := "readsPipe", desc := "(I)Z" } : Jvm.MethodName) ({ cls := "JobTerminalModel", name := "readsPipe", desc := "(I)Z" } : Jvm.MethodName)) ∈ GW := q_mem 44 rfl rfl
set_option maxRecDepth 20000 in
theorem mw438 : (Jvm.Cond.code ({ cls := "JobTerminalModel", name := "fail", desc := "(I)V" } : Jvm.MethodName) prog_9_method_35_code (2 : Nat) (Option.none : Option Jvm.ClassFile.FieldType)) ∈ GW := q_mem 932 rfl rfl
set_option maxRecDepth 20000 in
theorem mw439 : (Jvm.Cond.methodLink "JobTerminalModel" (172 : Nat) ({ cls := "JobTerminalModel", name := "fail", desc := "(I)V" } : Jvm.MethodName)) ∈ GW := q_mem 929 rfl rfl
set_option maxRecDepth 20000 in
theorem mw440 : (Jvm.Cond.instanceMethod ({ cls := "JobTerminalModel", name := "fail", desc := "(I)V" } : Jvm.MethodName)) ∈ GW := q_mem 931 rfl rfl
theorem mw441 : (Jvm.Cond.selects "JobTerminalModel" ({ cls := "JobTerminalModel", name := "fail", desc := "(I)V" } : Jvm.MethodName) ({ cls := "JobTerminalModel", name := "fail", desc := "(I)V" } : Jvm.MethodName)) ∈ GW := q_mem 50 rfl rfl
set_option maxRecDepth 20000 in
theorem mw442 : (Jvm.Cond.code ({ cls := "JobTerminalModel", name := "numberOf", desc := "(I)I" } : Jvm.MethodName) prog_9_method_30_code (2 : Nat) (Option.some Jvm.ClassFile.FieldType.int)) ∈ GW := q_mem 924 rfl rfl
set_option maxRecDepth 20000 in
theorem mw443 : (Jvm.Cond.methodLink "JobTerminalModel" (175 : Nat) ({ cls := "JobTerminalModel", name := "numberOf", desc := "(I)I" } : Jvm.MethodName)) ∈ GW := q_mem 921 rfl rfl
set_option maxRecDepth 20000 in
theorem mw444 : (Jvm.Cond.instanceMethod ({ cls := "JobTerminalModel", name := "numberOf", desc := "(I)I" } : Jvm.MethodName)) ∈ GW := q_mem 923 rfl rfl
theorem mw445 : (Jvm.Cond.selects "JobTerminalModel" ({ cls := "JobTerminalModel", name := "numberOf", desc := "(I)I" } : Jvm.MethodName) ({ cls := "JobTerminalModel", name := "numberOf", desc := "(I)I" } : Jvm.MethodName)) ∈ GW := q_mem 48 rfl rfl
set_option maxRecDepth 20000 in
theorem mw446 : (Jvm.Cond.code ({ cls := "JobTerminalModel", name := "read", desc := "(I)V" } : Jvm.MethodName) prog_9_method_36_code (4 : Nat) (Option.none : Option Jvm.ClassFile.FieldType)) ∈ GW := q_mem 928 rfl rfl
set_option maxRecDepth 20000 in
theorem mw447 : (Jvm.Cond.methodLink "JobTerminalModel" (178 : Nat) ({ cls := "JobTerminalModel", name := "read", desc := "(I)V" } : Jvm.MethodName)) ∈ GW := q_mem 925 rfl rfl
set_option maxRecDepth 20000 in
theorem mw448 : (Jvm.Cond.instanceMethod ({ cls := "JobTerminalModel", name := "read", desc := "(I)V" } : Jvm.MethodName)) ∈ GW := q_mem 927 rfl rfl
theorem mw449 : (Jvm.Cond.selects "JobTerminalModel" ({ cls := "JobTerminalModel", name := "read", desc := "(I)V" } : Jvm.MethodName) ({ cls := "JobTerminalModel", name := "read", desc := "(I)V" } : Jvm.MethodName)) ∈ GW := q_mem 49 rfl rfl
set_option maxRecDepth 20000 in
theorem mw450 : (Jvm.Cond.code ({ cls := "JobTerminalModel", name := "write", desc := "(II)V" } : Jvm.MethodName) prog_9_method_37_code (4 : Nat) (Option.none : Option Jvm.ClassFile.FieldType)) ∈ GW := q_mem 936 rfl rfl
set_option maxRecDepth 20000 in
theorem mw451 : (Jvm.Cond.methodLink "JobTerminalModel" (181 : Nat) ({ cls := "JobTerminalModel", name := "write", desc := "(II)V" } : Jvm.MethodName)) ∈ GW := q_mem 933 rfl rfl
set_option maxRecDepth 20000 in
theorem mw452 : (Jvm.Cond.instanceMethod ({ cls := "JobTerminalModel", name := "write", desc := "(II)V" } : Jvm.MethodName)) ∈ GW := q_mem 935 rfl rfl
theorem mw453 : (Jvm.Cond.selects "JobTerminalModel" ({ cls := "JobTerminalModel", name := "write", desc := "(II)V" } : Jvm.MethodName) ({ cls := "JobTerminalModel", name := "write", desc := "(II)V" } : Jvm.MethodName)) ∈ GW := q_mem 51 rfl rfl
set_option maxRecDepth 20000 in
theorem mw454 : (Jvm.Cond.code ({ cls := "JobTerminalModel", name := "plain", desc := "(III)V" } : Jvm.MethodName) prog_9_method_39_code (4 : Nat) (Option.none : Option Jvm.ClassFile.FieldType)) ∈ GW := q_mem 940 rfl rfl
set_option maxRecDepth 20000 in
theorem mw455 : (Jvm.Cond.methodLink "JobTerminalModel" (184 : Nat) ({ cls := "JobTerminalModel", name := "plain", desc := "(III)V" } : Jvm.MethodName)) ∈ GW := q_mem 937 rfl rfl
set_option maxRecDepth 20000 in
theorem mw456 : (Jvm.Cond.instanceMethod ({ cls := "JobTerminalModel", name := "plain", desc := "(III)V" } : Jvm.MethodName)) ∈ GW := q_mem 939 rfl rfl
theorem mw457 : (Jvm.Cond.selects "JobTerminalModel" ({ cls := "JobTerminalModel", name := "plain", desc := "(III)V" } : Jvm.MethodName) ({ cls := "JobTerminalModel", name := "plain", desc := "(III)V" } : Jvm.MethodName)) ∈ GW := q_mem 52 rfl rfl
set_option maxRecDepth 20000 in
theorem mw458 : (Jvm.Cond.code ({ cls := "JobTerminalModel", name := "canGoOn", desc := "(I)Z" } : Jvm.MethodName) prog_9_method_34_code (3 : Nat) (Option.some Jvm.ClassFile.FieldType.boolean)) ∈ GW := q_mem 900 rfl rfl
set_option maxRecDepth 20000 in
theorem mw459 : (Jvm.Cond.methodLink "JobTerminalModel" (191 : Nat) ({ cls := "JobTerminalModel", name := "canGoOn", desc := "(I)Z" } : Jvm.MethodName)) ∈ GW := q_mem 897 rfl rfl
set_option maxRecDepth 20000 in
theorem mw460 : (Jvm.Cond.instanceMethod ({ cls := "JobTerminalModel", name := "canGoOn", desc := "(I)Z" } : Jvm.MethodName)) ∈ GW := q_mem 899 rfl rfl
theorem mw461 : (Jvm.Cond.selects "JobTerminalModel" ({ cls := "JobTerminalModel", name := "canGoOn", desc := "(I)Z" } : Jvm.MethodName) ({ cls := "JobTerminalModel", name := "canGoOn", desc := "(I)Z" } : Jvm.MethodName)) ∈ GW := q_mem 42 rfl rfl
set_option maxRecDepth 20000 in
theorem mw462 : (Jvm.Cond.code ({ cls := "JobTerminalModel", name := "perform", desc := "(I)V" } : Jvm.MethodName) prog_9_method_38_code (4 : Nat) (Option.none : Option Jvm.ClassFile.FieldType)) ∈ GW := q_mem 920 rfl rfl
set_option maxRecDepth 20000 in
theorem mw463 : (Jvm.Cond.methodLink "JobTerminalModel" (194 : Nat) ({ cls := "JobTerminalModel", name := "perform", desc := "(I)V" } : Jvm.MethodName)) ∈ GW := q_mem 917 rfl rfl
set_option maxRecDepth 20000 in
theorem mw464 : (Jvm.Cond.instanceMethod ({ cls := "JobTerminalModel", name := "perform", desc := "(I)V" } : Jvm.MethodName)) ∈ GW := q_mem 919 rfl rfl
theorem mw465 : (Jvm.Cond.selects "JobTerminalModel" ({ cls := "JobTerminalModel", name := "perform", desc := "(I)V" } : Jvm.MethodName) ({ cls := "JobTerminalModel", name := "perform", desc := "(I)V" } : Jvm.MethodName)) ∈ GW := q_mem 47 rfl rfl
set_option maxRecDepth 20000 in
theorem mw466 : (Jvm.Cond.fieldLink "JobTerminalModel" (37 : Nat) "JobTerminalModel" "blocked" "[I") ∈ GW := q_mem 700 rfl rfl
set_option maxRecDepth 20000 in
theorem mw467 : (Jvm.Cond.fieldLink "JobTerminalModel" (84 : Nat) "JobTerminalModel" "code" "I") ∈ GW := q_mem 721 rfl rfl
set_option maxRecDepth 20000 in
theorem mw468 : (Jvm.Cond.fieldLink "JobTerminalModel" (75 : Nat) "JobTerminalModel" "edit" "[I") ∈ GW := q_mem 715 rfl rfl
set_option maxRecDepth 20000 in
theorem mw469 : (Jvm.Cond.fieldLink "JobTerminalModel" (119 : Nat) "JobTerminalModel" "edited" "I") ∈ GW := q_mem 714 rfl rfl
set_option maxRecDepth 20000 in
theorem mw470 : (Jvm.Cond.fieldLink "JobTerminalModel" (31 : Nat) "JobTerminalModel" "ends" "[I") ∈ GW := q_mem 698 rfl rfl
set_option maxRecDepth 20000 in
theorem mw471 : (Jvm.Cond.fieldLink "JobTerminalModel" (169 : Nat) "JobTerminalModel" "failed" "Z") ∈ GW := q_mem 720 rfl rfl
set_option maxRecDepth 20000 in
theorem mw472 : (Jvm.Cond.fieldLink "JobTerminalModel" (50 : Nat) "JobTerminalModel" "first" "[I") ∈ GW := q_mem 705 rfl rfl
set_option maxRecDepth 20000 in
theorem mw473 : (Jvm.Cond.fieldLink "JobTerminalModel" (72 : Nat) "JobTerminalModel" "flag" "I") ∈ GW := q_mem 712 rfl rfl
set_option maxRecDepth 20000 in
theorem mw474 : (Jvm.Cond.fieldLink "JobTerminalModel" (68 : Nat) "JobTerminalModel" "front" "I") ∈ GW := q_mem 711 rfl rfl
set_option maxRecDepth 20000 in
theorem mw475 : (Jvm.Cond.fieldLink "JobTerminalModel" (153 : Nat) "JobTerminalModel" "hung" "Z") ∈ GW := q_mem 713 rfl rfl
set_option maxRecDepth 20000 in
theorem mw476 : (Jvm.Cond.fieldLink "JobTerminalModel" (40 : Nat) "JobTerminalModel" "ignored" "[I") ∈ GW := q_mem 701 rfl rfl
set_option maxRecDepth 20000 in
theorem mw477 : (Jvm.Cond.fieldLink "JobTerminalModel" (19 : Nat) "JobTerminalModel" "jobOf" "[I") ∈ GW := q_mem 694 rfl rfl
set_option maxRecDepth 20000 in
theorem mw478 : (Jvm.Cond.fieldLink "JobTerminalModel" (25 : Nat) "JobTerminalModel" "line" "[I") ∈ GW := q_mem 696 rfl rfl
set_option maxRecDepth 20000 in
theorem mw479 : (Jvm.Cond.fieldLink "JobTerminalModel" (43 : Nat) "JobTerminalModel" "nap" "[I") ∈ GW := q_mem 702 rfl rfl
set_option maxRecDepth 20000 in
theorem mw480 : (Jvm.Cond.fieldLink "JobTerminalModel" (13 : Nat) "JobTerminalModel" "numbers" "[I") ∈ GW := q_mem 692 rfl rfl
set_option maxRecDepth 20000 in
theorem mw481 : (Jvm.Cond.fieldLink "JobTerminalModel" (7 : Nat) "JobTerminalModel" "ops" "[I") ∈ GW := q_mem 691 rfl rfl
set_option maxRecDepth 20000 in
theorem mw482 : (Jvm.Cond.fieldLink "JobTerminalModel" (34 : Nat) "JobTerminalModel" "pending" "[I") ∈ GW := q_mem 699 rfl rfl
set_option maxRecDepth 20000 in
theorem mw483 : (Jvm.Cond.fieldLink "JobTerminalModel" (65 : Nat) "JobTerminalModel" "pipe" "[I") ∈ GW := q_mem 710 rfl rfl
set_option maxRecDepth 20000 in
theorem mw484 : (Jvm.Cond.fieldLink "JobTerminalModel" (62 : Nat) "JobTerminalModel" "piped" "[I") ∈ GW := q_mem 709 rfl rfl
set_option maxRecDepth 20000 in
theorem mw485 : (Jvm.Cond.fieldLink "JobTerminalModel" (22 : Nat) "JobTerminalModel" "programOf" "[I") ∈ GW := q_mem 695 rfl rfl
set_option maxRecDepth 20000 in
theorem mw486 : (Jvm.Cond.fieldLink "JobTerminalModel" (78 : Nat) "JobTerminalModel" "queue" "[I") ∈ GW := q_mem 717 rfl rfl
set_option maxRecDepth 20000 in
theorem mw487 : (Jvm.Cond.fieldLink "JobTerminalModel" (122 : Nat) "JobTerminalModel" "queued" "I") ∈ GW := q_mem 716 rfl rfl
set_option maxRecDepth 20000 in
theorem mw488 : (Jvm.Cond.fieldLink "JobTerminalModel" (28 : Nat) "JobTerminalModel" "register" "[I") ∈ GW := q_mem 697 rfl rfl
set_option maxRecDepth 20000 in
theorem mw489 : (Jvm.Cond.fieldLink "JobTerminalModel" (81 : Nat) "JobTerminalModel" "screen" "[I") ∈ GW := q_mem 719 rfl rfl
set_option maxRecDepth 20000 in
theorem mw490 : (Jvm.Cond.fieldLink "JobTerminalModel" (53 : Nat) "JobTerminalModel" "second" "[I") ∈ GW := q_mem 706 rfl rfl
set_option maxRecDepth 20000 in
theorem mw491 : (Jvm.Cond.fieldLink "JobTerminalModel" (106 : Nat) "JobTerminalModel" "shows" "I") ∈ GW := q_mem 718 rfl rfl
set_option maxRecDepth 20000 in
theorem mw492 : (Jvm.Cond.fieldLink "JobTerminalModel" (16 : Nat) "JobTerminalModel" "state" "[I") ∈ GW := q_mem 693 rfl rfl
set_option maxRecDepth 20000 in
theorem mw493 : (Jvm.Cond.fieldLink "JobTerminalModel" (46 : Nat) "JobTerminalModel" "there" "[Z") ∈ GW := q_mem 704 rfl rfl
set_option maxRecDepth 20000 in
theorem mw494 : (Jvm.Cond.fieldLink "JobTerminalModel" (188 : Nat) "JobTerminalModel" "turn" "I") ∈ GW := q_mem 703 rfl rfl
set_option maxRecDepth 20000 in
theorem mw495 : (Jvm.Cond.fieldLink "JobTerminalModel" (59 : Nat) "JobTerminalModel" "untold" "[Z") ∈ GW := q_mem 708 rfl rfl
set_option maxRecDepth 20000 in
theorem mw496 : (Jvm.Cond.fieldLink "JobTerminalModel" (56 : Nat) "JobTerminalModel" "was" "[I") ∈ GW := q_mem 707 rfl rfl
theorem mw497 : (Jvm.Cond.methodLink "JobTerminal$Programs" (3 : Nat) ({ cls := "java/lang/Object", name := "<init>", desc := "()V" } : Jvm.MethodName)) ∈ GW := q_mem 81 rfl rfl
theorem mw498 : (Jvm.Cond.instanceMethod ({ cls := "java/lang/Object", name := "<init>", desc := "()V" } : Jvm.MethodName)) ∈ GW := q_mem 74 rfl rfl
theorem mw499 : (Jvm.Cond.code ({ cls := "java/lang/Object", name := "<init>", desc := "()V" } : Jvm.MethodName) object_method_1_code (1 : Nat) (Option.none : Option Jvm.ClassFile.FieldType)) ∈ GW := q_mem 75 rfl rfl
theorem mw500 : (Jvm.Cond.arrayClass Jvm.ClassFile.FieldType.int) ∈ GW := q_mem 89 rfl rfl
theorem mw501 : (Jvm.Cond.methodLink "JobTerminal$Display" (3 : Nat) ({ cls := "java/lang/Object", name := "<init>", desc := "()V" } : Jvm.MethodName)) ∈ GW := q_mem 122 rfl rfl
theorem mw502 : (Jvm.Cond.methodLink "JobTerminal$JobProcess" (3 : Nat) ({ cls := "java/lang/Object", name := "<init>", desc := "()V" } : Jvm.MethodName)) ∈ GW := q_mem 161 rfl rfl
theorem mw503 : (Jvm.Cond.methodLink "JobTerminal$NumberRow" (3 : Nat) ({ cls := "java/lang/Object", name := "<init>", desc := "()V" } : Jvm.MethodName)) ∈ GW := q_mem 101 rfl rfl
theorem mw504 : (Jvm.Cond.methodLink "JobTerminal$NumberRow" (9 : Nat) ({ cls := "java/lang/Math", name := "max", desc := "(II)I" } : Jvm.MethodName)) ∈ GW := q_mem 102 rfl rfl
theorem mw505 : (Jvm.Cond.static ({ cls := "java/lang/Math", name := "max", desc := "(II)I" } : Jvm.MethodName)) ∈ GW := q_mem 103 rfl rfl
theorem mw506 : (Jvm.Cond.code ({ cls := "java/lang/Math", name := "max", desc := "(II)I" } : Jvm.MethodName) prog_13_method_65_code (2 : Nat) (Option.some Jvm.ClassFile.FieldType.int)) ∈ GW := q_mem 104 rfl rfl
theorem mw507 : (Jvm.Cond.methodLink "JobTerminal$Job" (3 : Nat) ({ cls := "java/lang/Object", name := "<init>", desc := "()V" } : Jvm.MethodName)) ∈ GW := q_mem 206 rfl rfl
theorem mw508 : (Jvm.Cond.fieldLink "JobTerminal$Job" (9 : Nat) "JobTerminal$Job" "number" "I") ∈ GW := q_mem 209 rfl rfl
theorem mw509 : (Jvm.Cond.classLink "JobTerminal$Job" (15 : Nat) "JobTerminal$NumberRow") ∈ GW := q_mem 207 rfl rfl
theorem mw510 : (Jvm.Cond.instantiable "JobTerminal$NumberRow" (3 : Nat)) ∈ GW := q_mem 97 rfl rfl
theorem mw511 : (Jvm.Cond.code ({ cls := "JobTerminal$NumberRow", name := "<init>", desc := "(I)V" } : Jvm.MethodName) prog_5_method_1_code (2 : Nat) (Option.none : Option Jvm.ClassFile.FieldType)) ∈ GW := q_mem 100 rfl rfl
theorem mw512 : (Jvm.Cond.methodLink "JobTerminal$Job" (17 : Nat) ({ cls := "JobTerminal$NumberRow", name := "<init>", desc := "(I)V" } : Jvm.MethodName)) ∈ GW := q_mem 208 rfl rfl
theorem mw513 : (Jvm.Cond.instanceMethod ({ cls := "JobTerminal$NumberRow", name := "<init>", desc := "(I)V" } : Jvm.MethodName)) ∈ GW := q_mem 99 rfl rfl
theorem mw514 : (Jvm.Cond.methodLink "JobTerminal$Terminal" (3 : Nat) ({ cls := "java/lang/Object", name := "<init>", desc := "()V" } : Jvm.MethodName)) ∈ GW := q_mem 95 rfl rfl
theorem mw515 : (Jvm.Cond.classLink "JobTerminal$Terminal" (9 : Nat) "JobTerminal$NumberRow") ∈ GW := q_mem 96 rfl rfl
theorem mw516 : (Jvm.Cond.methodLink "JobTerminal$Terminal" (13 : Nat) ({ cls := "JobTerminal$NumberRow", name := "<init>", desc := "(I)V" } : Jvm.MethodName)) ∈ GW := q_mem 98 rfl rfl
theorem mw517 : (Jvm.Cond.classLink "JobTerminal$Terminal" (23 : Nat) "JobTerminal$Display") ∈ GW := q_mem 117 rfl rfl
theorem mw518 : (Jvm.Cond.instantiable "JobTerminal$Display" (3 : Nat)) ∈ GW := q_mem 118 rfl rfl
theorem mw519 : (Jvm.Cond.code ({ cls := "JobTerminal$Display", name := "<init>", desc := "()V" } : Jvm.MethodName) prog_2_method_1_code (1 : Nat) (Option.none : Option Jvm.ClassFile.FieldType)) ∈ GW := q_mem 121 rfl rfl
theorem mw520 : (Jvm.Cond.methodLink "JobTerminal$Terminal" (25 : Nat) ({ cls := "JobTerminal$Display", name := "<init>", desc := "()V" } : Jvm.MethodName)) ∈ GW := q_mem 119 rfl rfl
theorem mw521 : (Jvm.Cond.instanceMethod ({ cls := "JobTerminal$Display", name := "<init>", desc := "()V" } : Jvm.MethodName)) ∈ GW := q_mem 120 rfl rfl
theorem mw522 : (Jvm.Cond.methodLink "JobTerminal" (1 : Nat) ({ cls := "java/lang/Object", name := "<init>", desc := "()V" } : Jvm.MethodName)) ∈ GW := q_mem 73 rfl rfl
theorem mw523 : (Jvm.Cond.classLink "JobTerminal" (7 : Nat) "JobTerminal$Programs") ∈ GW := q_mem 76 rfl rfl
theorem mw524 : (Jvm.Cond.instantiable "JobTerminal$Programs" (2 : Nat)) ∈ GW := q_mem 77 rfl rfl
theorem mw525 : (Jvm.Cond.code ({ cls := "JobTerminal$Programs", name := "<init>", desc := "()V" } : Jvm.MethodName) prog_6_method_1_code (1 : Nat) (Option.none : Option Jvm.ClassFile.FieldType)) ∈ GW := q_mem 80 rfl rfl
theorem mw526 : (Jvm.Cond.methodLink "JobTerminal" (9 : Nat) ({ cls := "JobTerminal$Programs", name := "<init>", desc := "()V" } : Jvm.MethodName)) ∈ GW := q_mem 78 rfl rfl
theorem mw527 : (Jvm.Cond.instanceMethod ({ cls := "JobTerminal$Programs", name := "<init>", desc := "()V" } : Jvm.MethodName)) ∈ GW := q_mem 79 rfl rfl
theorem mw528 : (Jvm.Cond.classLink "JobTerminal" (16 : Nat) "JobTerminal$Terminal") ∈ GW := q_mem 90 rfl rfl
theorem mw529 : (Jvm.Cond.instantiable "JobTerminal$Terminal" (5 : Nat)) ∈ GW := q_mem 91 rfl rfl
theorem mw530 : (Jvm.Cond.code ({ cls := "JobTerminal$Terminal", name := "<init>", desc := "()V" } : Jvm.MethodName) prog_7_method_1_code (1 : Nat) (Option.none : Option Jvm.ClassFile.FieldType)) ∈ GW := q_mem 94 rfl rfl
theorem mw531 : (Jvm.Cond.methodLink "JobTerminal" (18 : Nat) ({ cls := "JobTerminal$Terminal", name := "<init>", desc := "()V" } : Jvm.MethodName)) ∈ GW := q_mem 92 rfl rfl
theorem mw532 : (Jvm.Cond.instanceMethod ({ cls := "JobTerminal$Terminal", name := "<init>", desc := "()V" } : Jvm.MethodName)) ∈ GW := q_mem 93 rfl rfl
theorem mw533 : (Jvm.Cond.classLink "JobTerminal" (23 : Nat) "JobTerminal$JobProcess") ∈ GW := q_mem 155 rfl rfl
theorem mw534 : (Jvm.Cond.instantiable "JobTerminal$JobProcess" (10 : Nat)) ∈ GW := q_mem 157 rfl rfl
theorem mw535 : (Jvm.Cond.code ({ cls := "JobTerminal$JobProcess", name := "<init>", desc := "()V" } : Jvm.MethodName) prog_4_method_1_code (1 : Nat) (Option.none : Option Jvm.ClassFile.FieldType)) ∈ GW := q_mem 160 rfl rfl
theorem mw536 : (Jvm.Cond.instanceMethod ({ cls := "JobTerminal$JobProcess", name := "<init>", desc := "()V" } : Jvm.MethodName)) ∈ GW := q_mem 159 rfl rfl
theorem mw537 : (Jvm.Cond.classLink "JobTerminal" (30 : Nat) "JobTerminal$Job") ∈ GW := q_mem 200 rfl rfl
theorem mw538 : (Jvm.Cond.instantiable "JobTerminal$Job" (6 : Nat)) ∈ GW := q_mem 202 rfl rfl
theorem mw539 : (Jvm.Cond.code ({ cls := "JobTerminal$Job", name := "<init>", desc := "(I)V" } : Jvm.MethodName) prog_3_method_1_code (2 : Nat) (Option.none : Option Jvm.ClassFile.FieldType)) ∈ GW := q_mem 205 rfl rfl
theorem mw540 : (Jvm.Cond.methodLink "JobTerminal" (36 : Nat) ({ cls := "JobTerminal$Job", name := "<init>", desc := "(I)V" } : Jvm.MethodName)) ∈ GW := q_mem 203 rfl rfl
theorem mw541 : (Jvm.Cond.instanceMethod ({ cls := "JobTerminal$Job", name := "<init>", desc := "(I)V" } : Jvm.MethodName)) ∈ GW := q_mem 204 rfl rfl
set_option maxRecDepth 20000 in
theorem mw542 : (Jvm.Cond.methodLink "JobTerminalModel" (1 : Nat) ({ cls := "java/lang/Object", name := "<init>", desc := "()V" } : Jvm.MethodName)) ∈ GW := q_mem 690 rfl rfl
set_option maxRecDepth 20000 in
theorem mw543 : (Jvm.Cond.arrayClass Jvm.ClassFile.FieldType.boolean) ∈ GW := q_mem 785 rfl rfl
theorem i_Display : ∀ w ∈ u_ws R_Display F_Display 3, w ∈ GW := by
  intro w hw
  obtain ⟨k, hk, rfl⟩ := List.mem_map.mp hw
  have hk := List.mem_range.mp hk
  match k, hk with
  | 0, _ => exact mw0
  | 1, _ => exact mw1
  | 2, _ => exact mw2
  | k + 3, hk => exact absurd hk (by omega)
theorem i_Job : ∀ w ∈ u_ws R_Job F_Job 6, w ∈ GW := by
  intro w hw
  obtain ⟨k, hk, rfl⟩ := List.mem_map.mp hw
  have hk := List.mem_range.mp hk
  match k, hk with
  | 0, _ => exact mw3
  | 1, _ => exact mw4
  | 2, _ => exact mw5
  | 3, _ => exact mw6
  | 4, _ => exact mw7
  | 5, _ => exact mw8
  | k + 6, hk => exact absurd hk (by omega)
theorem i_JobProcess : ∀ w ∈ u_ws R_JobProcess F_JobProcess 10, w ∈ GW := by
  intro w hw
  obtain ⟨k, hk, rfl⟩ := List.mem_map.mp hw
  have hk := List.mem_range.mp hk
  match k, hk with
  | 0, _ => exact mw9
  | 1, _ => exact mw10
  | 2, _ => exact mw11
  | 3, _ => exact mw12
  | 4, _ => exact mw13
  | 5, _ => exact mw14
  | 6, _ => exact mw15
  | 7, _ => exact mw16
  | 8, _ => exact mw17
  | 9, _ => exact mw18
  | k + 10, hk => exact absurd hk (by omega)
theorem i_NumberRow : ∀ w ∈ u_ws R_NumberRow F_NumberRow 3, w ∈ GW := by
  intro w hw
  obtain ⟨k, hk, rfl⟩ := List.mem_map.mp hw
  have hk := List.mem_range.mp hk
  match k, hk with
  | 0, _ => exact mw19
  | 1, _ => exact mw20
  | 2, _ => exact mw21
  | k + 3, hk => exact absurd hk (by omega)
theorem i_Programs : ∀ w ∈ u_ws R_Programs F_Programs 2, w ∈ GW := by
  intro w hw
  obtain ⟨k, hk, rfl⟩ := List.mem_map.mp hw
  have hk := List.mem_range.mp hk
  match k, hk with
  | 0, _ => exact mw22
  | 1, _ => exact mw23
  | k + 2, hk => exact absurd hk (by omega)
theorem i_Terminal : ∀ w ∈ u_ws R_Terminal F_Terminal 5, w ∈ GW := by
  intro w hw
  obtain ⟨k, hk, rfl⟩ := List.mem_map.mp hw
  have hk := List.mem_range.mp hk
  match k, hk with
  | 0, _ => exact mw24
  | 1, _ => exact mw25
  | 2, _ => exact mw26
  | 3, _ => exact mw27
  | 4, _ => exact mw28
  | k + 5, hk => exact absurd hk (by omega)
theorem i_JT : ∀ w ∈ u_ws R_JT F_JT 6, w ∈ GW := by
  intro w hw
  obtain ⟨k, hk, rfl⟩ := List.mem_map.mp hw
  have hk := List.mem_range.mp hk
  match k, hk with
  | 0, _ => exact mw29
  | 1, _ => exact mw30
  | 2, _ => exact mw31
  | 3, _ => exact mw32
  | 4, _ => exact mw33
  | 5, _ => exact mw34
  | k + 6, hk => exact absurd hk (by omega)
theorem i_Mo : ∀ w ∈ u_ws R_Mo F_Mo 31, w ∈ GW := by
  intro w hw
  obtain ⟨k, hk, rfl⟩ := List.mem_map.mp hw
  have hk := List.mem_range.mp hk
  match k, hk with
  | 0, _ => exact mw35
  | 1, _ => exact mw36
  | 2, _ => exact mw37
  | 3, _ => exact mw38
  | 4, _ => exact mw39
  | 5, _ => exact mw40
  | 6, _ => exact mw41
  | 7, _ => exact mw42
  | 8, _ => exact mw43
  | 9, _ => exact mw44
  | 10, _ => exact mw45
  | 11, _ => exact mw46
  | 12, _ => exact mw47
  | 13, _ => exact mw48
  | 14, _ => exact mw49
  | 15, _ => exact mw50
  | 16, _ => exact mw51
  | 17, _ => exact mw52
  | 18, _ => exact mw53
  | 19, _ => exact mw54
  | 20, _ => exact mw55
  | 21, _ => exact mw56
  | 22, _ => exact mw57
  | 23, _ => exact mw58
  | 24, _ => exact mw59
  | 25, _ => exact mw60
  | 26, _ => exact mw61
  | 27, _ => exact mw62
  | 28, _ => exact mw63
  | 29, _ => exact mw64
  | 30, _ => exact mw65
  | k + 31, hk => exact absurd hk (by omega)
/-- nest mates' words -/
def NW : List Cond := [(Jvm.Cond.fieldLinkNest "JobTerminal$Terminal" (70 : Nat) "JobTerminal$NumberRow" "count" "I" "JobTerminal"), (Jvm.Cond.fieldLinkNest "JobTerminal" (192 : Nat) "JobTerminal$NumberRow" "count" "I" "JobTerminal"), (Jvm.Cond.fieldLinkNest "JobTerminal" (180 : Nat) "JobTerminal$Display" "total" "I" "JobTerminal"), (Jvm.Cond.fieldLinkNest "JobTerminal" (188 : Nat) "JobTerminal$Terminal" "edit" "LJobTerminal$NumberRow;" "JobTerminal"), (Jvm.Cond.fieldLinkNest "JobTerminal" (197 : Nat) "JobTerminal$Terminal" "queue" "LJobTerminal$NumberRow;" "JobTerminal"), (Jvm.Cond.fieldLinkNest "JobTerminal" (176 : Nat) "JobTerminal$Terminal" "display" "LJobTerminal$Display;" "JobTerminal"), (Jvm.Cond.fieldLinkNest "JobTerminal" (58 : Nat) "JobTerminal$Terminal" "modes" "I" "JobTerminal"), (Jvm.Cond.fieldLinkNest "JobTerminal" (164 : Nat) "JobTerminal$Terminal" "hangs" "Z" "JobTerminal"), (Jvm.Cond.fieldLinkNest "JobTerminal" (152 : Nat) "JobTerminal$JobProcess" "owner" "LJobTerminal$Job;" "JobTerminal"), (Jvm.Cond.fieldLinkNest "JobTerminal$Job" (46 : Nat) "JobTerminal$JobProcess" "state" "I" "JobTerminal"), (Jvm.Cond.fieldLinkNest "JobTerminal" (159 : Nat) "JobTerminal$JobProcess" "state" "I" "JobTerminal"), (Jvm.Cond.fieldLinkNest "JobTerminal" (216 : Nat) "JobTerminal$JobProcess" "program" "I" "JobTerminal"), (Jvm.Cond.fieldLinkNest "JobTerminal" (219 : Nat) "JobTerminal$JobProcess" "line" "I" "JobTerminal"), (Jvm.Cond.fieldLinkNest "JobTerminal" (232 : Nat) "JobTerminal$JobProcess" "register" "I" "JobTerminal"), (Jvm.Cond.fieldLinkNest "JobTerminal" (161 : Nat) "JobTerminal$JobProcess" "nap" "I" "JobTerminal"), (Jvm.Cond.fieldLinkNest "JobTerminal$JobProcess" (43 : Nat) "JobTerminal$Job" "number" "I" "JobTerminal"), (Jvm.Cond.fieldLinkNest "JobTerminal" (111 : Nat) "JobTerminal$Job" "number" "I" "JobTerminal"), (Jvm.Cond.fieldLinkNest "JobTerminal" (204 : Nat) "JobTerminal$Job" "pipe" "LJobTerminal$NumberRow;" "JobTerminal"), (Jvm.Cond.fieldLinkNest "JobTerminal" (200 : Nat) "JobTerminal$Job" "second" "LJobTerminal$JobProcess;" "JobTerminal"), (Jvm.Cond.fieldLinkNest "JobTerminal" (136 : Nat) "JobTerminal$Job" "untold" "Z" "JobTerminal"), (Jvm.Cond.fieldLinkNest "JobTerminal" (207 : Nat) "JobTerminal$Job" "settledState" "I" "JobTerminal"), (Jvm.Cond.methodLinkNest "JobTerminal" (29 : Nat) ({ cls := "JobTerminal$JobProcess", name := "<init>", desc := "()V" } : Jvm.MethodName) "JobTerminal"), (Jvm.Cond.arrayOver (Jvm.ClassFile.FieldType.object "JobTerminal$JobProcess")), (Jvm.Cond.arrayOver (Jvm.ClassFile.FieldType.object "JobTerminal$Job"))]
theorem NW_ok : q_nwOk NW := by
  intro w hw
  simp only [NW, List.mem_cons, List.not_mem_nil, or_false] at hw
  rcases hw with rfl | rfl | rfl | rfl | rfl | rfl | rfl | rfl | rfl | rfl | rfl | rfl | rfl | rfl | rfl | rfl | rfl | rfl | rfl | rfl | rfl | rfl | rfl | rfl <;> first | exact ⟨fun s U he h => va_Nw.same rfl he h, fun s U hW h => va_Nw.warmF hW h⟩ | exact ⟨fun s U he h => va_Nw.same rfl he h, fun s U hW h => va_Nw.warmM hW h⟩ | exact ⟨fun s U he h => va_AO.moved (by rw [he]; exact Vm.Alike.refl _) h, fun s U hW h => va_AO.moved hW.alike h⟩
set_option maxRecDepth 20000 in
theorem NW_in : ∀ w ∈ NW, w ∈ lw_tbl := by
  intro w hw
  simp only [NW, List.mem_cons, List.not_mem_nil, or_false] at hw
  rcases hw with rfl | rfl | rfl | rfl | rfl | rfl | rfl | rfl | rfl | rfl | rfl | rfl | rfl | rfl | rfl | rfl | rfl | rfl | rfl | rfl | rfl | rfl | rfl | rfl
  · exact List.mem_of_getElem? (i := 108) rfl
  · exact List.mem_of_getElem? (i := 109) rfl
  · exact List.mem_of_getElem? (i := 126) rfl
  · exact List.mem_of_getElem? (i := 135) rfl
  · exact List.mem_of_getElem? (i := 137) rfl
  · exact List.mem_of_getElem? (i := 139) rfl
  · exact List.mem_of_getElem? (i := 141) rfl
  · exact List.mem_of_getElem? (i := 143) rfl
  · exact List.mem_of_getElem? (i := 163) rfl
  · exact List.mem_of_getElem? (i := 165) rfl
  · exact List.mem_of_getElem? (i := 166) rfl
  · exact List.mem_of_getElem? (i := 168) rfl
  · exact List.mem_of_getElem? (i := 170) rfl
  · exact List.mem_of_getElem? (i := 172) rfl
  · exact List.mem_of_getElem? (i := 178) rfl
  · exact List.mem_of_getElem? (i := 210) rfl
  · exact List.mem_of_getElem? (i := 211) rfl
  · exact List.mem_of_getElem? (i := 213) rfl
  · exact List.mem_of_getElem? (i := 216) rfl
  · exact List.mem_of_getElem? (i := 218) rfl
  · exact List.mem_of_getElem? (i := 220) rfl
  · exact List.mem_of_getElem? (i := 158) rfl
  · exact List.mem_of_getElem? (i := 156) rfl
  · exact List.mem_of_getElem? (i := 201) rfl
/-- a callee's words among the caller's -/
theorem q_goodV {a b : Cond} {own C : String} {idx : Nat} {y : MethodName} (hb : b ∈ GW) (h1 : Cond.methodLink own idx y ∈ GW) (h2 : Cond.instanceMethod y ∈ GW) (h3 : Cond.selects C y y ∈ GW) (h4 : Cond.initialized C ∈ GW) : GoodIn (a :: GW) (wsV own idx C y (b :: GW)) := by
  intro w hw
  have k : w ∈ GW := by
    simp only [wsV, List.mem_append, List.mem_cons, List.not_mem_nil, or_false] at hw
    rcases hw with (rfl | rfl | rfl | rfl) | rfl | hw <;> assumption
  exact ⟨List.mem_cons_of_mem _ k, (q_gw k).2⟩
theorem q_goodS {a b : Cond} {own : String} {idx : Nat} {y : MethodName} (hb : b ∈ GW) (h1 : Cond.methodLink own idx y ∈ GW) (h2 : Cond.static y ∈ GW) (h4 : Cond.initialized y.cls ∈ GW) : GoodIn (a :: GW) (va_wsS own idx y (b :: GW)) := by
  intro w hw
  have k : w ∈ GW := by
    simp only [va_wsS, List.mem_append, List.mem_cons, List.not_mem_nil, or_false] at hw
    rcases hw with (rfl | rfl | rfl) | rfl | hw <;> assumption
  exact ⟨List.mem_cons_of_mem _ k, (q_gw k).2⟩
abbrev b_JT_init : ByteArray := prog_1_method_1_code
def y_JT_init : MethodName := ({ cls := "JobTerminal", name := "<init>", desc := "()V" } : Jvm.MethodName)
abbrev w_JT_init : List Cond := .code y_JT_init b_JT_init 2 none :: GW
abbrev b_JT_program : ByteArray := prog_1_method_2_code
def y_JT_program : MethodName := ({ cls := "JobTerminal", name := "program", desc := "(IIII)Z" } : Jvm.MethodName)
abbrev w_JT_program : List Cond := .code y_JT_program b_JT_program 5 (some .boolean) :: GW
abbrev b_JT_flags : ByteArray := prog_1_method_3_code
def y_JT_flags : MethodName := ({ cls := "JobTerminal", name := "flags", desc := "(I)I" } : Jvm.MethodName)
abbrev w_JT_flags : List Cond := .code y_JT_flags b_JT_flags 3 (some .int) :: GW
abbrev b_JT_key : ByteArray := prog_1_method_4_code
def y_JT_key : MethodName := ({ cls := "JobTerminal", name := "key", desc := "(C)Z" } : Jvm.MethodName)
abbrev w_JT_key : List Cond := .code y_JT_key b_JT_key 4 (some .boolean) :: GW
abbrev b_JT_launch : ByteArray := prog_1_method_5_code
def y_JT_launch : MethodName := ({ cls := "JobTerminal", name := "launch", desc := "(IIZ)I" } : Jvm.MethodName)
abbrev w_JT_launch : List Cond := .code y_JT_launch b_JT_launch 8 (some .int) :: GW
abbrev b_JT_front : ByteArray := prog_1_method_6_code
def y_JT_front : MethodName := ({ cls := "JobTerminal", name := "front", desc := "(I)I" } : Jvm.MethodName)
abbrev w_JT_front : List Cond := .code y_JT_front b_JT_front 3 (some .int) :: GW
abbrev b_JT_back : ByteArray := prog_1_method_7_code
def y_JT_back : MethodName := ({ cls := "JobTerminal", name := "back", desc := "(I)I" } : Jvm.MethodName)
abbrev w_JT_back : List Cond := .code y_JT_back b_JT_back 3 (some .int) :: GW
abbrev b_JT_send : ByteArray := prog_1_method_8_code
def y_JT_send : MethodName := ({ cls := "JobTerminal", name := "send", desc := "(II)I" } : Jvm.MethodName)
abbrev w_JT_send : List Cond := .code y_JT_send b_JT_send 4 (some .int) :: GW
abbrev b_JT_report : ByteArray := prog_1_method_9_code
def y_JT_report : MethodName := ({ cls := "JobTerminal", name := "report", desc := "()I" } : Jvm.MethodName)
abbrev w_JT_report : List Cond := .code y_JT_report b_JT_report 3 (some .int) :: GW
abbrev b_JT_step : ByteArray := prog_1_method_10_code
def y_JT_step : MethodName := ({ cls := "JobTerminal", name := "step", desc := "(I)I" } : Jvm.MethodName)
abbrev w_JT_step : List Cond := .code y_JT_step b_JT_step 5 (some .int) :: GW
abbrev b_JT_tick : ByteArray := prog_1_method_11_code
def y_JT_tick : MethodName := ({ cls := "JobTerminal", name := "tick", desc := "()I" } : Jvm.MethodName)
abbrev w_JT_tick : List Cond := .code y_JT_tick b_JT_tick 4 (some .int) :: GW
abbrev b_JT_hang : ByteArray := prog_1_method_12_code
def y_JT_hang : MethodName := ({ cls := "JobTerminal", name := "hang", desc := "()Z" } : Jvm.MethodName)
abbrev w_JT_hang : List Cond := .code y_JT_hang b_JT_hang 3 (some .boolean) :: GW
abbrev b_JT_foreground : ByteArray := prog_1_method_13_code
def y_JT_foreground : MethodName := ({ cls := "JobTerminal", name := "foreground", desc := "()I" } : Jvm.MethodName)
abbrev w_JT_foreground : List Cond := .code y_JT_foreground b_JT_foreground 1 (some .int) :: GW
abbrev b_JT_job : ByteArray := prog_1_method_14_code
def y_JT_job : MethodName := ({ cls := "JobTerminal", name := "job", desc := "(I)I" } : Jvm.MethodName)
abbrev w_JT_job : List Cond := .code y_JT_job b_JT_job 3 (some .int) :: GW
abbrev b_JT_process : ByteArray := prog_1_method_15_code
def y_JT_process : MethodName := ({ cls := "JobTerminal", name := "process", desc := "(II)I" } : Jvm.MethodName)
abbrev w_JT_process : List Cond := .code y_JT_process b_JT_process 3 (some .int) :: GW
abbrev b_JT_shown : ByteArray := prog_1_method_16_code
def y_JT_shown : MethodName := ({ cls := "JobTerminal", name := "shown", desc := "()I" } : Jvm.MethodName)
abbrev w_JT_shown : List Cond := .code y_JT_shown b_JT_shown 1 (some .int) :: GW
abbrev b_JT_screen : ByteArray := prog_1_method_17_code
def y_JT_screen : MethodName := ({ cls := "JobTerminal", name := "screen", desc := "(I)I" } : Jvm.MethodName)
abbrev w_JT_screen : List Cond := .code y_JT_screen b_JT_screen 2 (some .int) :: GW
abbrev b_JT_held : ByteArray := prog_1_method_18_code
def y_JT_held : MethodName := ({ cls := "JobTerminal", name := "held", desc := "(I)I" } : Jvm.MethodName)
abbrev w_JT_held : List Cond := .code y_JT_held b_JT_held 3 (some .int) :: GW
abbrev b_JT_findJob : ByteArray := prog_1_method_19_code
def y_JT_findJob : MethodName := ({ cls := "JobTerminal", name := "findJob", desc := "(I)LJobTerminal$Job;" } : Jvm.MethodName)
abbrev w_JT_findJob : List Cond := .code y_JT_findJob b_JT_findJob 3 (some (.object "JobTerminal$Job")) :: GW
abbrev b_JT_unusedJob : ByteArray := prog_1_method_20_code
def y_JT_unusedJob : MethodName := ({ cls := "JobTerminal", name := "unusedJob", desc := "()LJobTerminal$Job;" } : Jvm.MethodName)
abbrev w_JT_unusedJob : List Cond := .code y_JT_unusedJob b_JT_unusedJob 2 (some (.object "JobTerminal$Job")) :: GW
abbrev b_JT_freeProcess : ByteArray := prog_1_method_21_code
def y_JT_freeProcess : MethodName := ({ cls := "JobTerminal", name := "freeProcess", desc := "(I)LJobTerminal$JobProcess;" } : Jvm.MethodName)
abbrev w_JT_freeProcess : List Cond := .code y_JT_freeProcess b_JT_freeProcess 4 (some (.object "JobTerminal$JobProcess")) :: GW
abbrev b_JT_sendAndSettle : ByteArray := prog_1_method_22_code
def y_JT_sendAndSettle : MethodName := ({ cls := "JobTerminal", name := "sendAndSettle", desc := "(LJobTerminal$Job;I)I" } : Jvm.MethodName)
abbrev w_JT_sendAndSettle : List Cond := .code y_JT_sendAndSettle b_JT_sendAndSettle 3 (some .int) :: GW
abbrev b_JT_settleAll : ByteArray := prog_1_method_23_code
def y_JT_settleAll : MethodName := ({ cls := "JobTerminal", name := "settleAll", desc := "()V" } : Jvm.MethodName)
abbrev w_JT_settleAll : List Cond := .code y_JT_settleAll b_JT_settleAll 2 none :: GW
abbrev b_JT_settle : ByteArray := prog_1_method_24_code
def y_JT_settle : MethodName := ({ cls := "JobTerminal", name := "settle", desc := "(LJobTerminal$Job;)V" } : Jvm.MethodName)
abbrev w_JT_settle : List Cond := .code y_JT_settle b_JT_settle 2 none :: GW
abbrev b_JT_tell : ByteArray := prog_1_method_25_code
def y_JT_tell : MethodName := ({ cls := "JobTerminal", name := "tell", desc := "(LJobTerminal$Job;)I" } : Jvm.MethodName)
abbrev w_JT_tell : List Cond := .code y_JT_tell b_JT_tell 3 (some .int) :: GW
abbrev b_JT_nextToGo : ByteArray := prog_1_method_26_code
def y_JT_nextToGo : MethodName := ({ cls := "JobTerminal", name := "nextToGo", desc := "()LJobTerminal$JobProcess;" } : Jvm.MethodName)
abbrev w_JT_nextToGo : List Cond := .code y_JT_nextToGo b_JT_nextToGo 3 (some (.object "JobTerminal$JobProcess")) :: GW
abbrev b_JT_canGoOn : ByteArray := prog_1_method_27_code
def y_JT_canGoOn : MethodName := ({ cls := "JobTerminal", name := "canGoOn", desc := "(LJobTerminal$JobProcess;)Z" } : Jvm.MethodName)
abbrev w_JT_canGoOn : List Cond := .code y_JT_canGoOn b_JT_canGoOn 2 (some .boolean) :: GW
abbrev b_JT_canRead : ByteArray := prog_1_method_28_code
def y_JT_canRead : MethodName := ({ cls := "JobTerminal", name := "canRead", desc := "(LJobTerminal$JobProcess;)Z" } : Jvm.MethodName)
abbrev w_JT_canRead : List Cond := .code y_JT_canRead b_JT_canRead 3 (some .boolean) :: GW
abbrev b_JT_canWrite : ByteArray := prog_1_method_29_code
def y_JT_canWrite : MethodName := ({ cls := "JobTerminal", name := "canWrite", desc := "(LJobTerminal$JobProcess;)Z" } : Jvm.MethodName)
abbrev w_JT_canWrite : List Cond := .code y_JT_canWrite b_JT_canWrite 3 (some .boolean) :: GW
abbrev b_JT_runLine : ByteArray := prog_1_method_30_code
def y_JT_runLine : MethodName := ({ cls := "JobTerminal", name := "runLine", desc := "(LJobTerminal$JobProcess;)Z" } : Jvm.MethodName)
abbrev w_JT_runLine : List Cond := .code y_JT_runLine b_JT_runLine 4 (some .boolean) :: GW
abbrev b_JT_read : ByteArray := prog_1_method_31_code
def y_JT_read : MethodName := ({ cls := "JobTerminal", name := "read", desc := "(LJobTerminal$JobProcess;)Z" } : Jvm.MethodName)
abbrev w_JT_read : List Cond := .code y_JT_read b_JT_read 3 (some .boolean) :: GW
abbrev b_JT_write : ByteArray := prog_1_method_32_code
def y_JT_write : MethodName := ({ cls := "JobTerminal", name := "write", desc := "(LJobTerminal$JobProcess;I)Z" } : Jvm.MethodName)
abbrev w_JT_write : List Cond := .code y_JT_write b_JT_write 4 (some .boolean) :: GW
abbrev b_JT_writeToPipe : ByteArray := prog_1_method_33_code
def y_JT_writeToPipe : MethodName := ({ cls := "JobTerminal", name := "writeToPipe", desc := "(LJobTerminal$Job;LJobTerminal$JobProcess;I)Z" } : Jvm.MethodName)
abbrev w_JT_writeToPipe : List Cond := .code y_JT_writeToPipe b_JT_writeToPipe 3 (some .boolean) :: GW
abbrev b_Mo_init : ByteArray := prog_9_method_1_code
def y_Mo_init : MethodName := ({ cls := "JobTerminalModel", name := "<init>", desc := "()V" } : Jvm.MethodName)
abbrev w_Mo_init : List Cond := .code y_Mo_init b_Mo_init 1 none :: GW
abbrev b_Mo_thrown : ByteArray := prog_9_method_2_code
def y_Mo_thrown : MethodName := ({ cls := "JobTerminalModel", name := "thrown", desc := "()I" } : Jvm.MethodName)
abbrev w_Mo_thrown : List Cond := .code y_Mo_thrown b_Mo_thrown 1 (some .int) :: GW
abbrev b_Mo_isJob : ByteArray := prog_9_method_3_code
def y_Mo_isJob : MethodName := ({ cls := "JobTerminalModel", name := "isJob", desc := "(I)Z" } : Jvm.MethodName)
abbrev w_Mo_isJob : List Cond := .code y_Mo_isJob b_Mo_isJob 2 (some .boolean) :: GW
abbrev b_Mo_stateOf : ByteArray := prog_9_method_4_code
def y_Mo_stateOf : MethodName := ({ cls := "JobTerminalModel", name := "stateOf", desc := "(I)I" } : Jvm.MethodName)
abbrev w_Mo_stateOf : List Cond := .code y_Mo_stateOf b_Mo_stateOf 4 (some .int) :: GW
abbrev b_Mo_compare : ByteArray := prog_9_method_5_code
def y_Mo_compare : MethodName := ({ cls := "JobTerminalModel", name := "compare", desc := "()V" } : Jvm.MethodName)
abbrev w_Mo_compare : List Cond := .code y_Mo_compare b_Mo_compare 2 none :: GW
abbrev b_Mo_has : ByteArray := prog_9_method_6_code
def y_Mo_has : MethodName := ({ cls := "JobTerminalModel", name := "has", desc := "(II)Z" } : Jvm.MethodName)
abbrev w_Mo_has : List Cond := .code y_Mo_has b_Mo_has 2 (some .boolean) :: GW
abbrev b_Mo_act : ByteArray := prog_9_method_7_code
def y_Mo_act : MethodName := ({ cls := "JobTerminalModel", name := "act", desc := "(II)V" } : Jvm.MethodName)
abbrev w_Mo_act : List Cond := .code y_Mo_act b_Mo_act 3 none :: GW
abbrev b_Mo_actPending : ByteArray := prog_9_method_8_code
def y_Mo_actPending : MethodName := ({ cls := "JobTerminalModel", name := "actPending", desc := "(I)V" } : Jvm.MethodName)
abbrev w_Mo_actPending : List Cond := .code y_Mo_actPending b_Mo_actPending 3 none :: GW
abbrev b_Mo_sendTo : ByteArray := prog_9_method_9_code
def y_Mo_sendTo : MethodName := ({ cls := "JobTerminalModel", name := "sendTo", desc := "(II)V" } : Jvm.MethodName)
abbrev w_Mo_sendTo : List Cond := .code y_Mo_sendTo b_Mo_sendTo 3 none :: GW
abbrev b_Mo_sendJob : ByteArray := prog_9_method_10_code
def y_Mo_sendJob : MethodName := ({ cls := "JobTerminalModel", name := "sendJob", desc := "(II)V" } : Jvm.MethodName)
abbrev w_Mo_sendJob : List Cond := .code y_Mo_sendJob b_Mo_sendJob 3 none :: GW
abbrev b_Mo_flagged : ByteArray := prog_9_method_11_code
def y_Mo_flagged : MethodName := ({ cls := "JobTerminalModel", name := "flagged", desc := "(I)Z" } : Jvm.MethodName)
abbrev w_Mo_flagged : List Cond := .code y_Mo_flagged b_Mo_flagged 2 (some .boolean) :: GW
abbrev b_Mo_put : ByteArray := prog_9_method_12_code
def y_Mo_put : MethodName := ({ cls := "JobTerminalModel", name := "put", desc := "(I)V" } : Jvm.MethodName)
abbrev w_Mo_put : List Cond := .code y_Mo_put b_Mo_put 2 none :: GW
abbrev b_Mo_show : ByteArray := prog_9_method_13_code
def y_Mo_show : MethodName := ({ cls := "JobTerminalModel", name := "show", desc := "(I)V" } : Jvm.MethodName)
abbrev w_Mo_show : List Cond := .code y_Mo_show b_Mo_show 2 none :: GW
abbrev b_Mo_echo : ByteArray := prog_9_method_14_code
def y_Mo_echo : MethodName := ({ cls := "JobTerminalModel", name := "echo", desc := "(I)V" } : Jvm.MethodName)
abbrev w_Mo_echo : List Cond := .code y_Mo_echo b_Mo_echo 2 none :: GW
abbrev b_Mo_rubOut : ByteArray := prog_9_method_15_code
def y_Mo_rubOut : MethodName := ({ cls := "JobTerminalModel", name := "rubOut", desc := "()V" } : Jvm.MethodName)
abbrev w_Mo_rubOut : List Cond := .code y_Mo_rubOut b_Mo_rubOut 3 none :: GW
abbrev b_Mo_enter : ByteArray := prog_9_method_16_code
def y_Mo_enter : MethodName := ({ cls := "JobTerminalModel", name := "enter", desc := "(II)Z" } : Jvm.MethodName)
abbrev w_Mo_enter : List Cond := .code y_Mo_enter b_Mo_enter 4 (some .boolean) :: GW
abbrev b_Mo_key : ByteArray := prog_9_method_17_code
def y_Mo_key : MethodName := ({ cls := "JobTerminalModel", name := "key", desc := "(C)Z" } : Jvm.MethodName)
abbrev w_Mo_key : List Cond := .code y_Mo_key b_Mo_key 4 (some .boolean) :: GW
abbrev b_Mo_keyOfLine : ByteArray := prog_9_method_18_code
def y_Mo_keyOfLine : MethodName := ({ cls := "JobTerminalModel", name := "keyOfLine", desc := "(I)Z" } : Jvm.MethodName)
abbrev w_Mo_keyOfLine : List Cond := .code y_Mo_keyOfLine b_Mo_keyOfLine 3 (some .boolean) :: GW
abbrev b_Mo_flags : ByteArray := prog_9_method_19_code
def y_Mo_flags : MethodName := ({ cls := "JobTerminalModel", name := "flags", desc := "(I)I" } : Jvm.MethodName)
abbrev w_Mo_flags : List Cond := .code y_Mo_flags b_Mo_flags 3 (some .int) :: GW
abbrev b_Mo_program : ByteArray := prog_9_method_20_code
def y_Mo_program : MethodName := ({ cls := "JobTerminalModel", name := "program", desc := "(IIII)Z" } : Jvm.MethodName)
abbrev w_Mo_program : List Cond := .code y_Mo_program b_Mo_program 5 (some .boolean) :: GW
abbrev b_Mo_begin : ByteArray := prog_9_method_21_code
def y_Mo_begin : MethodName := ({ cls := "JobTerminalModel", name := "begin", desc := "(II)I" } : Jvm.MethodName)
abbrev w_Mo_begin : List Cond := .code y_Mo_begin b_Mo_begin 4 (some .int) :: GW
abbrev b_Mo_launch : ByteArray := prog_9_method_22_code
def y_Mo_launch : MethodName := ({ cls := "JobTerminalModel", name := "launch", desc := "(IIZ)I" } : Jvm.MethodName)
abbrev w_Mo_launch : List Cond := .code y_Mo_launch b_Mo_launch 6 (some .int) :: GW
abbrev b_Mo_goOn : ByteArray := prog_9_method_23_code
def y_Mo_goOn : MethodName := ({ cls := "JobTerminalModel", name := "goOn", desc := "(I)I" } : Jvm.MethodName)
abbrev w_Mo_goOn : List Cond := .code y_Mo_goOn b_Mo_goOn 2 (some .int) :: GW
abbrev b_Mo_front : ByteArray := prog_9_method_24_code
def y_Mo_front : MethodName := ({ cls := "JobTerminalModel", name := "front", desc := "(I)I" } : Jvm.MethodName)
abbrev w_Mo_front : List Cond := .code y_Mo_front b_Mo_front 2 (some .int) :: GW
abbrev b_Mo_back : ByteArray := prog_9_method_25_code
def y_Mo_back : MethodName := ({ cls := "JobTerminalModel", name := "back", desc := "(I)I" } : Jvm.MethodName)
abbrev w_Mo_back : List Cond := .code y_Mo_back b_Mo_back 2 (some .int) :: GW
abbrev b_Mo_send : ByteArray := prog_9_method_26_code
def y_Mo_send : MethodName := ({ cls := "JobTerminalModel", name := "send", desc := "(II)I" } : Jvm.MethodName)
abbrev w_Mo_send : List Cond := .code y_Mo_send b_Mo_send 3 (some .int) :: GW
abbrev b_Mo_report : ByteArray := prog_9_method_27_code
def y_Mo_report : MethodName := ({ cls := "JobTerminalModel", name := "report", desc := "()I" } : Jvm.MethodName)
abbrev w_Mo_report : List Cond := .code y_Mo_report b_Mo_report 3 (some .int) :: GW
abbrev b_Mo_hang : ByteArray := prog_9_method_28_code
def y_Mo_hang : MethodName := ({ cls := "JobTerminalModel", name := "hang", desc := "()Z" } : Jvm.MethodName)
abbrev w_Mo_hang : List Cond := .code y_Mo_hang b_Mo_hang 3 (some .boolean) :: GW
abbrev b_Mo_opOf : ByteArray := prog_9_method_29_code
def y_Mo_opOf : MethodName := ({ cls := "JobTerminalModel", name := "opOf", desc := "(I)I" } : Jvm.MethodName)
abbrev w_Mo_opOf : List Cond := .code y_Mo_opOf b_Mo_opOf 3 (some .int) :: GW
abbrev b_Mo_numberOf : ByteArray := prog_9_method_30_code
def y_Mo_numberOf : MethodName := ({ cls := "JobTerminalModel", name := "numberOf", desc := "(I)I" } : Jvm.MethodName)
abbrev w_Mo_numberOf : List Cond := .code y_Mo_numberOf b_Mo_numberOf 2 (some .int) :: GW
abbrev b_Mo_readsPipe : ByteArray := prog_9_method_31_code
def y_Mo_readsPipe : MethodName := ({ cls := "JobTerminalModel", name := "readsPipe", desc := "(I)Z" } : Jvm.MethodName)
abbrev w_Mo_readsPipe : List Cond := .code y_Mo_readsPipe b_Mo_readsPipe 2 (some .boolean) :: GW
abbrev b_Mo_writesPipe : ByteArray := prog_9_method_32_code
def y_Mo_writesPipe : MethodName := ({ cls := "JobTerminalModel", name := "writesPipe", desc := "(I)Z" } : Jvm.MethodName)
abbrev w_Mo_writesPipe : List Cond := .code y_Mo_writesPipe b_Mo_writesPipe 2 (some .boolean) :: GW
abbrev b_Mo_writes : ByteArray := prog_9_method_33_code
def y_Mo_writes : MethodName := ({ cls := "JobTerminalModel", name := "writes", desc := "(I)Z" } : Jvm.MethodName)
abbrev w_Mo_writes : List Cond := .code y_Mo_writes b_Mo_writes 2 (some .boolean) :: GW
abbrev b_Mo_canGoOn : ByteArray := prog_9_method_34_code
def y_Mo_canGoOn : MethodName := ({ cls := "JobTerminalModel", name := "canGoOn", desc := "(I)Z" } : Jvm.MethodName)
abbrev w_Mo_canGoOn : List Cond := .code y_Mo_canGoOn b_Mo_canGoOn 3 (some .boolean) :: GW
abbrev b_Mo_fail : ByteArray := prog_9_method_35_code
def y_Mo_fail : MethodName := ({ cls := "JobTerminalModel", name := "fail", desc := "(I)V" } : Jvm.MethodName)
abbrev w_Mo_fail : List Cond := .code y_Mo_fail b_Mo_fail 2 none :: GW
abbrev b_Mo_read : ByteArray := prog_9_method_36_code
def y_Mo_read : MethodName := ({ cls := "JobTerminalModel", name := "read", desc := "(I)V" } : Jvm.MethodName)
abbrev w_Mo_read : List Cond := .code y_Mo_read b_Mo_read 4 none :: GW
abbrev b_Mo_write : ByteArray := prog_9_method_37_code
def y_Mo_write : MethodName := ({ cls := "JobTerminalModel", name := "write", desc := "(II)V" } : Jvm.MethodName)
abbrev w_Mo_write : List Cond := .code y_Mo_write b_Mo_write 4 none :: GW
abbrev b_Mo_perform : ByteArray := prog_9_method_38_code
def y_Mo_perform : MethodName := ({ cls := "JobTerminalModel", name := "perform", desc := "(I)V" } : Jvm.MethodName)
abbrev w_Mo_perform : List Cond := .code y_Mo_perform b_Mo_perform 4 none :: GW
abbrev b_Mo_plain : ByteArray := prog_9_method_39_code
def y_Mo_plain : MethodName := ({ cls := "JobTerminalModel", name := "plain", desc := "(III)V" } : Jvm.MethodName)
abbrev w_Mo_plain : List Cond := .code y_Mo_plain b_Mo_plain 4 none :: GW
abbrev b_Mo_step : ByteArray := prog_9_method_40_code
def y_Mo_step : MethodName := ({ cls := "JobTerminalModel", name := "step", desc := "(I)I" } : Jvm.MethodName)
abbrev w_Mo_step : List Cond := .code y_Mo_step b_Mo_step 6 (some .int) :: GW
abbrev b_Mo_tick : ByteArray := prog_9_method_41_code
def y_Mo_tick : MethodName := ({ cls := "JobTerminalModel", name := "tick", desc := "()I" } : Jvm.MethodName)
abbrev w_Mo_tick : List Cond := .code y_Mo_tick b_Mo_tick 3 (some .int) :: GW
abbrev b_Mo_foreground : ByteArray := prog_9_method_42_code
def y_Mo_foreground : MethodName := ({ cls := "JobTerminalModel", name := "foreground", desc := "()I" } : Jvm.MethodName)
abbrev w_Mo_foreground : List Cond := .code y_Mo_foreground b_Mo_foreground 1 (some .int) :: GW
abbrev b_Mo_job : ByteArray := prog_9_method_43_code
def y_Mo_job : MethodName := ({ cls := "JobTerminalModel", name := "job", desc := "(I)I" } : Jvm.MethodName)
abbrev w_Mo_job : List Cond := .code y_Mo_job b_Mo_job 2 (some .int) :: GW
abbrev b_Mo_process : ByteArray := prog_9_method_44_code
def y_Mo_process : MethodName := ({ cls := "JobTerminalModel", name := "process", desc := "(II)I" } : Jvm.MethodName)
abbrev w_Mo_process : List Cond := .code y_Mo_process b_Mo_process 3 (some .int) :: GW
abbrev b_Mo_shown : ByteArray := prog_9_method_45_code
def y_Mo_shown : MethodName := ({ cls := "JobTerminalModel", name := "shown", desc := "()I" } : Jvm.MethodName)
abbrev w_Mo_shown : List Cond := .code y_Mo_shown b_Mo_shown 1 (some .int) :: GW
abbrev b_Mo_screen : ByteArray := prog_9_method_46_code
def y_Mo_screen : MethodName := ({ cls := "JobTerminalModel", name := "screen", desc := "(I)I" } : Jvm.MethodName)
abbrev w_Mo_screen : List Cond := .code y_Mo_screen b_Mo_screen 2 (some .int) :: GW
abbrev b_Mo_held : ByteArray := prog_9_method_47_code
def y_Mo_held : MethodName := ({ cls := "JobTerminalModel", name := "held", desc := "(I)I" } : Jvm.MethodName)
abbrev w_Mo_held : List Cond := .code y_Mo_held b_Mo_held 3 (some .int) :: GW
abbrev b_Display_init : ByteArray := prog_2_method_1_code
def y_Display_init : MethodName := ({ cls := "JobTerminal$Display", name := "<init>", desc := "()V" } : Jvm.MethodName)
abbrev w_Display_init : List Cond := .code y_Display_init b_Display_init 1 none :: GW
abbrev b_Display_add : ByteArray := prog_2_method_2_code
def y_Display_add : MethodName := ({ cls := "JobTerminal$Display", name := "add", desc := "(I)V" } : Jvm.MethodName)
abbrev w_Display_add : List Cond := .code y_Display_add b_Display_add 2 none :: GW
abbrev b_Display_codeBefore : ByteArray := prog_2_method_3_code
def y_Display_codeBefore : MethodName := ({ cls := "JobTerminal$Display", name := "codeBefore", desc := "(I)I" } : Jvm.MethodName)
abbrev w_Display_codeBefore : List Cond := .code y_Display_codeBefore b_Display_codeBefore 3 (some .int) :: GW
abbrev b_Job_init : ByteArray := prog_3_method_1_code
def y_Job_init : MethodName := ({ cls := "JobTerminal$Job", name := "<init>", desc := "(I)V" } : Jvm.MethodName)
abbrev w_Job_init : List Cond := .code y_Job_init b_Job_init 2 none :: GW
abbrev b_Job_exists : ByteArray := prog_3_method_2_code
def y_Job_exists : MethodName := ({ cls := "JobTerminal$Job", name := "exists", desc := "()Z" } : Jvm.MethodName)
abbrev w_Job_exists : List Cond := .code y_Job_exists b_Job_exists 1 (some .boolean) :: GW
abbrev b_Job_begin : ByteArray := prog_3_method_3_code
def y_Job_begin : MethodName := ({ cls := "JobTerminal$Job", name := "begin", desc := "(LJobTerminal$JobProcess;LJobTerminal$JobProcess;)V" } : Jvm.MethodName)
abbrev w_Job_begin : List Cond := .code y_Job_begin b_Job_begin 3 none :: GW
abbrev b_Job_vanish : ByteArray := prog_3_method_4_code
def y_Job_vanish : MethodName := ({ cls := "JobTerminal$Job", name := "vanish", desc := "()V" } : Jvm.MethodName)
abbrev w_Job_vanish : List Cond := .code y_Job_vanish b_Job_vanish 1 none :: GW
abbrev b_Job_state : ByteArray := prog_3_method_5_code
def y_Job_state : MethodName := ({ cls := "JobTerminal$Job", name := "state", desc := "()I" } : Jvm.MethodName)
abbrev w_Job_state : List Cond := .code y_Job_state b_Job_state 1 (some .int) :: GW
abbrev b_Job_readsFromPipe : ByteArray := prog_3_method_6_code
def y_Job_readsFromPipe : MethodName := ({ cls := "JobTerminal$Job", name := "readsFromPipe", desc := "(LJobTerminal$JobProcess;)Z" } : Jvm.MethodName)
abbrev w_Job_readsFromPipe : List Cond := .code y_Job_readsFromPipe b_Job_readsFromPipe 2 (some .boolean) :: GW
abbrev b_Job_writesToPipe : ByteArray := prog_3_method_7_code
def y_Job_writesToPipe : MethodName := ({ cls := "JobTerminal$Job", name := "writesToPipe", desc := "(LJobTerminal$JobProcess;)Z" } : Jvm.MethodName)
abbrev w_Job_writesToPipe : List Cond := .code y_Job_writesToPipe b_Job_writesToPipe 2 (some .boolean) :: GW
abbrev b_Job_firstHasEnded : ByteArray := prog_3_method_8_code
def y_Job_firstHasEnded : MethodName := ({ cls := "JobTerminal$Job", name := "firstHasEnded", desc := "()Z" } : Jvm.MethodName)
abbrev w_Job_firstHasEnded : List Cond := .code y_Job_firstHasEnded b_Job_firstHasEnded 1 (some .boolean) :: GW
abbrev b_Job_secondHasEnded : ByteArray := prog_3_method_9_code
def y_Job_secondHasEnded : MethodName := ({ cls := "JobTerminal$Job", name := "secondHasEnded", desc := "()Z" } : Jvm.MethodName)
abbrev w_Job_secondHasEnded : List Cond := .code y_Job_secondHasEnded b_Job_secondHasEnded 1 (some .boolean) :: GW
abbrev b_Job_receive : ByteArray := prog_3_method_10_code
def y_Job_receive : MethodName := ({ cls := "JobTerminal$Job", name := "receive", desc := "(I)V" } : Jvm.MethodName)
abbrev w_Job_receive : List Cond := .code y_Job_receive b_Job_receive 2 none :: GW
abbrev b_Job_receiveHangUp : ByteArray := prog_3_method_11_code
def y_Job_receiveHangUp : MethodName := ({ cls := "JobTerminal$Job", name := "receiveHangUp", desc := "()V" } : Jvm.MethodName)
abbrev w_Job_receiveHangUp : List Cond := .code y_Job_receiveHangUp b_Job_receiveHangUp 1 none :: GW
abbrev b_JobProcess_init : ByteArray := prog_4_method_1_code
def y_JobProcess_init : MethodName := ({ cls := "JobTerminal$JobProcess", name := "<init>", desc := "()V" } : Jvm.MethodName)
abbrev w_JobProcess_init : List Cond := .code y_JobProcess_init b_JobProcess_init 1 none :: GW
abbrev b_JobProcess_begin : ByteArray := prog_4_method_2_code
def y_JobProcess_begin : MethodName := ({ cls := "JobTerminal$JobProcess", name := "begin", desc := "(LJobTerminal$Job;I)V" } : Jvm.MethodName)
abbrev w_JobProcess_begin : List Cond := .code y_JobProcess_begin b_JobProcess_begin 3 none :: GW
abbrev b_JobProcess_vanish : ByteArray := prog_4_method_3_code
def y_JobProcess_vanish : MethodName := ({ cls := "JobTerminal$JobProcess", name := "vanish", desc := "()V" } : Jvm.MethodName)
abbrev w_JobProcess_vanish : List Cond := .code y_JobProcess_vanish b_JobProcess_vanish 1 none :: GW
abbrev b_JobProcess_look : ByteArray := prog_4_method_4_code
def y_JobProcess_look : MethodName := ({ cls := "JobTerminal$JobProcess", name := "look", desc := "(I)I" } : Jvm.MethodName)
abbrev w_JobProcess_look : List Cond := .code y_JobProcess_look b_JobProcess_look 2 (some .int) :: GW
abbrev b_JobProcess_shuns : ByteArray := prog_4_method_5_code
def y_JobProcess_shuns : MethodName := ({ cls := "JobTerminal$JobProcess", name := "shuns", desc := "(I)Z" } : Jvm.MethodName)
abbrev w_JobProcess_shuns : List Cond := .code y_JobProcess_shuns b_JobProcess_shuns 2 (some .boolean) :: GW
abbrev b_JobProcess_receive : ByteArray := prog_4_method_6_code
def y_JobProcess_receive : MethodName := ({ cls := "JobTerminal$JobProcess", name := "receive", desc := "(I)V" } : Jvm.MethodName)
abbrev w_JobProcess_receive : List Cond := .code y_JobProcess_receive b_JobProcess_receive 3 none :: GW
abbrev b_JobProcess_actOnPending : ByteArray := prog_4_method_7_code
def y_JobProcess_actOnPending : MethodName := ({ cls := "JobTerminal$JobProcess", name := "actOnPending", desc := "()V" } : Jvm.MethodName)
abbrev w_JobProcess_actOnPending : List Cond := .code y_JobProcess_actOnPending b_JobProcess_actOnPending 2 none :: GW
abbrev b_JobProcess_act : ByteArray := prog_4_method_8_code
def y_JobProcess_act : MethodName := ({ cls := "JobTerminal$JobProcess", name := "act", desc := "(I)V" } : Jvm.MethodName)
abbrev w_JobProcess_act : List Cond := .code y_JobProcess_act b_JobProcess_act 2 none :: GW
abbrev b_JobProcess_take : ByteArray := prog_4_method_9_code
def y_JobProcess_take : MethodName := ({ cls := "JobTerminal$JobProcess", name := "take", desc := "(I)V" } : Jvm.MethodName)
abbrev w_JobProcess_take : List Cond := .code y_JobProcess_take b_JobProcess_take 2 none :: GW
abbrev b_JobProcess_fail : ByteArray := prog_4_method_10_code
def y_JobProcess_fail : MethodName := ({ cls := "JobTerminal$JobProcess", name := "fail", desc := "()V" } : Jvm.MethodName)
abbrev w_JobProcess_fail : List Cond := .code y_JobProcess_fail b_JobProcess_fail 1 none :: GW
abbrev b_JobProcess_runOwnOp : ByteArray := prog_4_method_11_code
def y_JobProcess_runOwnOp : MethodName := ({ cls := "JobTerminal$JobProcess", name := "runOwnOp", desc := "(II)V" } : Jvm.MethodName)
abbrev w_JobProcess_runOwnOp : List Cond := .code y_JobProcess_runOwnOp b_JobProcess_runOwnOp 4 none :: GW
abbrev b_NumberRow_init : ByteArray := prog_5_method_1_code
def y_NumberRow_init : MethodName := ({ cls := "JobTerminal$NumberRow", name := "<init>", desc := "(I)V" } : Jvm.MethodName)
abbrev w_NumberRow_init : List Cond := .code y_NumberRow_init b_NumberRow_init 2 none :: GW
abbrev b_NumberRow_hasRoomFor : ByteArray := prog_5_method_2_code
def y_NumberRow_hasRoomFor : MethodName := ({ cls := "JobTerminal$NumberRow", name := "hasRoomFor", desc := "(I)Z" } : Jvm.MethodName)
abbrev w_NumberRow_hasRoomFor : List Cond := .code y_NumberRow_hasRoomFor b_NumberRow_hasRoomFor 2 (some .boolean) :: GW
abbrev b_NumberRow_putLast : ByteArray := prog_5_method_3_code
def y_NumberRow_putLast : MethodName := ({ cls := "JobTerminal$NumberRow", name := "putLast", desc := "(I)V" } : Jvm.MethodName)
abbrev w_NumberRow_putLast : List Cond := .code y_NumberRow_putLast b_NumberRow_putLast 2 none :: GW
abbrev b_NumberRow_takeOldest : ByteArray := prog_5_method_4_code
def y_NumberRow_takeOldest : MethodName := ({ cls := "JobTerminal$NumberRow", name := "takeOldest", desc := "()I" } : Jvm.MethodName)
abbrev w_NumberRow_takeOldest : List Cond := .code y_NumberRow_takeOldest b_NumberRow_takeOldest 2 (some .int) :: GW
abbrev b_NumberRow_takeLatest : ByteArray := prog_5_method_5_code
def y_NumberRow_takeLatest : MethodName := ({ cls := "JobTerminal$NumberRow", name := "takeLatest", desc := "()I" } : Jvm.MethodName)
abbrev w_NumberRow_takeLatest : List Cond := .code y_NumberRow_takeLatest b_NumberRow_takeLatest 1 (some .int) :: GW
abbrev b_NumberRow_clear : ByteArray := prog_5_method_6_code
def y_NumberRow_clear : MethodName := ({ cls := "JobTerminal$NumberRow", name := "clear", desc := "()V" } : Jvm.MethodName)
abbrev w_NumberRow_clear : List Cond := .code y_NumberRow_clear b_NumberRow_clear 1 none :: GW
abbrev b_NumberRow_placeOf : ByteArray := prog_5_method_7_code
def y_NumberRow_placeOf : MethodName := ({ cls := "JobTerminal$NumberRow", name := "placeOf", desc := "(I)I" } : Jvm.MethodName)
abbrev w_NumberRow_placeOf : List Cond := .code y_NumberRow_placeOf b_NumberRow_placeOf 3 (some .int) :: GW
abbrev b_Programs_init : ByteArray := prog_6_method_1_code
def y_Programs_init : MethodName := ({ cls := "JobTerminal$Programs", name := "<init>", desc := "()V" } : Jvm.MethodName)
abbrev w_Programs_init : List Cond := .code y_Programs_init b_Programs_init 1 none :: GW
abbrev b_Programs_hasProgram : ByteArray := prog_6_method_2_code
def y_Programs_hasProgram : MethodName := ({ cls := "JobTerminal$Programs", name := "hasProgram", desc := "(I)Z" } : Jvm.MethodName)
abbrev w_Programs_hasProgram : List Cond := .code y_Programs_hasProgram b_Programs_hasProgram 1 (some .boolean) :: GW
abbrev b_Programs_hasLine : ByteArray := prog_6_method_3_code
def y_Programs_hasLine : MethodName := ({ cls := "JobTerminal$Programs", name := "hasLine", desc := "(I)Z" } : Jvm.MethodName)
abbrev w_Programs_hasLine : List Cond := .code y_Programs_hasLine b_Programs_hasLine 1 (some .boolean) :: GW
abbrev b_Programs_setLine : ByteArray := prog_6_method_4_code
def y_Programs_setLine : MethodName := ({ cls := "JobTerminal$Programs", name := "setLine", desc := "(IIII)V" } : Jvm.MethodName)
abbrev w_Programs_setLine : List Cond := .code y_Programs_setLine b_Programs_setLine 5 none :: GW
abbrev b_Programs_opAt : ByteArray := prog_6_method_5_code
def y_Programs_opAt : MethodName := ({ cls := "JobTerminal$Programs", name := "opAt", desc := "(II)I" } : Jvm.MethodName)
abbrev w_Programs_opAt : List Cond := .code y_Programs_opAt b_Programs_opAt 4 (some .int) :: GW
abbrev b_Programs_numberAt : ByteArray := prog_6_method_6_code
def y_Programs_numberAt : MethodName := ({ cls := "JobTerminal$Programs", name := "numberAt", desc := "(II)I" } : Jvm.MethodName)
abbrev w_Programs_numberAt : List Cond := .code y_Programs_numberAt b_Programs_numberAt 3 (some .int) :: GW
abbrev b_Terminal_init : ByteArray := prog_7_method_1_code
def y_Terminal_init : MethodName := ({ cls := "JobTerminal$Terminal", name := "<init>", desc := "()V" } : Jvm.MethodName)
abbrev w_Terminal_init : List Cond := .code y_Terminal_init b_Terminal_init 1 none :: GW
abbrev b_Terminal_has : ByteArray := prog_7_method_2_code
def y_Terminal_has : MethodName := ({ cls := "JobTerminal$Terminal", name := "has", desc := "(I)Z" } : Jvm.MethodName)
abbrev w_Terminal_has : List Cond := .code y_Terminal_has b_Terminal_has 2 (some .boolean) :: GW
abbrev b_Terminal_hangUp : ByteArray := prog_7_method_3_code
def y_Terminal_hangUp : MethodName := ({ cls := "JobTerminal$Terminal", name := "hangUp", desc := "()V" } : Jvm.MethodName)
abbrev w_Terminal_hangUp : List Cond := .code y_Terminal_hangUp b_Terminal_hangUp 1 none :: GW
abbrev b_Terminal_translate : ByteArray := prog_7_method_4_code
def y_Terminal_translate : MethodName := ({ cls := "JobTerminal$Terminal", name := "translate", desc := "(I)I" } : Jvm.MethodName)
abbrev w_Terminal_translate : List Cond := .code y_Terminal_translate b_Terminal_translate 2 (some .int) :: GW
abbrev b_Terminal_signalFor : ByteArray := prog_7_method_5_code
def y_Terminal_signalFor : MethodName := ({ cls := "JobTerminal$Terminal", name := "signalFor", desc := "(I)I" } : Jvm.MethodName)
abbrev w_Terminal_signalFor : List Cond := .code y_Terminal_signalFor b_Terminal_signalFor 2 (some .int) :: GW
abbrev b_Terminal_dropEdit : ByteArray := prog_7_method_6_code
def y_Terminal_dropEdit : MethodName := ({ cls := "JobTerminal$Terminal", name := "dropEdit", desc := "(I)V" } : Jvm.MethodName)
abbrev w_Terminal_dropEdit : List Cond := .code y_Terminal_dropEdit b_Terminal_dropEdit 2 none :: GW
abbrev b_Terminal_type : ByteArray := prog_7_method_7_code
def y_Terminal_type : MethodName := ({ cls := "JobTerminal$Terminal", name := "type", desc := "(I)Z" } : Jvm.MethodName)
abbrev w_Terminal_type : List Cond := .code y_Terminal_type b_Terminal_type 2 (some .boolean) :: GW
abbrev b_Terminal_typeUnedited : ByteArray := prog_7_method_8_code
def y_Terminal_typeUnedited : MethodName := ({ cls := "JobTerminal$Terminal", name := "typeUnedited", desc := "(I)Z" } : Jvm.MethodName)
abbrev w_Terminal_typeUnedited : List Cond := .code y_Terminal_typeUnedited b_Terminal_typeUnedited 2 (some .boolean) :: GW
abbrev b_Terminal_addToEdit : ByteArray := prog_7_method_9_code
def y_Terminal_addToEdit : MethodName := ({ cls := "JobTerminal$Terminal", name := "addToEdit", desc := "(I)Z" } : Jvm.MethodName)
abbrev w_Terminal_addToEdit : List Cond := .code y_Terminal_addToEdit b_Terminal_addToEdit 2 (some .boolean) :: GW
abbrev b_Terminal_endInput : ByteArray := prog_7_method_10_code
def y_Terminal_endInput : MethodName := ({ cls := "JobTerminal$Terminal", name := "endInput", desc := "()Z" } : Jvm.MethodName)
abbrev w_Terminal_endInput : List Cond := .code y_Terminal_endInput b_Terminal_endInput 1 (some .boolean) :: GW
abbrev b_Terminal_endLine : ByteArray := prog_7_method_11_code
def y_Terminal_endLine : MethodName := ({ cls := "JobTerminal$Terminal", name := "endLine", desc := "()Z" } : Jvm.MethodName)
abbrev w_Terminal_endLine : List Cond := .code y_Terminal_endLine b_Terminal_endLine 1 (some .boolean) :: GW
abbrev b_Terminal_queueEdit : ByteArray := prog_7_method_12_code
def y_Terminal_queueEdit : MethodName := ({ cls := "JobTerminal$Terminal", name := "queueEdit", desc := "(I)Z" } : Jvm.MethodName)
abbrev w_Terminal_queueEdit : List Cond := .code y_Terminal_queueEdit b_Terminal_queueEdit 3 (some .boolean) :: GW
abbrev b_Terminal_rubOut : ByteArray := prog_7_method_13_code
def y_Terminal_rubOut : MethodName := ({ cls := "JobTerminal$Terminal", name := "rubOut", desc := "(I)V" } : Jvm.MethodName)
abbrev w_Terminal_rubOut : List Cond := .code y_Terminal_rubOut b_Terminal_rubOut 4 none :: GW
abbrev b_Terminal_showRubbing : ByteArray := prog_7_method_14_code
def y_Terminal_showRubbing : MethodName := ({ cls := "JobTerminal$Terminal", name := "showRubbing", desc := "()V" } : Jvm.MethodName)
abbrev w_Terminal_showRubbing : List Cond := .code y_Terminal_showRubbing b_Terminal_showRubbing 1 none :: GW
abbrev b_Terminal_echo : ByteArray := prog_7_method_15_code
def y_Terminal_echo : MethodName := ({ cls := "JobTerminal$Terminal", name := "echo", desc := "(I)V" } : Jvm.MethodName)
abbrev w_Terminal_echo : List Cond := .code y_Terminal_echo b_Terminal_echo 2 none :: GW
abbrev b_Terminal_show : ByteArray := prog_7_method_16_code
def y_Terminal_show : MethodName := ({ cls := "JobTerminal$Terminal", name := "show", desc := "(I)V" } : Jvm.MethodName)
abbrev w_Terminal_show : List Cond := .code y_Terminal_show b_Terminal_show 2 none :: GW
end
section
theorem d_Display_init_0 : decode b_Display_init 0 = .ok (.aload_n 0, 1) := by decide +kernel
theorem d_Display_init_1 : decode b_Display_init 1 = .ok (.invokespecial 3, 3) := by decide +kernel
theorem d_Display_init_4 : decode b_Display_init 4 = .ok (.aload_n 0, 1) := by decide +kernel
theorem d_Display_init_5 : decode b_Display_init 5 = .ok (.bipush 100, 2) := by decide +kernel
theorem d_Display_init_7 : decode b_Display_init 7 = .ok (.newarray .int, 2) := by decide +kernel
theorem d_Display_init_9 : decode b_Display_init 9 = .ok (.putfield 11, 3) := by decide +kernel
theorem d_Display_init_12 : decode b_Display_init 12 = .ok (.return_, 1) := by decide +kernel
theorem d_Display_add_0 : decode b_Display_add 0 = .ok (.aload_n 0, 1) := by decide +kernel
theorem d_Display_add_1 : decode b_Display_add 1 = .ok (.getfield 15, 3) := by decide +kernel
theorem d_Display_add_4 : decode b_Display_add 4 = .ok (.ifCond .lt 12, 3) := by decide +kernel
theorem d_Display_add_7 : decode b_Display_add 7 = .ok (.aload_n 0, 1) := by decide +kernel
theorem d_Display_add_8 : decode b_Display_add 8 = .ok (.getfield 15, 3) := by decide +kernel
theorem d_Display_add_11 : decode b_Display_add 11 = .ok (.bipush 100, 2) := by decide +kernel
theorem d_Display_add_13 : decode b_Display_add 13 = .ok (.if_icmp .lt 8, 3) := by decide +kernel
theorem d_Display_add_16 : decode b_Display_add 16 = .ok (.aload_n 0, 1) := by decide +kernel
theorem d_Display_add_17 : decode b_Display_add 17 = .ok (.iconst 0, 1) := by decide +kernel
theorem d_Display_add_18 : decode b_Display_add 18 = .ok (.putfield 15, 3) := by decide +kernel
theorem d_Display_add_21 : decode b_Display_add 21 = .ok (.aload_n 0, 1) := by decide +kernel
theorem d_Display_add_22 : decode b_Display_add 22 = .ok (.getfield 11, 3) := by decide +kernel
theorem d_Display_add_25 : decode b_Display_add 25 = .ok (.aload_n 0, 1) := by decide +kernel
theorem d_Display_add_26 : decode b_Display_add 26 = .ok (.getfield 15, 3) := by decide +kernel
theorem d_Display_add_29 : decode b_Display_add 29 = .ok (.iload_n 1, 1) := by decide +kernel
theorem d_Display_add_30 : decode b_Display_add 30 = .ok (.iastore, 1) := by decide +kernel
theorem d_Display_add_31 : decode b_Display_add 31 = .ok (.aload_n 0, 1) := by decide +kernel
theorem d_Display_add_32 : decode b_Display_add 32 = .ok (.dup, 1) := by decide +kernel
theorem d_Display_add_33 : decode b_Display_add 33 = .ok (.getfield 15, 3) := by decide +kernel
theorem d_Display_add_36 : decode b_Display_add 36 = .ok (.iconst 1, 1) := by decide +kernel
theorem d_Display_add_37 : decode b_Display_add 37 = .ok (.iadd, 1) := by decide +kernel
theorem d_Display_add_38 : decode b_Display_add 38 = .ok (.putfield 15, 3) := by decide +kernel
theorem d_Display_add_41 : decode b_Display_add 41 = .ok (.aload_n 0, 1) := by decide +kernel
theorem d_Display_add_42 : decode b_Display_add 42 = .ok (.dup, 1) := by decide +kernel
theorem d_Display_add_43 : decode b_Display_add 43 = .ok (.getfield 19, 3) := by decide +kernel
theorem d_Display_add_46 : decode b_Display_add 46 = .ok (.iconst 1, 1) := by decide +kernel
theorem d_Display_add_47 : decode b_Display_add 47 = .ok (.iadd, 1) := by decide +kernel
theorem d_Display_add_48 : decode b_Display_add 48 = .ok (.putfield 19, 3) := by decide +kernel
theorem d_Display_add_51 : decode b_Display_add 51 = .ok (.return_, 1) := by decide +kernel
theorem d_Display_codeBefore_0 : decode b_Display_codeBefore 0 = .ok (.iload_n 1, 1) := by decide +kernel
theorem d_Display_codeBefore_1 : decode b_Display_codeBefore 1 = .ok (.ifCond .lt 17, 3) := by decide +kernel
theorem d_Display_codeBefore_4 : decode b_Display_codeBefore 4 = .ok (.iload_n 1, 1) := by decide +kernel
theorem d_Display_codeBefore_5 : decode b_Display_codeBefore 5 = .ok (.bipush 100, 2) := by decide +kernel
theorem d_Display_codeBefore_7 : decode b_Display_codeBefore 7 = .ok (.if_icmp .ge 11, 3) := by decide +kernel
theorem d_Display_codeBefore_10 : decode b_Display_codeBefore 10 = .ok (.iload_n 1, 1) := by decide +kernel
theorem d_Display_codeBefore_11 : decode b_Display_codeBefore 11 = .ok (.aload_n 0, 1) := by decide +kernel
theorem d_Display_codeBefore_12 : decode b_Display_codeBefore 12 = .ok (.getfield 19, 3) := by decide +kernel
theorem d_Display_codeBefore_15 : decode b_Display_codeBefore 15 = .ok (.if_icmp .lt 5, 3) := by decide +kernel
theorem d_Display_codeBefore_18 : decode b_Display_codeBefore 18 = .ok (.iconst (-1), 1) := by decide +kernel
theorem d_Display_codeBefore_19 : decode b_Display_codeBefore 19 = .ok (.ireturn, 1) := by decide +kernel
theorem d_Display_codeBefore_20 : decode b_Display_codeBefore 20 = .ok (.aload_n 0, 1) := by decide +kernel
theorem d_Display_codeBefore_21 : decode b_Display_codeBefore 21 = .ok (.getfield 15, 3) := by decide +kernel
theorem d_Display_codeBefore_24 : decode b_Display_codeBefore 24 = .ok (.iconst 1, 1) := by decide +kernel
theorem d_Display_codeBefore_25 : decode b_Display_codeBefore 25 = .ok (.isub, 1) := by decide +kernel
theorem d_Display_codeBefore_26 : decode b_Display_codeBefore 26 = .ok (.iload_n 1, 1) := by decide +kernel
theorem d_Display_codeBefore_27 : decode b_Display_codeBefore 27 = .ok (.isub, 1) := by decide +kernel
theorem d_Display_codeBefore_28 : decode b_Display_codeBefore 28 = .ok (.istore_n 2, 1) := by decide +kernel
theorem d_Display_codeBefore_29 : decode b_Display_codeBefore 29 = .ok (.aload_n 0, 1) := by decide +kernel
theorem d_Display_codeBefore_30 : decode b_Display_codeBefore 30 = .ok (.getfield 11, 3) := by decide +kernel
theorem d_Display_codeBefore_33 : decode b_Display_codeBefore 33 = .ok (.iload_n 2, 1) := by decide +kernel
theorem d_Display_codeBefore_34 : decode b_Display_codeBefore 34 = .ok (.ifCond .ge 10, 3) := by decide +kernel
theorem d_Display_codeBefore_37 : decode b_Display_codeBefore 37 = .ok (.iload_n 2, 1) := by decide +kernel
theorem d_Display_codeBefore_38 : decode b_Display_codeBefore 38 = .ok (.bipush 100, 2) := by decide +kernel
theorem d_Display_codeBefore_40 : decode b_Display_codeBefore 40 = .ok (.iadd, 1) := by decide +kernel
theorem d_Display_codeBefore_41 : decode b_Display_codeBefore 41 = .ok (.goto 4, 3) := by decide +kernel
theorem d_Display_codeBefore_44 : decode b_Display_codeBefore 44 = .ok (.iload_n 2, 1) := by decide +kernel
theorem d_Display_codeBefore_45 : decode b_Display_codeBefore 45 = .ok (.iaload, 1) := by decide +kernel
theorem d_Display_codeBefore_46 : decode b_Display_codeBefore 46 = .ok (.ireturn, 1) := by decide +kernel
theorem d_Job_init_0 : decode b_Job_init 0 = .ok (.aload_n 0, 1) := by decide +kernel
theorem d_Job_init_1 : decode b_Job_init 1 = .ok (.invokespecial 3, 3) := by decide +kernel
theorem d_Job_init_4 : decode b_Job_init 4 = .ok (.aload_n 0, 1) := by decide +kernel
theorem d_Job_init_5 : decode b_Job_init 5 = .ok (.iload_n 1, 1) := by decide +kernel
theorem d_Job_init_6 : decode b_Job_init 6 = .ok (.putfield 9, 3) := by decide +kernel
theorem d_Job_init_9 : decode b_Job_init 9 = .ok (.aload_n 0, 1) := by decide +kernel
theorem d_Job_init_10 : decode b_Job_init 10 = .ok (.new 15, 3) := by decide +kernel
theorem d_Job_init_13 : decode b_Job_init 13 = .ok (.dup, 1) := by decide +kernel
theorem d_Job_init_14 : decode b_Job_init 14 = .ok (.iconst 4, 1) := by decide +kernel
theorem d_Job_init_15 : decode b_Job_init 15 = .ok (.invokespecial 17, 3) := by decide +kernel
theorem d_Job_init_18 : decode b_Job_init 18 = .ok (.putfield 20, 3) := by decide +kernel
theorem d_Job_init_21 : decode b_Job_init 21 = .ok (.aload_n 0, 1) := by decide +kernel
theorem d_Job_init_22 : decode b_Job_init 22 = .ok (.iconst (-1), 1) := by decide +kernel
theorem d_Job_init_23 : decode b_Job_init 23 = .ok (.putfield 24, 3) := by decide +kernel
theorem d_Job_init_26 : decode b_Job_init 26 = .ok (.return_, 1) := by decide +kernel
theorem d_Job_exists_0 : decode b_Job_exists 0 = .ok (.aload_n 0, 1) := by decide +kernel
theorem d_Job_exists_1 : decode b_Job_exists 1 = .ok (.getfield 27, 3) := by decide +kernel
theorem d_Job_exists_4 : decode b_Job_exists 4 = .ok (.ifnull 7, 3) := by decide +kernel
theorem d_Job_exists_7 : decode b_Job_exists 7 = .ok (.iconst 1, 1) := by decide +kernel
theorem d_Job_exists_8 : decode b_Job_exists 8 = .ok (.goto 4, 3) := by decide +kernel
theorem d_Job_exists_11 : decode b_Job_exists 11 = .ok (.iconst 0, 1) := by decide +kernel
theorem d_Job_exists_12 : decode b_Job_exists 12 = .ok (.ireturn, 1) := by decide +kernel
theorem d_Job_begin_0 : decode b_Job_begin 0 = .ok (.aload_n 0, 1) := by decide +kernel
theorem d_Job_begin_1 : decode b_Job_begin 1 = .ok (.aload_n 1, 1) := by decide +kernel
theorem d_Job_begin_2 : decode b_Job_begin 2 = .ok (.putfield 27, 3) := by decide +kernel
theorem d_Job_begin_5 : decode b_Job_begin 5 = .ok (.aload_n 0, 1) := by decide +kernel
theorem d_Job_begin_6 : decode b_Job_begin 6 = .ok (.aload_n 2, 1) := by decide +kernel
theorem d_Job_begin_7 : decode b_Job_begin 7 = .ok (.putfield 31, 3) := by decide +kernel
theorem d_Job_begin_10 : decode b_Job_begin 10 = .ok (.aload_n 0, 1) := by decide +kernel
theorem d_Job_begin_11 : decode b_Job_begin 11 = .ok (.getfield 20, 3) := by decide +kernel
theorem d_Job_begin_14 : decode b_Job_begin 14 = .ok (.invokevirtual 34, 3) := by decide +kernel
theorem d_Job_begin_17 : decode b_Job_begin 17 = .ok (.aload_n 0, 1) := by decide +kernel
theorem d_Job_begin_18 : decode b_Job_begin 18 = .ok (.iconst 0, 1) := by decide +kernel
theorem d_Job_begin_19 : decode b_Job_begin 19 = .ok (.putfield 37, 3) := by decide +kernel
theorem d_Job_begin_22 : decode b_Job_begin 22 = .ok (.aload_n 0, 1) := by decide +kernel
theorem d_Job_begin_23 : decode b_Job_begin 23 = .ok (.iconst 1, 1) := by decide +kernel
theorem d_Job_begin_24 : decode b_Job_begin 24 = .ok (.putfield 24, 3) := by decide +kernel
theorem d_Job_begin_27 : decode b_Job_begin 27 = .ok (.return_, 1) := by decide +kernel
theorem d_Job_vanish_0 : decode b_Job_vanish 0 = .ok (.aload_n 0, 1) := by decide +kernel
theorem d_Job_vanish_1 : decode b_Job_vanish 1 = .ok (.getfield 27, 3) := by decide +kernel
theorem d_Job_vanish_4 : decode b_Job_vanish 4 = .ok (.ifnull 10, 3) := by decide +kernel
theorem d_Job_vanish_7 : decode b_Job_vanish 7 = .ok (.aload_n 0, 1) := by decide +kernel
theorem d_Job_vanish_8 : decode b_Job_vanish 8 = .ok (.getfield 27, 3) := by decide +kernel
theorem d_Job_vanish_11 : decode b_Job_vanish 11 = .ok (.invokevirtual 41, 3) := by decide +kernel
theorem d_Job_vanish_14 : decode b_Job_vanish 14 = .ok (.aload_n 0, 1) := by decide +kernel
theorem d_Job_vanish_15 : decode b_Job_vanish 15 = .ok (.getfield 31, 3) := by decide +kernel
theorem d_Job_vanish_18 : decode b_Job_vanish 18 = .ok (.ifnull 10, 3) := by decide +kernel
theorem d_Job_vanish_21 : decode b_Job_vanish 21 = .ok (.aload_n 0, 1) := by decide +kernel
theorem d_Job_vanish_22 : decode b_Job_vanish 22 = .ok (.getfield 31, 3) := by decide +kernel
theorem d_Job_vanish_25 : decode b_Job_vanish 25 = .ok (.invokevirtual 41, 3) := by decide +kernel
theorem d_Job_vanish_28 : decode b_Job_vanish 28 = .ok (.aload_n 0, 1) := by decide +kernel
theorem d_Job_vanish_29 : decode b_Job_vanish 29 = .ok (.aconst_null, 1) := by decide +kernel
theorem d_Job_vanish_30 : decode b_Job_vanish 30 = .ok (.putfield 27, 3) := by decide +kernel
theorem d_Job_vanish_33 : decode b_Job_vanish 33 = .ok (.aload_n 0, 1) := by decide +kernel
theorem d_Job_vanish_34 : decode b_Job_vanish 34 = .ok (.aconst_null, 1) := by decide +kernel
theorem d_Job_vanish_35 : decode b_Job_vanish 35 = .ok (.putfield 31, 3) := by decide +kernel
theorem d_Job_vanish_38 : decode b_Job_vanish 38 = .ok (.aload_n 0, 1) := by decide +kernel
theorem d_Job_vanish_39 : decode b_Job_vanish 39 = .ok (.iconst (-1), 1) := by decide +kernel
theorem d_Job_vanish_40 : decode b_Job_vanish 40 = .ok (.putfield 24, 3) := by decide +kernel
theorem d_Job_vanish_43 : decode b_Job_vanish 43 = .ok (.return_, 1) := by decide +kernel
theorem d_Job_state_0 : decode b_Job_state 0 = .ok (.aload_n 0, 1) := by decide +kernel
theorem d_Job_state_1 : decode b_Job_state 1 = .ok (.getfield 27, 3) := by decide +kernel
theorem d_Job_state_4 : decode b_Job_state 4 = .ok (.ifnonnull 5, 3) := by decide +kernel
theorem d_Job_state_7 : decode b_Job_state 7 = .ok (.iconst (-1), 1) := by decide +kernel
theorem d_Job_state_8 : decode b_Job_state 8 = .ok (.ireturn, 1) := by decide +kernel
theorem d_Job_state_9 : decode b_Job_state 9 = .ok (.aload_n 0, 1) := by decide +kernel
theorem d_Job_state_10 : decode b_Job_state 10 = .ok (.getfield 31, 3) := by decide +kernel
theorem d_Job_state_13 : decode b_Job_state 13 = .ok (.ifnonnull 13, 3) := by decide +kernel
theorem d_Job_state_16 : decode b_Job_state 16 = .ok (.aload_n 0, 1) := by decide +kernel
theorem d_Job_state_17 : decode b_Job_state 17 = .ok (.getfield 27, 3) := by decide +kernel
theorem d_Job_state_20 : decode b_Job_state 20 = .ok (.getfield 46, 3) := by decide +kernel
theorem d_Job_state_23 : decode b_Job_state 23 = .ok (.goto 20, 3) := by decide +kernel
theorem d_Job_state_26 : decode b_Job_state 26 = .ok (.aload_n 0, 1) := by decide +kernel
theorem d_Job_state_27 : decode b_Job_state 27 = .ok (.getfield 27, 3) := by decide +kernel
theorem d_Job_state_30 : decode b_Job_state 30 = .ok (.getfield 46, 3) := by decide +kernel
theorem d_Job_state_33 : decode b_Job_state 33 = .ok (.aload_n 0, 1) := by decide +kernel
theorem d_Job_state_34 : decode b_Job_state 34 = .ok (.getfield 31, 3) := by decide +kernel
theorem d_Job_state_37 : decode b_Job_state 37 = .ok (.getfield 46, 3) := by decide +kernel
theorem d_Job_state_40 : decode b_Job_state 40 = .ok (.invokestatic 49, 3) := by decide +kernel
theorem d_Job_state_43 : decode b_Job_state 43 = .ok (.ireturn, 1) := by decide +kernel
theorem d_Job_readsFromPipe_0 : decode b_Job_readsFromPipe 0 = .ok (.aload_n 0, 1) := by decide +kernel
theorem d_Job_readsFromPipe_1 : decode b_Job_readsFromPipe 1 = .ok (.getfield 31, 3) := by decide +kernel
theorem d_Job_readsFromPipe_4 : decode b_Job_readsFromPipe 4 = .ok (.ifnull 15, 3) := by decide +kernel
theorem d_Job_readsFromPipe_7 : decode b_Job_readsFromPipe 7 = .ok (.aload_n 0, 1) := by decide +kernel
theorem d_Job_readsFromPipe_8 : decode b_Job_readsFromPipe 8 = .ok (.getfield 31, 3) := by decide +kernel
theorem d_Job_readsFromPipe_11 : decode b_Job_readsFromPipe 11 = .ok (.aload_n 1, 1) := by decide +kernel
theorem d_Job_readsFromPipe_12 : decode b_Job_readsFromPipe 12 = .ok (.if_acmp .ne 7, 3) := by decide +kernel
theorem d_Job_readsFromPipe_15 : decode b_Job_readsFromPipe 15 = .ok (.iconst 1, 1) := by decide +kernel
theorem d_Job_readsFromPipe_16 : decode b_Job_readsFromPipe 16 = .ok (.goto 4, 3) := by decide +kernel
theorem d_Job_readsFromPipe_19 : decode b_Job_readsFromPipe 19 = .ok (.iconst 0, 1) := by decide +kernel
theorem d_Job_readsFromPipe_20 : decode b_Job_readsFromPipe 20 = .ok (.ireturn, 1) := by decide +kernel
theorem d_Job_writesToPipe_0 : decode b_Job_writesToPipe 0 = .ok (.aload_n 0, 1) := by decide +kernel
theorem d_Job_writesToPipe_1 : decode b_Job_writesToPipe 1 = .ok (.getfield 31, 3) := by decide +kernel
theorem d_Job_writesToPipe_4 : decode b_Job_writesToPipe 4 = .ok (.ifnull 15, 3) := by decide +kernel
theorem d_Job_writesToPipe_7 : decode b_Job_writesToPipe 7 = .ok (.aload_n 0, 1) := by decide +kernel
theorem d_Job_writesToPipe_8 : decode b_Job_writesToPipe 8 = .ok (.getfield 27, 3) := by decide +kernel
theorem d_Job_writesToPipe_11 : decode b_Job_writesToPipe 11 = .ok (.aload_n 1, 1) := by decide +kernel
theorem d_Job_writesToPipe_12 : decode b_Job_writesToPipe 12 = .ok (.if_acmp .ne 7, 3) := by decide +kernel
theorem d_Job_writesToPipe_15 : decode b_Job_writesToPipe 15 = .ok (.iconst 1, 1) := by decide +kernel
theorem d_Job_writesToPipe_16 : decode b_Job_writesToPipe 16 = .ok (.goto 4, 3) := by decide +kernel
theorem d_Job_writesToPipe_19 : decode b_Job_writesToPipe 19 = .ok (.iconst 0, 1) := by decide +kernel
theorem d_Job_writesToPipe_20 : decode b_Job_writesToPipe 20 = .ok (.ireturn, 1) := by decide +kernel
theorem d_Job_firstHasEnded_0 : decode b_Job_firstHasEnded 0 = .ok (.aload_n 0, 1) := by decide +kernel
theorem d_Job_firstHasEnded_1 : decode b_Job_firstHasEnded 1 = .ok (.getfield 27, 3) := by decide +kernel
theorem d_Job_firstHasEnded_4 : decode b_Job_firstHasEnded 4 = .ok (.ifnull 18, 3) := by decide +kernel
theorem d_Job_firstHasEnded_7 : decode b_Job_firstHasEnded 7 = .ok (.aload_n 0, 1) := by decide +kernel
theorem d_Job_firstHasEnded_8 : decode b_Job_firstHasEnded 8 = .ok (.getfield 27, 3) := by decide +kernel
theorem d_Job_firstHasEnded_11 : decode b_Job_firstHasEnded 11 = .ok (.getfield 46, 3) := by decide +kernel
theorem d_Job_firstHasEnded_14 : decode b_Job_firstHasEnded 14 = .ok (.iconst 3, 1) := by decide +kernel
theorem d_Job_firstHasEnded_15 : decode b_Job_firstHasEnded 15 = .ok (.if_icmp .ne 7, 3) := by decide +kernel
theorem d_Job_firstHasEnded_18 : decode b_Job_firstHasEnded 18 = .ok (.iconst 1, 1) := by decide +kernel
theorem d_Job_firstHasEnded_19 : decode b_Job_firstHasEnded 19 = .ok (.goto 4, 3) := by decide +kernel
theorem d_Job_firstHasEnded_22 : decode b_Job_firstHasEnded 22 = .ok (.iconst 0, 1) := by decide +kernel
theorem d_Job_firstHasEnded_23 : decode b_Job_firstHasEnded 23 = .ok (.ireturn, 1) := by decide +kernel
theorem d_Job_secondHasEnded_0 : decode b_Job_secondHasEnded 0 = .ok (.aload_n 0, 1) := by decide +kernel
theorem d_Job_secondHasEnded_1 : decode b_Job_secondHasEnded 1 = .ok (.getfield 31, 3) := by decide +kernel
theorem d_Job_secondHasEnded_4 : decode b_Job_secondHasEnded 4 = .ok (.ifnull 18, 3) := by decide +kernel
theorem d_Job_secondHasEnded_7 : decode b_Job_secondHasEnded 7 = .ok (.aload_n 0, 1) := by decide +kernel
theorem d_Job_secondHasEnded_8 : decode b_Job_secondHasEnded 8 = .ok (.getfield 31, 3) := by decide +kernel
theorem d_Job_secondHasEnded_11 : decode b_Job_secondHasEnded 11 = .ok (.getfield 46, 3) := by decide +kernel
theorem d_Job_secondHasEnded_14 : decode b_Job_secondHasEnded 14 = .ok (.iconst 3, 1) := by decide +kernel
theorem d_Job_secondHasEnded_15 : decode b_Job_secondHasEnded 15 = .ok (.if_icmp .ne 7, 3) := by decide +kernel
theorem d_Job_secondHasEnded_18 : decode b_Job_secondHasEnded 18 = .ok (.iconst 1, 1) := by decide +kernel
theorem d_Job_secondHasEnded_19 : decode b_Job_secondHasEnded 19 = .ok (.goto 4, 3) := by decide +kernel
theorem d_Job_secondHasEnded_22 : decode b_Job_secondHasEnded 22 = .ok (.iconst 0, 1) := by decide +kernel
theorem d_Job_secondHasEnded_23 : decode b_Job_secondHasEnded 23 = .ok (.ireturn, 1) := by decide +kernel
theorem d_Job_receive_0 : decode b_Job_receive 0 = .ok (.aload_n 0, 1) := by decide +kernel
theorem d_Job_receive_1 : decode b_Job_receive 1 = .ok (.getfield 27, 3) := by decide +kernel
theorem d_Job_receive_4 : decode b_Job_receive 4 = .ok (.ifnull 11, 3) := by decide +kernel
theorem d_Job_receive_7 : decode b_Job_receive 7 = .ok (.aload_n 0, 1) := by decide +kernel
theorem d_Job_receive_8 : decode b_Job_receive 8 = .ok (.getfield 27, 3) := by decide +kernel
theorem d_Job_receive_11 : decode b_Job_receive 11 = .ok (.iload_n 1, 1) := by decide +kernel
theorem d_Job_receive_12 : decode b_Job_receive 12 = .ok (.invokevirtual 55, 3) := by decide +kernel
theorem d_Job_receive_15 : decode b_Job_receive 15 = .ok (.aload_n 0, 1) := by decide +kernel
theorem d_Job_receive_16 : decode b_Job_receive 16 = .ok (.getfield 31, 3) := by decide +kernel
theorem d_Job_receive_19 : decode b_Job_receive 19 = .ok (.ifnull 11, 3) := by decide +kernel
theorem d_Job_receive_22 : decode b_Job_receive 22 = .ok (.aload_n 0, 1) := by decide +kernel
theorem d_Job_receive_23 : decode b_Job_receive 23 = .ok (.getfield 31, 3) := by decide +kernel
theorem d_Job_receive_26 : decode b_Job_receive 26 = .ok (.iload_n 1, 1) := by decide +kernel
theorem d_Job_receive_27 : decode b_Job_receive 27 = .ok (.invokevirtual 55, 3) := by decide +kernel
theorem d_Job_receive_30 : decode b_Job_receive 30 = .ok (.return_, 1) := by decide +kernel
theorem d_Job_receiveHangUp_0 : decode b_Job_receiveHangUp 0 = .ok (.aload_n 0, 1) := by decide +kernel
theorem d_Job_receiveHangUp_1 : decode b_Job_receiveHangUp 1 = .ok (.iconst 0, 1) := by decide +kernel
theorem d_Job_receiveHangUp_2 : decode b_Job_receiveHangUp 2 = .ok (.invokevirtual 58, 3) := by decide +kernel
theorem d_Job_receiveHangUp_5 : decode b_Job_receiveHangUp 5 = .ok (.aload_n 0, 1) := by decide +kernel
theorem d_Job_receiveHangUp_6 : decode b_Job_receiveHangUp 6 = .ok (.iconst 5, 1) := by decide +kernel
theorem d_Job_receiveHangUp_7 : decode b_Job_receiveHangUp 7 = .ok (.invokevirtual 58, 3) := by decide +kernel
theorem d_Job_receiveHangUp_10 : decode b_Job_receiveHangUp 10 = .ok (.return_, 1) := by decide +kernel
theorem d_JobProcess_init_0 : decode b_JobProcess_init 0 = .ok (.aload_n 0, 1) := by decide +kernel
theorem d_JobProcess_init_1 : decode b_JobProcess_init 1 = .ok (.invokespecial 3, 3) := by decide +kernel
theorem d_JobProcess_init_4 : decode b_JobProcess_init 4 = .ok (.return_, 1) := by decide +kernel
theorem d_JobProcess_begin_0 : decode b_JobProcess_begin 0 = .ok (.aload_n 0, 1) := by decide +kernel
theorem d_JobProcess_begin_1 : decode b_JobProcess_begin 1 = .ok (.aload_n 1, 1) := by decide +kernel
theorem d_JobProcess_begin_2 : decode b_JobProcess_begin 2 = .ok (.putfield 9, 3) := by decide +kernel
theorem d_JobProcess_begin_5 : decode b_JobProcess_begin 5 = .ok (.aload_n 0, 1) := by decide +kernel
theorem d_JobProcess_begin_6 : decode b_JobProcess_begin 6 = .ok (.iconst 1, 1) := by decide +kernel
theorem d_JobProcess_begin_7 : decode b_JobProcess_begin 7 = .ok (.putfield 15, 3) := by decide +kernel
theorem d_JobProcess_begin_10 : decode b_JobProcess_begin 10 = .ok (.aload_n 0, 1) := by decide +kernel
theorem d_JobProcess_begin_11 : decode b_JobProcess_begin 11 = .ok (.iload_n 2, 1) := by decide +kernel
theorem d_JobProcess_begin_12 : decode b_JobProcess_begin 12 = .ok (.putfield 19, 3) := by decide +kernel
theorem d_JobProcess_begin_15 : decode b_JobProcess_begin 15 = .ok (.aload_n 0, 1) := by decide +kernel
theorem d_JobProcess_begin_16 : decode b_JobProcess_begin 16 = .ok (.iconst 0, 1) := by decide +kernel
theorem d_JobProcess_begin_17 : decode b_JobProcess_begin 17 = .ok (.putfield 22, 3) := by decide +kernel
theorem d_JobProcess_begin_20 : decode b_JobProcess_begin 20 = .ok (.aload_n 0, 1) := by decide +kernel
theorem d_JobProcess_begin_21 : decode b_JobProcess_begin 21 = .ok (.iconst 0, 1) := by decide +kernel
theorem d_JobProcess_begin_22 : decode b_JobProcess_begin 22 = .ok (.putfield 25, 3) := by decide +kernel
theorem d_JobProcess_begin_25 : decode b_JobProcess_begin 25 = .ok (.aload_n 0, 1) := by decide +kernel
theorem d_JobProcess_begin_26 : decode b_JobProcess_begin 26 = .ok (.iconst 0, 1) := by decide +kernel
theorem d_JobProcess_begin_27 : decode b_JobProcess_begin 27 = .ok (.putfield 28, 3) := by decide +kernel
theorem d_JobProcess_begin_30 : decode b_JobProcess_begin 30 = .ok (.aload_n 0, 1) := by decide +kernel
theorem d_JobProcess_begin_31 : decode b_JobProcess_begin 31 = .ok (.iconst 0, 1) := by decide +kernel
theorem d_JobProcess_begin_32 : decode b_JobProcess_begin 32 = .ok (.putfield 31, 3) := by decide +kernel
theorem d_JobProcess_begin_35 : decode b_JobProcess_begin 35 = .ok (.aload_n 0, 1) := by decide +kernel
theorem d_JobProcess_begin_36 : decode b_JobProcess_begin 36 = .ok (.iconst 0, 1) := by decide +kernel
theorem d_JobProcess_begin_37 : decode b_JobProcess_begin 37 = .ok (.putfield 34, 3) := by decide +kernel
theorem d_JobProcess_begin_40 : decode b_JobProcess_begin 40 = .ok (.aload_n 0, 1) := by decide +kernel
theorem d_JobProcess_begin_41 : decode b_JobProcess_begin 41 = .ok (.iconst 0, 1) := by decide +kernel
theorem d_JobProcess_begin_42 : decode b_JobProcess_begin 42 = .ok (.putfield 37, 3) := by decide +kernel
theorem d_JobProcess_begin_45 : decode b_JobProcess_begin 45 = .ok (.aload_n 0, 1) := by decide +kernel
theorem d_JobProcess_begin_46 : decode b_JobProcess_begin 46 = .ok (.iconst 0, 1) := by decide +kernel
theorem d_JobProcess_begin_47 : decode b_JobProcess_begin 47 = .ok (.putfield 40, 3) := by decide +kernel
theorem d_JobProcess_begin_50 : decode b_JobProcess_begin 50 = .ok (.return_, 1) := by decide +kernel
theorem d_JobProcess_vanish_0 : decode b_JobProcess_vanish 0 = .ok (.aload_n 0, 1) := by decide +kernel
theorem d_JobProcess_vanish_1 : decode b_JobProcess_vanish 1 = .ok (.aconst_null, 1) := by decide +kernel
theorem d_JobProcess_vanish_2 : decode b_JobProcess_vanish 2 = .ok (.putfield 9, 3) := by decide +kernel
theorem d_JobProcess_vanish_5 : decode b_JobProcess_vanish 5 = .ok (.aload_n 0, 1) := by decide +kernel
theorem d_JobProcess_vanish_6 : decode b_JobProcess_vanish 6 = .ok (.iconst 0, 1) := by decide +kernel
theorem d_JobProcess_vanish_7 : decode b_JobProcess_vanish 7 = .ok (.putfield 15, 3) := by decide +kernel
theorem d_JobProcess_vanish_10 : decode b_JobProcess_vanish 10 = .ok (.return_, 1) := by decide +kernel
theorem d_JobProcess_look_0 : decode b_JobProcess_look 0 = .ok (.aload_n 0, 1) := by decide +kernel
theorem d_JobProcess_look_1 : decode b_JobProcess_look 1 = .ok (.getfield 9, 3) := by decide +kernel
theorem d_JobProcess_look_4 : decode b_JobProcess_look 4 = .ok (.ifnonnull 5, 3) := by decide +kernel
theorem d_JobProcess_look_7 : decode b_JobProcess_look 7 = .ok (.iconst (-1), 1) := by decide +kernel
theorem d_JobProcess_look_8 : decode b_JobProcess_look 8 = .ok (.ireturn, 1) := by decide +kernel
theorem d_JobProcess_look_9 : decode b_JobProcess_look 9 = .ok (.iload_n 1, 1) := by decide +kernel
theorem d_JobProcess_look_10 : decode b_JobProcess_look 10 = .ok (.tableswitch 98 0 8 #[50, 55, 63, 68, 73, 78, 83, 88, 93], 50) := by decide +kernel
theorem d_JobProcess_look_60 : decode b_JobProcess_look 60 = .ok (.aload_n 0, 1) := by decide +kernel
theorem d_JobProcess_look_61 : decode b_JobProcess_look 61 = .ok (.getfield 15, 3) := by decide +kernel
theorem d_JobProcess_look_64 : decode b_JobProcess_look 64 = .ok (.ireturn, 1) := by decide +kernel
theorem d_JobProcess_look_65 : decode b_JobProcess_look 65 = .ok (.aload_n 0, 1) := by decide +kernel
theorem d_JobProcess_look_66 : decode b_JobProcess_look 66 = .ok (.getfield 9, 3) := by decide +kernel
theorem d_JobProcess_look_69 : decode b_JobProcess_look 69 = .ok (.getfield 43, 3) := by decide +kernel
theorem d_JobProcess_look_72 : decode b_JobProcess_look 72 = .ok (.ireturn, 1) := by decide +kernel
theorem d_JobProcess_look_73 : decode b_JobProcess_look 73 = .ok (.aload_n 0, 1) := by decide +kernel
theorem d_JobProcess_look_74 : decode b_JobProcess_look 74 = .ok (.getfield 22, 3) := by decide +kernel
theorem d_JobProcess_look_77 : decode b_JobProcess_look 77 = .ok (.ireturn, 1) := by decide +kernel
theorem d_JobProcess_look_78 : decode b_JobProcess_look 78 = .ok (.aload_n 0, 1) := by decide +kernel
theorem d_JobProcess_look_79 : decode b_JobProcess_look 79 = .ok (.getfield 25, 3) := by decide +kernel
theorem d_JobProcess_look_82 : decode b_JobProcess_look 82 = .ok (.ireturn, 1) := by decide +kernel
theorem d_JobProcess_look_83 : decode b_JobProcess_look 83 = .ok (.aload_n 0, 1) := by decide +kernel
theorem d_JobProcess_look_84 : decode b_JobProcess_look 84 = .ok (.getfield 31, 3) := by decide +kernel
theorem d_JobProcess_look_87 : decode b_JobProcess_look 87 = .ok (.ireturn, 1) := by decide +kernel
theorem d_JobProcess_look_88 : decode b_JobProcess_look 88 = .ok (.aload_n 0, 1) := by decide +kernel
theorem d_JobProcess_look_89 : decode b_JobProcess_look 89 = .ok (.getfield 34, 3) := by decide +kernel
theorem d_JobProcess_look_92 : decode b_JobProcess_look 92 = .ok (.ireturn, 1) := by decide +kernel
theorem d_JobProcess_look_93 : decode b_JobProcess_look 93 = .ok (.aload_n 0, 1) := by decide +kernel
theorem d_JobProcess_look_94 : decode b_JobProcess_look 94 = .ok (.getfield 37, 3) := by decide +kernel
theorem d_JobProcess_look_97 : decode b_JobProcess_look 97 = .ok (.ireturn, 1) := by decide +kernel
theorem d_JobProcess_look_98 : decode b_JobProcess_look 98 = .ok (.aload_n 0, 1) := by decide +kernel
theorem d_JobProcess_look_99 : decode b_JobProcess_look 99 = .ok (.getfield 40, 3) := by decide +kernel
theorem d_JobProcess_look_102 : decode b_JobProcess_look 102 = .ok (.ireturn, 1) := by decide +kernel
theorem d_JobProcess_look_103 : decode b_JobProcess_look 103 = .ok (.aload_n 0, 1) := by decide +kernel
theorem d_JobProcess_look_104 : decode b_JobProcess_look 104 = .ok (.getfield 28, 3) := by decide +kernel
theorem d_JobProcess_look_107 : decode b_JobProcess_look 107 = .ok (.ireturn, 1) := by decide +kernel
theorem d_JobProcess_look_108 : decode b_JobProcess_look 108 = .ok (.iconst (-1), 1) := by decide +kernel
theorem d_JobProcess_look_109 : decode b_JobProcess_look 109 = .ok (.ireturn, 1) := by decide +kernel
theorem d_JobProcess_shuns_0 : decode b_JobProcess_shuns 0 = .ok (.aload_n 0, 1) := by decide +kernel
theorem d_JobProcess_shuns_1 : decode b_JobProcess_shuns 1 = .ok (.getfield 34, 3) := by decide +kernel
theorem d_JobProcess_shuns_4 : decode b_JobProcess_shuns 4 = .ok (.aload_n 0, 1) := by decide +kernel
theorem d_JobProcess_shuns_5 : decode b_JobProcess_shuns 5 = .ok (.getfield 37, 3) := by decide +kernel
theorem d_JobProcess_shuns_8 : decode b_JobProcess_shuns 8 = .ok (.ior, 1) := by decide +kernel
theorem d_JobProcess_shuns_9 : decode b_JobProcess_shuns 9 = .ok (.iconst 1, 1) := by decide +kernel
theorem d_JobProcess_shuns_10 : decode b_JobProcess_shuns 10 = .ok (.iload_n 1, 1) := by decide +kernel
theorem d_JobProcess_shuns_11 : decode b_JobProcess_shuns 11 = .ok (.ishl, 1) := by decide +kernel
theorem d_JobProcess_shuns_12 : decode b_JobProcess_shuns 12 = .ok (.iand, 1) := by decide +kernel
theorem d_JobProcess_shuns_13 : decode b_JobProcess_shuns 13 = .ok (.ifCond .eq 7, 3) := by decide +kernel
theorem d_JobProcess_shuns_16 : decode b_JobProcess_shuns 16 = .ok (.iconst 1, 1) := by decide +kernel
theorem d_JobProcess_shuns_17 : decode b_JobProcess_shuns 17 = .ok (.goto 4, 3) := by decide +kernel
theorem d_JobProcess_shuns_20 : decode b_JobProcess_shuns 20 = .ok (.iconst 0, 1) := by decide +kernel
theorem d_JobProcess_shuns_21 : decode b_JobProcess_shuns 21 = .ok (.ireturn, 1) := by decide +kernel
theorem d_JobProcess_receive_0 : decode b_JobProcess_receive 0 = .ok (.aload_n 0, 1) := by decide +kernel
theorem d_JobProcess_receive_1 : decode b_JobProcess_receive 1 = .ok (.getfield 15, 3) := by decide +kernel
theorem d_JobProcess_receive_4 : decode b_JobProcess_receive 4 = .ok (.iconst 1, 1) := by decide +kernel
theorem d_JobProcess_receive_5 : decode b_JobProcess_receive 5 = .ok (.if_icmp .eq 12, 3) := by decide +kernel
theorem d_JobProcess_receive_8 : decode b_JobProcess_receive 8 = .ok (.aload_n 0, 1) := by decide +kernel
theorem d_JobProcess_receive_9 : decode b_JobProcess_receive 9 = .ok (.getfield 15, 3) := by decide +kernel
theorem d_JobProcess_receive_12 : decode b_JobProcess_receive 12 = .ok (.iconst 2, 1) := by decide +kernel
theorem d_JobProcess_receive_13 : decode b_JobProcess_receive 13 = .ok (.if_icmp .eq 4, 3) := by decide +kernel
theorem d_JobProcess_receive_16 : decode b_JobProcess_receive 16 = .ok (.return_, 1) := by decide +kernel
theorem d_JobProcess_receive_17 : decode b_JobProcess_receive 17 = .ok (.iconst 1, 1) := by decide +kernel
theorem d_JobProcess_receive_18 : decode b_JobProcess_receive 18 = .ok (.iload_n 1, 1) := by decide +kernel
theorem d_JobProcess_receive_19 : decode b_JobProcess_receive 19 = .ok (.ishl, 1) := by decide +kernel
theorem d_JobProcess_receive_20 : decode b_JobProcess_receive 20 = .ok (.istore_n 2, 1) := by decide +kernel
theorem d_JobProcess_receive_21 : decode b_JobProcess_receive 21 = .ok (.iload_n 1, 1) := by decide +kernel
theorem d_JobProcess_receive_22 : decode b_JobProcess_receive 22 = .ok (.iconst 5, 1) := by decide +kernel
theorem d_JobProcess_receive_23 : decode b_JobProcess_receive 23 = .ok (.if_icmp .ne 35, 3) := by decide +kernel
theorem d_JobProcess_receive_26 : decode b_JobProcess_receive 26 = .ok (.aload_n 0, 1) := by decide +kernel
theorem d_JobProcess_receive_27 : decode b_JobProcess_receive 27 = .ok (.dup, 1) := by decide +kernel
theorem d_JobProcess_receive_28 : decode b_JobProcess_receive 28 = .ok (.getfield 31, 3) := by decide +kernel
theorem d_JobProcess_receive_31 : decode b_JobProcess_receive 31 = .ok (.sipush (-961), 3) := by decide +kernel
theorem d_JobProcess_receive_34 : decode b_JobProcess_receive 34 = .ok (.iand, 1) := by decide +kernel
theorem d_JobProcess_receive_35 : decode b_JobProcess_receive 35 = .ok (.putfield 31, 3) := by decide +kernel
theorem d_JobProcess_receive_38 : decode b_JobProcess_receive 38 = .ok (.aload_n 0, 1) := by decide +kernel
theorem d_JobProcess_receive_39 : decode b_JobProcess_receive 39 = .ok (.getfield 15, 3) := by decide +kernel
theorem d_JobProcess_receive_42 : decode b_JobProcess_receive 42 = .ok (.iconst 2, 1) := by decide +kernel
theorem d_JobProcess_receive_43 : decode b_JobProcess_receive 43 = .ok (.if_icmp .ne 79, 3) := by decide +kernel
theorem d_JobProcess_receive_46 : decode b_JobProcess_receive 46 = .ok (.aload_n 0, 1) := by decide +kernel
theorem d_JobProcess_receive_47 : decode b_JobProcess_receive 47 = .ok (.iconst 1, 1) := by decide +kernel
theorem d_JobProcess_receive_48 : decode b_JobProcess_receive 48 = .ok (.putfield 15, 3) := by decide +kernel
theorem d_JobProcess_receive_51 : decode b_JobProcess_receive 51 = .ok (.aload_n 0, 1) := by decide +kernel
theorem d_JobProcess_receive_52 : decode b_JobProcess_receive 52 = .ok (.invokevirtual 48, 3) := by decide +kernel
theorem d_JobProcess_receive_55 : decode b_JobProcess_receive 55 = .ok (.goto 67, 3) := by decide +kernel
theorem d_JobProcess_receive_58 : decode b_JobProcess_receive 58 = .ok (.iload_n 1, 1) := by decide +kernel
theorem d_JobProcess_receive_59 : decode b_JobProcess_receive 59 = .ok (.iconst 3, 1) := by decide +kernel
theorem d_JobProcess_receive_60 : decode b_JobProcess_receive 60 = .ok (.if_icmp .eq 9, 3) := by decide +kernel
theorem d_JobProcess_receive_63 : decode b_JobProcess_receive 63 = .ok (.iload_n 1, 1) := by decide +kernel
theorem d_JobProcess_receive_64 : decode b_JobProcess_receive 64 = .ok (.bipush 6, 2) := by decide +kernel
theorem d_JobProcess_receive_66 : decode b_JobProcess_receive 66 = .ok (.if_icmp .ne 11, 3) := by decide +kernel
theorem d_JobProcess_receive_69 : decode b_JobProcess_receive 69 = .ok (.aload_n 0, 1) := by decide +kernel
theorem d_JobProcess_receive_70 : decode b_JobProcess_receive 70 = .ok (.iload_n 1, 1) := by decide +kernel
theorem d_JobProcess_receive_71 : decode b_JobProcess_receive 71 = .ok (.invokevirtual 51, 3) := by decide +kernel
theorem d_JobProcess_receive_74 : decode b_JobProcess_receive 74 = .ok (.goto 48, 3) := by decide +kernel
theorem d_JobProcess_receive_77 : decode b_JobProcess_receive 77 = .ok (.aload_n 0, 1) := by decide +kernel
theorem d_JobProcess_receive_78 : decode b_JobProcess_receive 78 = .ok (.getfield 37, 3) := by decide +kernel
theorem d_JobProcess_receive_81 : decode b_JobProcess_receive 81 = .ok (.iload_n 2, 1) := by decide +kernel
theorem d_JobProcess_receive_82 : decode b_JobProcess_receive 82 = .ok (.iand, 1) := by decide +kernel
theorem d_JobProcess_receive_83 : decode b_JobProcess_receive 83 = .ok (.ifCond .eq 4, 3) := by decide +kernel
theorem d_JobProcess_receive_86 : decode b_JobProcess_receive 86 = .ok (.return_, 1) := by decide +kernel
theorem d_JobProcess_receive_87 : decode b_JobProcess_receive 87 = .ok (.aload_n 0, 1) := by decide +kernel
theorem d_JobProcess_receive_88 : decode b_JobProcess_receive 88 = .ok (.getfield 34, 3) := by decide +kernel
theorem d_JobProcess_receive_91 : decode b_JobProcess_receive 91 = .ok (.iload_n 2, 1) := by decide +kernel
theorem d_JobProcess_receive_92 : decode b_JobProcess_receive 92 = .ok (.iand, 1) := by decide +kernel
theorem d_JobProcess_receive_93 : decode b_JobProcess_receive 93 = .ok (.ifCond .ne 11, 3) := by decide +kernel
theorem d_JobProcess_receive_96 : decode b_JobProcess_receive 96 = .ok (.aload_n 0, 1) := by decide +kernel
theorem d_JobProcess_receive_97 : decode b_JobProcess_receive 97 = .ok (.getfield 15, 3) := by decide +kernel
theorem d_JobProcess_receive_100 : decode b_JobProcess_receive 100 = .ok (.iconst 2, 1) := by decide +kernel
theorem d_JobProcess_receive_101 : decode b_JobProcess_receive 101 = .ok (.if_icmp .ne 16, 3) := by decide +kernel
theorem d_JobProcess_receive_104 : decode b_JobProcess_receive 104 = .ok (.aload_n 0, 1) := by decide +kernel
theorem d_JobProcess_receive_105 : decode b_JobProcess_receive 105 = .ok (.dup, 1) := by decide +kernel
theorem d_JobProcess_receive_106 : decode b_JobProcess_receive 106 = .ok (.getfield 31, 3) := by decide +kernel
theorem d_JobProcess_receive_109 : decode b_JobProcess_receive 109 = .ok (.iload_n 2, 1) := by decide +kernel
theorem d_JobProcess_receive_110 : decode b_JobProcess_receive 110 = .ok (.ior, 1) := by decide +kernel
theorem d_JobProcess_receive_111 : decode b_JobProcess_receive 111 = .ok (.putfield 31, 3) := by decide +kernel
theorem d_JobProcess_receive_114 : decode b_JobProcess_receive 114 = .ok (.goto 8, 3) := by decide +kernel
theorem d_JobProcess_receive_117 : decode b_JobProcess_receive 117 = .ok (.aload_n 0, 1) := by decide +kernel
theorem d_JobProcess_receive_118 : decode b_JobProcess_receive 118 = .ok (.iload_n 1, 1) := by decide +kernel
theorem d_JobProcess_receive_119 : decode b_JobProcess_receive 119 = .ok (.invokevirtual 51, 3) := by decide +kernel
theorem d_JobProcess_receive_122 : decode b_JobProcess_receive 122 = .ok (.return_, 1) := by decide +kernel
theorem d_JobProcess_actOnPending_0 : decode b_JobProcess_actOnPending 0 = .ok (.iconst 0, 1) := by decide +kernel
theorem d_JobProcess_actOnPending_1 : decode b_JobProcess_actOnPending 1 = .ok (.istore_n 1, 1) := by decide +kernel
theorem d_JobProcess_actOnPending_2 : decode b_JobProcess_actOnPending 2 = .ok (.iload_n 1, 1) := by decide +kernel
theorem d_JobProcess_actOnPending_3 : decode b_JobProcess_actOnPending 3 = .ok (.bipush 9, 2) := by decide +kernel
theorem d_JobProcess_actOnPending_5 : decode b_JobProcess_actOnPending 5 = .ok (.if_icmp .gt 40, 3) := by decide +kernel
theorem d_JobProcess_actOnPending_8 : decode b_JobProcess_actOnPending 8 = .ok (.aload_n 0, 1) := by decide +kernel
theorem d_JobProcess_actOnPending_9 : decode b_JobProcess_actOnPending 9 = .ok (.getfield 15, 3) := by decide +kernel
theorem d_JobProcess_actOnPending_12 : decode b_JobProcess_actOnPending 12 = .ok (.iconst 1, 1) := by decide +kernel
theorem d_JobProcess_actOnPending_13 : decode b_JobProcess_actOnPending 13 = .ok (.if_icmp .ne 32, 3) := by decide +kernel
theorem d_JobProcess_actOnPending_16 : decode b_JobProcess_actOnPending 16 = .ok (.aload_n 0, 1) := by decide +kernel
theorem d_JobProcess_actOnPending_17 : decode b_JobProcess_actOnPending 17 = .ok (.getfield 31, 3) := by decide +kernel
theorem d_JobProcess_actOnPending_20 : decode b_JobProcess_actOnPending 20 = .ok (.aload_n 0, 1) := by decide +kernel
theorem d_JobProcess_actOnPending_21 : decode b_JobProcess_actOnPending 21 = .ok (.getfield 34, 3) := by decide +kernel
theorem d_JobProcess_actOnPending_24 : decode b_JobProcess_actOnPending 24 = .ok (.iconst (-1), 1) := by decide +kernel
theorem d_JobProcess_actOnPending_25 : decode b_JobProcess_actOnPending 25 = .ok (.ixor, 1) := by decide +kernel
theorem d_JobProcess_actOnPending_26 : decode b_JobProcess_actOnPending 26 = .ok (.iand, 1) := by decide +kernel
theorem d_JobProcess_actOnPending_27 : decode b_JobProcess_actOnPending 27 = .ok (.iconst 1, 1) := by decide +kernel
theorem d_JobProcess_actOnPending_28 : decode b_JobProcess_actOnPending 28 = .ok (.iload_n 1, 1) := by decide +kernel
theorem d_JobProcess_actOnPending_29 : decode b_JobProcess_actOnPending 29 = .ok (.ishl, 1) := by decide +kernel
theorem d_JobProcess_actOnPending_30 : decode b_JobProcess_actOnPending 30 = .ok (.iand, 1) := by decide +kernel
theorem d_JobProcess_actOnPending_31 : decode b_JobProcess_actOnPending 31 = .ok (.ifCond .eq 8, 3) := by decide +kernel
theorem d_JobProcess_actOnPending_34 : decode b_JobProcess_actOnPending 34 = .ok (.aload_n 0, 1) := by decide +kernel
theorem d_JobProcess_actOnPending_35 : decode b_JobProcess_actOnPending 35 = .ok (.iload_n 1, 1) := by decide +kernel
theorem d_JobProcess_actOnPending_36 : decode b_JobProcess_actOnPending 36 = .ok (.invokevirtual 51, 3) := by decide +kernel
theorem d_JobProcess_actOnPending_39 : decode b_JobProcess_actOnPending 39 = .ok (.iinc 1 1, 3) := by decide +kernel
theorem d_JobProcess_actOnPending_42 : decode b_JobProcess_actOnPending 42 = .ok (.goto (-40), 3) := by decide +kernel
theorem d_JobProcess_actOnPending_45 : decode b_JobProcess_actOnPending 45 = .ok (.return_, 1) := by decide +kernel
theorem d_JobProcess_act_0 : decode b_JobProcess_act 0 = .ok (.aload_n 0, 1) := by decide +kernel
theorem d_JobProcess_act_1 : decode b_JobProcess_act 1 = .ok (.dup, 1) := by decide +kernel
theorem d_JobProcess_act_2 : decode b_JobProcess_act 2 = .ok (.getfield 31, 3) := by decide +kernel
theorem d_JobProcess_act_5 : decode b_JobProcess_act 5 = .ok (.iconst 1, 1) := by decide +kernel
theorem d_JobProcess_act_6 : decode b_JobProcess_act 6 = .ok (.iload_n 1, 1) := by decide +kernel
theorem d_JobProcess_act_7 : decode b_JobProcess_act 7 = .ok (.ishl, 1) := by decide +kernel
theorem d_JobProcess_act_8 : decode b_JobProcess_act 8 = .ok (.iconst (-1), 1) := by decide +kernel
theorem d_JobProcess_act_9 : decode b_JobProcess_act 9 = .ok (.ixor, 1) := by decide +kernel
theorem d_JobProcess_act_10 : decode b_JobProcess_act 10 = .ok (.iand, 1) := by decide +kernel
theorem d_JobProcess_act_11 : decode b_JobProcess_act 11 = .ok (.putfield 31, 3) := by decide +kernel
theorem d_JobProcess_act_14 : decode b_JobProcess_act 14 = .ok (.iload_n 1, 1) := by decide +kernel
theorem d_JobProcess_act_15 : decode b_JobProcess_act 15 = .ok (.iconst 5, 1) := by decide +kernel
theorem d_JobProcess_act_16 : decode b_JobProcess_act 16 = .ok (.if_icmp .ge 20, 3) := by decide +kernel
theorem d_JobProcess_act_19 : decode b_JobProcess_act 19 = .ok (.aload_n 0, 1) := by decide +kernel
theorem d_JobProcess_act_20 : decode b_JobProcess_act 20 = .ok (.iconst 3, 1) := by decide +kernel
theorem d_JobProcess_act_21 : decode b_JobProcess_act 21 = .ok (.putfield 15, 3) := by decide +kernel
theorem d_JobProcess_act_24 : decode b_JobProcess_act 24 = .ok (.aload_n 0, 1) := by decide +kernel
theorem d_JobProcess_act_25 : decode b_JobProcess_act 25 = .ok (.sipush 128, 3) := by decide +kernel
theorem d_JobProcess_act_28 : decode b_JobProcess_act 28 = .ok (.iload_n 1, 1) := by decide +kernel
theorem d_JobProcess_act_29 : decode b_JobProcess_act 29 = .ok (.iadd, 1) := by decide +kernel
theorem d_JobProcess_act_30 : decode b_JobProcess_act 30 = .ok (.putfield 28, 3) := by decide +kernel
theorem d_JobProcess_act_33 : decode b_JobProcess_act 33 = .ok (.goto 8, 3) := by decide +kernel
theorem d_JobProcess_act_36 : decode b_JobProcess_act 36 = .ok (.aload_n 0, 1) := by decide +kernel
theorem d_JobProcess_act_37 : decode b_JobProcess_act 37 = .ok (.iconst 2, 1) := by decide +kernel
theorem d_JobProcess_act_38 : decode b_JobProcess_act 38 = .ok (.putfield 15, 3) := by decide +kernel
theorem d_JobProcess_act_41 : decode b_JobProcess_act 41 = .ok (.return_, 1) := by decide +kernel
theorem d_JobProcess_take_0 : decode b_JobProcess_take 0 = .ok (.aload_n 0, 1) := by decide +kernel
theorem d_JobProcess_take_1 : decode b_JobProcess_take 1 = .ok (.iload_n 1, 1) := by decide +kernel
theorem d_JobProcess_take_2 : decode b_JobProcess_take 2 = .ok (.putfield 25, 3) := by decide +kernel
theorem d_JobProcess_take_5 : decode b_JobProcess_take 5 = .ok (.aload_n 0, 1) := by decide +kernel
theorem d_JobProcess_take_6 : decode b_JobProcess_take 6 = .ok (.dup, 1) := by decide +kernel
theorem d_JobProcess_take_7 : decode b_JobProcess_take 7 = .ok (.getfield 22, 3) := by decide +kernel
theorem d_JobProcess_take_10 : decode b_JobProcess_take 10 = .ok (.iconst 1, 1) := by decide +kernel
theorem d_JobProcess_take_11 : decode b_JobProcess_take 11 = .ok (.iadd, 1) := by decide +kernel
theorem d_JobProcess_take_12 : decode b_JobProcess_take 12 = .ok (.putfield 22, 3) := by decide +kernel
theorem d_JobProcess_take_15 : decode b_JobProcess_take 15 = .ok (.return_, 1) := by decide +kernel
theorem d_JobProcess_fail_0 : decode b_JobProcess_fail 0 = .ok (.aload_n 0, 1) := by decide +kernel
theorem d_JobProcess_fail_1 : decode b_JobProcess_fail 1 = .ok (.bipush (-2), 2) := by decide +kernel
theorem d_JobProcess_fail_3 : decode b_JobProcess_fail 3 = .ok (.putfield 25, 3) := by decide +kernel
theorem d_JobProcess_fail_6 : decode b_JobProcess_fail 6 = .ok (.aload_n 0, 1) := by decide +kernel
theorem d_JobProcess_fail_7 : decode b_JobProcess_fail 7 = .ok (.dup, 1) := by decide +kernel
theorem d_JobProcess_fail_8 : decode b_JobProcess_fail 8 = .ok (.getfield 22, 3) := by decide +kernel
theorem d_JobProcess_fail_11 : decode b_JobProcess_fail 11 = .ok (.iconst 1, 1) := by decide +kernel
theorem d_JobProcess_fail_12 : decode b_JobProcess_fail 12 = .ok (.iadd, 1) := by decide +kernel
theorem d_JobProcess_fail_13 : decode b_JobProcess_fail 13 = .ok (.putfield 22, 3) := by decide +kernel
theorem d_JobProcess_fail_16 : decode b_JobProcess_fail 16 = .ok (.return_, 1) := by decide +kernel
theorem d_JobProcess_runOwnOp_0 : decode b_JobProcess_runOwnOp 0 = .ok (.aload_n 0, 1) := by decide +kernel
theorem d_JobProcess_runOwnOp_1 : decode b_JobProcess_runOwnOp 1 = .ok (.getfield 22, 3) := by decide +kernel
theorem d_JobProcess_runOwnOp_4 : decode b_JobProcess_runOwnOp 4 = .ok (.istore_n 3, 1) := by decide +kernel
theorem d_JobProcess_runOwnOp_5 : decode b_JobProcess_runOwnOp 5 = .ok (.aload_n 0, 1) := by decide +kernel
theorem d_JobProcess_runOwnOp_6 : decode b_JobProcess_runOwnOp 6 = .ok (.iload_n 3, 1) := by decide +kernel
theorem d_JobProcess_runOwnOp_7 : decode b_JobProcess_runOwnOp 7 = .ok (.iconst 1, 1) := by decide +kernel
theorem d_JobProcess_runOwnOp_8 : decode b_JobProcess_runOwnOp 8 = .ok (.iadd, 1) := by decide +kernel
theorem d_JobProcess_runOwnOp_9 : decode b_JobProcess_runOwnOp 9 = .ok (.putfield 22, 3) := by decide +kernel
theorem d_JobProcess_runOwnOp_12 : decode b_JobProcess_runOwnOp 12 = .ok (.iload_n 1, 1) := by decide +kernel
theorem d_JobProcess_runOwnOp_13 : decode b_JobProcess_runOwnOp 13 = .ok (.tableswitch 178 4 11 #[47, 58, 83, 99, 126, 137, 157, 165], 47) := by decide +kernel
theorem d_JobProcess_runOwnOp_60 : decode b_JobProcess_runOwnOp 60 = .ok (.aload_n 0, 1) := by decide +kernel
theorem d_JobProcess_runOwnOp_61 : decode b_JobProcess_runOwnOp 61 = .ok (.iload_n 2, 1) := by decide +kernel
theorem d_JobProcess_runOwnOp_62 : decode b_JobProcess_runOwnOp 62 = .ok (.bipush 15, 2) := by decide +kernel
theorem d_JobProcess_runOwnOp_64 : decode b_JobProcess_runOwnOp 64 = .ok (.iand, 1) := by decide +kernel
theorem d_JobProcess_runOwnOp_65 : decode b_JobProcess_runOwnOp 65 = .ok (.putfield 22, 3) := by decide +kernel
theorem d_JobProcess_runOwnOp_68 : decode b_JobProcess_runOwnOp 68 = .ok (.goto 142, 3) := by decide +kernel
theorem d_JobProcess_runOwnOp_71 : decode b_JobProcess_runOwnOp 71 = .ok (.aload_n 0, 1) := by decide +kernel
theorem d_JobProcess_runOwnOp_72 : decode b_JobProcess_runOwnOp 72 = .ok (.aload_n 0, 1) := by decide +kernel
theorem d_JobProcess_runOwnOp_73 : decode b_JobProcess_runOwnOp 73 = .ok (.getfield 25, 3) := by decide +kernel
theorem d_JobProcess_runOwnOp_76 : decode b_JobProcess_runOwnOp 76 = .ok (.ifCond .ge 10, 3) := by decide +kernel
theorem d_JobProcess_runOwnOp_79 : decode b_JobProcess_runOwnOp 79 = .ok (.iload_n 2, 1) := by decide +kernel
theorem d_JobProcess_runOwnOp_80 : decode b_JobProcess_runOwnOp 80 = .ok (.bipush 15, 2) := by decide +kernel
theorem d_JobProcess_runOwnOp_82 : decode b_JobProcess_runOwnOp 82 = .ok (.iand, 1) := by decide +kernel
theorem d_JobProcess_runOwnOp_83 : decode b_JobProcess_runOwnOp 83 = .ok (.goto 7, 3) := by decide +kernel
theorem d_JobProcess_runOwnOp_86 : decode b_JobProcess_runOwnOp 86 = .ok (.aload_n 0, 1) := by decide +kernel
theorem d_JobProcess_runOwnOp_87 : decode b_JobProcess_runOwnOp 87 = .ok (.getfield 22, 3) := by decide +kernel
theorem d_JobProcess_runOwnOp_90 : decode b_JobProcess_runOwnOp 90 = .ok (.putfield 22, 3) := by decide +kernel
theorem d_JobProcess_runOwnOp_93 : decode b_JobProcess_runOwnOp 93 = .ok (.goto 117, 3) := by decide +kernel
theorem d_JobProcess_runOwnOp_96 : decode b_JobProcess_runOwnOp 96 = .ok (.aload_n 0, 1) := by decide +kernel
theorem d_JobProcess_runOwnOp_97 : decode b_JobProcess_runOwnOp 97 = .ok (.iload_n 2, 1) := by decide +kernel
theorem d_JobProcess_runOwnOp_98 : decode b_JobProcess_runOwnOp 98 = .ok (.sipush 919, 3) := by decide +kernel
theorem d_JobProcess_runOwnOp_101 : decode b_JobProcess_runOwnOp 101 = .ok (.iand, 1) := by decide +kernel
theorem d_JobProcess_runOwnOp_102 : decode b_JobProcess_runOwnOp 102 = .ok (.putfield 34, 3) := by decide +kernel
theorem d_JobProcess_runOwnOp_105 : decode b_JobProcess_runOwnOp 105 = .ok (.aload_n 0, 1) := by decide +kernel
theorem d_JobProcess_runOwnOp_106 : decode b_JobProcess_runOwnOp 106 = .ok (.invokevirtual 48, 3) := by decide +kernel
theorem d_JobProcess_runOwnOp_109 : decode b_JobProcess_runOwnOp 109 = .ok (.goto 101, 3) := by decide +kernel
theorem d_JobProcess_runOwnOp_112 : decode b_JobProcess_runOwnOp 112 = .ok (.aload_n 0, 1) := by decide +kernel
theorem d_JobProcess_runOwnOp_113 : decode b_JobProcess_runOwnOp 113 = .ok (.iload_n 2, 1) := by decide +kernel
theorem d_JobProcess_runOwnOp_114 : decode b_JobProcess_runOwnOp 114 = .ok (.sipush 919, 3) := by decide +kernel
theorem d_JobProcess_runOwnOp_117 : decode b_JobProcess_runOwnOp 117 = .ok (.iand, 1) := by decide +kernel
theorem d_JobProcess_runOwnOp_118 : decode b_JobProcess_runOwnOp 118 = .ok (.putfield 37, 3) := by decide +kernel
theorem d_JobProcess_runOwnOp_121 : decode b_JobProcess_runOwnOp 121 = .ok (.aload_n 0, 1) := by decide +kernel
theorem d_JobProcess_runOwnOp_122 : decode b_JobProcess_runOwnOp 122 = .ok (.dup, 1) := by decide +kernel
theorem d_JobProcess_runOwnOp_123 : decode b_JobProcess_runOwnOp 123 = .ok (.getfield 31, 3) := by decide +kernel
theorem d_JobProcess_runOwnOp_126 : decode b_JobProcess_runOwnOp 126 = .ok (.aload_n 0, 1) := by decide +kernel
theorem d_JobProcess_runOwnOp_127 : decode b_JobProcess_runOwnOp 127 = .ok (.getfield 37, 3) := by decide +kernel
theorem d_JobProcess_runOwnOp_130 : decode b_JobProcess_runOwnOp 130 = .ok (.iconst (-1), 1) := by decide +kernel
theorem d_JobProcess_runOwnOp_131 : decode b_JobProcess_runOwnOp 131 = .ok (.ixor, 1) := by decide +kernel
theorem d_JobProcess_runOwnOp_132 : decode b_JobProcess_runOwnOp 132 = .ok (.iand, 1) := by decide +kernel
theorem d_JobProcess_runOwnOp_133 : decode b_JobProcess_runOwnOp 133 = .ok (.putfield 31, 3) := by decide +kernel
theorem d_JobProcess_runOwnOp_136 : decode b_JobProcess_runOwnOp 136 = .ok (.goto 74, 3) := by decide +kernel
theorem d_JobProcess_runOwnOp_139 : decode b_JobProcess_runOwnOp 139 = .ok (.aload_n 0, 1) := by decide +kernel
theorem d_JobProcess_runOwnOp_140 : decode b_JobProcess_runOwnOp 140 = .ok (.iload_n 2, 1) := by decide +kernel
theorem d_JobProcess_runOwnOp_141 : decode b_JobProcess_runOwnOp 141 = .ok (.bipush 7, 2) := by decide +kernel
theorem d_JobProcess_runOwnOp_143 : decode b_JobProcess_runOwnOp 143 = .ok (.iand, 1) := by decide +kernel
theorem d_JobProcess_runOwnOp_144 : decode b_JobProcess_runOwnOp 144 = .ok (.putfield 40, 3) := by decide +kernel
theorem d_JobProcess_runOwnOp_147 : decode b_JobProcess_runOwnOp 147 = .ok (.goto 63, 3) := by decide +kernel
theorem d_JobProcess_runOwnOp_150 : decode b_JobProcess_runOwnOp 150 = .ok (.iload_n 2, 1) := by decide +kernel
theorem d_JobProcess_runOwnOp_151 : decode b_JobProcess_runOwnOp 151 = .ok (.bipush 15, 2) := by decide +kernel
theorem d_JobProcess_runOwnOp_153 : decode b_JobProcess_runOwnOp 153 = .ok (.iand, 1) := by decide +kernel
theorem d_JobProcess_runOwnOp_154 : decode b_JobProcess_runOwnOp 154 = .ok (.bipush 9, 2) := by decide +kernel
theorem d_JobProcess_runOwnOp_156 : decode b_JobProcess_runOwnOp 156 = .ok (.if_icmp .gt 54, 3) := by decide +kernel
theorem d_JobProcess_runOwnOp_159 : decode b_JobProcess_runOwnOp 159 = .ok (.aload_n 0, 1) := by decide +kernel
theorem d_JobProcess_runOwnOp_160 : decode b_JobProcess_runOwnOp 160 = .ok (.iload_n 2, 1) := by decide +kernel
theorem d_JobProcess_runOwnOp_161 : decode b_JobProcess_runOwnOp 161 = .ok (.bipush 15, 2) := by decide +kernel
theorem d_JobProcess_runOwnOp_163 : decode b_JobProcess_runOwnOp 163 = .ok (.iand, 1) := by decide +kernel
theorem d_JobProcess_runOwnOp_164 : decode b_JobProcess_runOwnOp 164 = .ok (.invokevirtual 55, 3) := by decide +kernel
theorem d_JobProcess_runOwnOp_167 : decode b_JobProcess_runOwnOp 167 = .ok (.goto 43, 3) := by decide +kernel
theorem d_JobProcess_runOwnOp_170 : decode b_JobProcess_runOwnOp 170 = .ok (.aload_n 0, 1) := by decide +kernel
theorem d_JobProcess_runOwnOp_171 : decode b_JobProcess_runOwnOp 171 = .ok (.iload_n 2, 1) := by decide +kernel
theorem d_JobProcess_runOwnOp_172 : decode b_JobProcess_runOwnOp 172 = .ok (.putfield 25, 3) := by decide +kernel
theorem d_JobProcess_runOwnOp_175 : decode b_JobProcess_runOwnOp 175 = .ok (.goto 35, 3) := by decide +kernel
theorem d_JobProcess_runOwnOp_178 : decode b_JobProcess_runOwnOp 178 = .ok (.aload_n 0, 1) := by decide +kernel
theorem d_JobProcess_runOwnOp_179 : decode b_JobProcess_runOwnOp 179 = .ok (.dup, 1) := by decide +kernel
theorem d_JobProcess_runOwnOp_180 : decode b_JobProcess_runOwnOp 180 = .ok (.getfield 25, 3) := by decide +kernel
theorem d_JobProcess_runOwnOp_183 : decode b_JobProcess_runOwnOp 183 = .ok (.iload_n 2, 1) := by decide +kernel
theorem d_JobProcess_runOwnOp_184 : decode b_JobProcess_runOwnOp 184 = .ok (.iadd, 1) := by decide +kernel
theorem d_JobProcess_runOwnOp_185 : decode b_JobProcess_runOwnOp 185 = .ok (.putfield 25, 3) := by decide +kernel
theorem d_JobProcess_runOwnOp_188 : decode b_JobProcess_runOwnOp 188 = .ok (.goto 22, 3) := by decide +kernel
theorem d_JobProcess_runOwnOp_191 : decode b_JobProcess_runOwnOp 191 = .ok (.aload_n 0, 1) := by decide +kernel
theorem d_JobProcess_runOwnOp_192 : decode b_JobProcess_runOwnOp 192 = .ok (.iconst 3, 1) := by decide +kernel
theorem d_JobProcess_runOwnOp_193 : decode b_JobProcess_runOwnOp 193 = .ok (.putfield 15, 3) := by decide +kernel
theorem d_JobProcess_runOwnOp_196 : decode b_JobProcess_runOwnOp 196 = .ok (.aload_n 0, 1) := by decide +kernel
theorem d_JobProcess_runOwnOp_197 : decode b_JobProcess_runOwnOp 197 = .ok (.iload_n 2, 1) := by decide +kernel
theorem d_JobProcess_runOwnOp_198 : decode b_JobProcess_runOwnOp 198 = .ok (.sipush 255, 3) := by decide +kernel
theorem d_JobProcess_runOwnOp_201 : decode b_JobProcess_runOwnOp 201 = .ok (.iand, 1) := by decide +kernel
theorem d_JobProcess_runOwnOp_202 : decode b_JobProcess_runOwnOp 202 = .ok (.putfield 28, 3) := by decide +kernel
theorem d_JobProcess_runOwnOp_205 : decode b_JobProcess_runOwnOp 205 = .ok (.aload_n 0, 1) := by decide +kernel
theorem d_JobProcess_runOwnOp_206 : decode b_JobProcess_runOwnOp 206 = .ok (.iload_n 3, 1) := by decide +kernel
theorem d_JobProcess_runOwnOp_207 : decode b_JobProcess_runOwnOp 207 = .ok (.putfield 22, 3) := by decide +kernel
theorem d_JobProcess_runOwnOp_210 : decode b_JobProcess_runOwnOp 210 = .ok (.return_, 1) := by decide +kernel
theorem d_NumberRow_init_0 : decode b_NumberRow_init 0 = .ok (.aload_n 0, 1) := by decide +kernel
theorem d_NumberRow_init_1 : decode b_NumberRow_init 1 = .ok (.invokespecial 3, 3) := by decide +kernel
theorem d_NumberRow_init_4 : decode b_NumberRow_init 4 = .ok (.aload_n 0, 1) := by decide +kernel
theorem d_NumberRow_init_5 : decode b_NumberRow_init 5 = .ok (.iload_n 1, 1) := by decide +kernel
theorem d_NumberRow_init_6 : decode b_NumberRow_init 6 = .ok (.iconst 0, 1) := by decide +kernel
theorem d_NumberRow_init_7 : decode b_NumberRow_init 7 = .ok (.invokestatic 9, 3) := by decide +kernel
theorem d_NumberRow_init_10 : decode b_NumberRow_init 10 = .ok (.newarray .int, 2) := by decide +kernel
theorem d_NumberRow_init_12 : decode b_NumberRow_init 12 = .ok (.putfield 15, 3) := by decide +kernel
theorem d_NumberRow_init_15 : decode b_NumberRow_init 15 = .ok (.return_, 1) := by decide +kernel
theorem d_NumberRow_hasRoomFor_0 : decode b_NumberRow_hasRoomFor 0 = .ok (.aload_n 0, 1) := by decide +kernel
theorem d_NumberRow_hasRoomFor_1 : decode b_NumberRow_hasRoomFor 1 = .ok (.getfield 21, 3) := by decide +kernel
theorem d_NumberRow_hasRoomFor_4 : decode b_NumberRow_hasRoomFor 4 = .ok (.iload_n 1, 1) := by decide +kernel
theorem d_NumberRow_hasRoomFor_5 : decode b_NumberRow_hasRoomFor 5 = .ok (.iadd, 1) := by decide +kernel
theorem d_NumberRow_hasRoomFor_6 : decode b_NumberRow_hasRoomFor 6 = .ok (.aload_n 0, 1) := by decide +kernel
theorem d_NumberRow_hasRoomFor_7 : decode b_NumberRow_hasRoomFor 7 = .ok (.getfield 15, 3) := by decide +kernel
theorem d_NumberRow_hasRoomFor_10 : decode b_NumberRow_hasRoomFor 10 = .ok (.arraylength, 1) := by decide +kernel
theorem d_NumberRow_hasRoomFor_11 : decode b_NumberRow_hasRoomFor 11 = .ok (.if_icmp .gt 7, 3) := by decide +kernel
theorem d_NumberRow_hasRoomFor_14 : decode b_NumberRow_hasRoomFor 14 = .ok (.iconst 1, 1) := by decide +kernel
theorem d_NumberRow_hasRoomFor_15 : decode b_NumberRow_hasRoomFor 15 = .ok (.goto 4, 3) := by decide +kernel
theorem d_NumberRow_hasRoomFor_18 : decode b_NumberRow_hasRoomFor 18 = .ok (.iconst 0, 1) := by decide +kernel
theorem d_NumberRow_hasRoomFor_19 : decode b_NumberRow_hasRoomFor 19 = .ok (.ireturn, 1) := by decide +kernel
theorem d_NumberRow_putLast_0 : decode b_NumberRow_putLast 0 = .ok (.aload_n 0, 1) := by decide +kernel
theorem d_NumberRow_putLast_1 : decode b_NumberRow_putLast 1 = .ok (.getfield 21, 3) := by decide +kernel
theorem d_NumberRow_putLast_4 : decode b_NumberRow_putLast 4 = .ok (.aload_n 0, 1) := by decide +kernel
theorem d_NumberRow_putLast_5 : decode b_NumberRow_putLast 5 = .ok (.getfield 15, 3) := by decide +kernel
theorem d_NumberRow_putLast_8 : decode b_NumberRow_putLast 8 = .ok (.arraylength, 1) := by decide +kernel
theorem d_NumberRow_putLast_9 : decode b_NumberRow_putLast 9 = .ok (.if_icmp .ge 27, 3) := by decide +kernel
theorem d_NumberRow_putLast_12 : decode b_NumberRow_putLast 12 = .ok (.aload_n 0, 1) := by decide +kernel
theorem d_NumberRow_putLast_13 : decode b_NumberRow_putLast 13 = .ok (.getfield 15, 3) := by decide +kernel
theorem d_NumberRow_putLast_16 : decode b_NumberRow_putLast 16 = .ok (.aload_n 0, 1) := by decide +kernel
theorem d_NumberRow_putLast_17 : decode b_NumberRow_putLast 17 = .ok (.aload_n 0, 1) := by decide +kernel
theorem d_NumberRow_putLast_18 : decode b_NumberRow_putLast 18 = .ok (.getfield 21, 3) := by decide +kernel
theorem d_NumberRow_putLast_21 : decode b_NumberRow_putLast 21 = .ok (.invokevirtual 25, 3) := by decide +kernel
theorem d_NumberRow_putLast_24 : decode b_NumberRow_putLast 24 = .ok (.iload_n 1, 1) := by decide +kernel
theorem d_NumberRow_putLast_25 : decode b_NumberRow_putLast 25 = .ok (.iastore, 1) := by decide +kernel
theorem d_NumberRow_putLast_26 : decode b_NumberRow_putLast 26 = .ok (.aload_n 0, 1) := by decide +kernel
theorem d_NumberRow_putLast_27 : decode b_NumberRow_putLast 27 = .ok (.dup, 1) := by decide +kernel
theorem d_NumberRow_putLast_28 : decode b_NumberRow_putLast 28 = .ok (.getfield 21, 3) := by decide +kernel
theorem d_NumberRow_putLast_31 : decode b_NumberRow_putLast 31 = .ok (.iconst 1, 1) := by decide +kernel
theorem d_NumberRow_putLast_32 : decode b_NumberRow_putLast 32 = .ok (.iadd, 1) := by decide +kernel
theorem d_NumberRow_putLast_33 : decode b_NumberRow_putLast 33 = .ok (.putfield 21, 3) := by decide +kernel
theorem d_NumberRow_putLast_36 : decode b_NumberRow_putLast 36 = .ok (.return_, 1) := by decide +kernel
theorem d_NumberRow_takeOldest_0 : decode b_NumberRow_takeOldest 0 = .ok (.aload_n 0, 1) := by decide +kernel
theorem d_NumberRow_takeOldest_1 : decode b_NumberRow_takeOldest 1 = .ok (.getfield 21, 3) := by decide +kernel
theorem d_NumberRow_takeOldest_4 : decode b_NumberRow_takeOldest 4 = .ok (.ifCond .ne 5, 3) := by decide +kernel
theorem d_NumberRow_takeOldest_7 : decode b_NumberRow_takeOldest 7 = .ok (.iconst (-1), 1) := by decide +kernel
theorem d_NumberRow_takeOldest_8 : decode b_NumberRow_takeOldest 8 = .ok (.ireturn, 1) := by decide +kernel
theorem d_NumberRow_takeOldest_9 : decode b_NumberRow_takeOldest 9 = .ok (.aload_n 0, 1) := by decide +kernel
theorem d_NumberRow_takeOldest_10 : decode b_NumberRow_takeOldest 10 = .ok (.getfield 15, 3) := by decide +kernel
theorem d_NumberRow_takeOldest_13 : decode b_NumberRow_takeOldest 13 = .ok (.aload_n 0, 1) := by decide +kernel
theorem d_NumberRow_takeOldest_14 : decode b_NumberRow_takeOldest 14 = .ok (.getfield 29, 3) := by decide +kernel
theorem d_NumberRow_takeOldest_17 : decode b_NumberRow_takeOldest 17 = .ok (.iaload, 1) := by decide +kernel
theorem d_NumberRow_takeOldest_18 : decode b_NumberRow_takeOldest 18 = .ok (.istore_n 1, 1) := by decide +kernel
theorem d_NumberRow_takeOldest_19 : decode b_NumberRow_takeOldest 19 = .ok (.aload_n 0, 1) := by decide +kernel
theorem d_NumberRow_takeOldest_20 : decode b_NumberRow_takeOldest 20 = .ok (.aload_n 0, 1) := by decide +kernel
theorem d_NumberRow_takeOldest_21 : decode b_NumberRow_takeOldest 21 = .ok (.iconst 1, 1) := by decide +kernel
theorem d_NumberRow_takeOldest_22 : decode b_NumberRow_takeOldest 22 = .ok (.invokevirtual 25, 3) := by decide +kernel
theorem d_NumberRow_takeOldest_25 : decode b_NumberRow_takeOldest 25 = .ok (.putfield 29, 3) := by decide +kernel
theorem d_NumberRow_takeOldest_28 : decode b_NumberRow_takeOldest 28 = .ok (.aload_n 0, 1) := by decide +kernel
theorem d_NumberRow_takeOldest_29 : decode b_NumberRow_takeOldest 29 = .ok (.dup, 1) := by decide +kernel
theorem d_NumberRow_takeOldest_30 : decode b_NumberRow_takeOldest 30 = .ok (.getfield 21, 3) := by decide +kernel
theorem d_NumberRow_takeOldest_33 : decode b_NumberRow_takeOldest 33 = .ok (.iconst 1, 1) := by decide +kernel
theorem d_NumberRow_takeOldest_34 : decode b_NumberRow_takeOldest 34 = .ok (.isub, 1) := by decide +kernel
theorem d_NumberRow_takeOldest_35 : decode b_NumberRow_takeOldest 35 = .ok (.putfield 21, 3) := by decide +kernel
theorem d_NumberRow_takeOldest_38 : decode b_NumberRow_takeOldest 38 = .ok (.iload_n 1, 1) := by decide +kernel
theorem d_NumberRow_takeOldest_39 : decode b_NumberRow_takeOldest 39 = .ok (.ireturn, 1) := by decide +kernel
theorem d_NumberRow_takeLatest_0 : decode b_NumberRow_takeLatest 0 = .ok (.aload_n 0, 1) := by decide +kernel
theorem d_NumberRow_takeLatest_1 : decode b_NumberRow_takeLatest 1 = .ok (.getfield 21, 3) := by decide +kernel
theorem d_NumberRow_takeLatest_4 : decode b_NumberRow_takeLatest 4 = .ok (.ifCond .ne 5, 3) := by decide +kernel
theorem d_NumberRow_takeLatest_7 : decode b_NumberRow_takeLatest 7 = .ok (.iconst (-1), 1) := by decide +kernel
theorem d_NumberRow_takeLatest_8 : decode b_NumberRow_takeLatest 8 = .ok (.ireturn, 1) := by decide +kernel
theorem d_NumberRow_takeLatest_9 : decode b_NumberRow_takeLatest 9 = .ok (.aload_n 0, 1) := by decide +kernel
theorem d_NumberRow_takeLatest_10 : decode b_NumberRow_takeLatest 10 = .ok (.dup, 1) := by decide +kernel
theorem d_NumberRow_takeLatest_11 : decode b_NumberRow_takeLatest 11 = .ok (.getfield 21, 3) := by decide +kernel
theorem d_NumberRow_takeLatest_14 : decode b_NumberRow_takeLatest 14 = .ok (.iconst 1, 1) := by decide +kernel
theorem d_NumberRow_takeLatest_15 : decode b_NumberRow_takeLatest 15 = .ok (.isub, 1) := by decide +kernel
theorem d_NumberRow_takeLatest_16 : decode b_NumberRow_takeLatest 16 = .ok (.putfield 21, 3) := by decide +kernel
theorem d_NumberRow_takeLatest_19 : decode b_NumberRow_takeLatest 19 = .ok (.aload_n 0, 1) := by decide +kernel
theorem d_NumberRow_takeLatest_20 : decode b_NumberRow_takeLatest 20 = .ok (.getfield 15, 3) := by decide +kernel
theorem d_NumberRow_takeLatest_23 : decode b_NumberRow_takeLatest 23 = .ok (.aload_n 0, 1) := by decide +kernel
theorem d_NumberRow_takeLatest_24 : decode b_NumberRow_takeLatest 24 = .ok (.aload_n 0, 1) := by decide +kernel
theorem d_NumberRow_takeLatest_25 : decode b_NumberRow_takeLatest 25 = .ok (.getfield 21, 3) := by decide +kernel
theorem d_NumberRow_takeLatest_28 : decode b_NumberRow_takeLatest 28 = .ok (.invokevirtual 25, 3) := by decide +kernel
theorem d_NumberRow_takeLatest_31 : decode b_NumberRow_takeLatest 31 = .ok (.iaload, 1) := by decide +kernel
theorem d_NumberRow_takeLatest_32 : decode b_NumberRow_takeLatest 32 = .ok (.ireturn, 1) := by decide +kernel
theorem d_NumberRow_clear_0 : decode b_NumberRow_clear 0 = .ok (.aload_n 0, 1) := by decide +kernel
theorem d_NumberRow_clear_1 : decode b_NumberRow_clear 1 = .ok (.iconst 0, 1) := by decide +kernel
theorem d_NumberRow_clear_2 : decode b_NumberRow_clear 2 = .ok (.putfield 21, 3) := by decide +kernel
theorem d_NumberRow_clear_5 : decode b_NumberRow_clear 5 = .ok (.return_, 1) := by decide +kernel
theorem d_NumberRow_placeOf_0 : decode b_NumberRow_placeOf 0 = .ok (.aload_n 0, 1) := by decide +kernel
theorem d_NumberRow_placeOf_1 : decode b_NumberRow_placeOf 1 = .ok (.getfield 29, 3) := by decide +kernel
theorem d_NumberRow_placeOf_4 : decode b_NumberRow_placeOf 4 = .ok (.iload_n 1, 1) := by decide +kernel
theorem d_NumberRow_placeOf_5 : decode b_NumberRow_placeOf 5 = .ok (.iadd, 1) := by decide +kernel
theorem d_NumberRow_placeOf_6 : decode b_NumberRow_placeOf 6 = .ok (.istore_n 2, 1) := by decide +kernel
theorem d_NumberRow_placeOf_7 : decode b_NumberRow_placeOf 7 = .ok (.iload_n 2, 1) := by decide +kernel
theorem d_NumberRow_placeOf_8 : decode b_NumberRow_placeOf 8 = .ok (.aload_n 0, 1) := by decide +kernel
theorem d_NumberRow_placeOf_9 : decode b_NumberRow_placeOf 9 = .ok (.getfield 15, 3) := by decide +kernel
theorem d_NumberRow_placeOf_12 : decode b_NumberRow_placeOf 12 = .ok (.arraylength, 1) := by decide +kernel
theorem d_NumberRow_placeOf_13 : decode b_NumberRow_placeOf 13 = .ok (.if_icmp .lt 13, 3) := by decide +kernel
theorem d_NumberRow_placeOf_16 : decode b_NumberRow_placeOf 16 = .ok (.iload_n 2, 1) := by decide +kernel
theorem d_NumberRow_placeOf_17 : decode b_NumberRow_placeOf 17 = .ok (.aload_n 0, 1) := by decide +kernel
theorem d_NumberRow_placeOf_18 : decode b_NumberRow_placeOf 18 = .ok (.getfield 15, 3) := by decide +kernel
theorem d_NumberRow_placeOf_21 : decode b_NumberRow_placeOf 21 = .ok (.arraylength, 1) := by decide +kernel
theorem d_NumberRow_placeOf_22 : decode b_NumberRow_placeOf 22 = .ok (.isub, 1) := by decide +kernel
theorem d_NumberRow_placeOf_23 : decode b_NumberRow_placeOf 23 = .ok (.goto 4, 3) := by decide +kernel
theorem d_NumberRow_placeOf_26 : decode b_NumberRow_placeOf 26 = .ok (.iload_n 2, 1) := by decide +kernel
theorem d_NumberRow_placeOf_27 : decode b_NumberRow_placeOf 27 = .ok (.ireturn, 1) := by decide +kernel
theorem d_Programs_init_0 : decode b_Programs_init 0 = .ok (.aload_n 0, 1) := by decide +kernel
theorem d_Programs_init_1 : decode b_Programs_init 1 = .ok (.invokespecial 3, 3) := by decide +kernel
theorem d_Programs_init_4 : decode b_Programs_init 4 = .ok (.aload_n 0, 1) := by decide +kernel
theorem d_Programs_init_5 : decode b_Programs_init 5 = .ok (.bipush 64, 2) := by decide +kernel
theorem d_Programs_init_7 : decode b_Programs_init 7 = .ok (.newarray .int, 2) := by decide +kernel
theorem d_Programs_init_9 : decode b_Programs_init 9 = .ok (.putfield 11, 3) := by decide +kernel
theorem d_Programs_init_12 : decode b_Programs_init 12 = .ok (.aload_n 0, 1) := by decide +kernel
theorem d_Programs_init_13 : decode b_Programs_init 13 = .ok (.bipush 64, 2) := by decide +kernel
theorem d_Programs_init_15 : decode b_Programs_init 15 = .ok (.newarray .int, 2) := by decide +kernel
theorem d_Programs_init_17 : decode b_Programs_init 17 = .ok (.putfield 15, 3) := by decide +kernel
theorem d_Programs_init_20 : decode b_Programs_init 20 = .ok (.return_, 1) := by decide +kernel
theorem d_Programs_hasProgram_0 : decode b_Programs_hasProgram 0 = .ok (.iload_n 0, 1) := by decide +kernel
theorem d_Programs_hasProgram_1 : decode b_Programs_hasProgram 1 = .ok (.ifCond .lt 12, 3) := by decide +kernel
theorem d_Programs_hasProgram_4 : decode b_Programs_hasProgram 4 = .ok (.iload_n 0, 1) := by decide +kernel
theorem d_Programs_hasProgram_5 : decode b_Programs_hasProgram 5 = .ok (.iconst 4, 1) := by decide +kernel
theorem d_Programs_hasProgram_6 : decode b_Programs_hasProgram 6 = .ok (.if_icmp .ge 7, 3) := by decide +kernel
theorem d_Programs_hasProgram_9 : decode b_Programs_hasProgram 9 = .ok (.iconst 1, 1) := by decide +kernel
theorem d_Programs_hasProgram_10 : decode b_Programs_hasProgram 10 = .ok (.goto 4, 3) := by decide +kernel
theorem d_Programs_hasProgram_13 : decode b_Programs_hasProgram 13 = .ok (.iconst 0, 1) := by decide +kernel
theorem d_Programs_hasProgram_14 : decode b_Programs_hasProgram 14 = .ok (.ireturn, 1) := by decide +kernel
theorem d_Programs_hasLine_0 : decode b_Programs_hasLine 0 = .ok (.iload_n 0, 1) := by decide +kernel
theorem d_Programs_hasLine_1 : decode b_Programs_hasLine 1 = .ok (.ifCond .lt 13, 3) := by decide +kernel
theorem d_Programs_hasLine_4 : decode b_Programs_hasLine 4 = .ok (.iload_n 0, 1) := by decide +kernel
theorem d_Programs_hasLine_5 : decode b_Programs_hasLine 5 = .ok (.bipush 16, 2) := by decide +kernel
theorem d_Programs_hasLine_7 : decode b_Programs_hasLine 7 = .ok (.if_icmp .ge 7, 3) := by decide +kernel
theorem d_Programs_hasLine_10 : decode b_Programs_hasLine 10 = .ok (.iconst 1, 1) := by decide +kernel
theorem d_Programs_hasLine_11 : decode b_Programs_hasLine 11 = .ok (.goto 4, 3) := by decide +kernel
theorem d_Programs_hasLine_14 : decode b_Programs_hasLine 14 = .ok (.iconst 0, 1) := by decide +kernel
theorem d_Programs_hasLine_15 : decode b_Programs_hasLine 15 = .ok (.ireturn, 1) := by decide +kernel
theorem d_Programs_setLine_0 : decode b_Programs_setLine 0 = .ok (.iload_n 1, 1) := by decide +kernel
theorem d_Programs_setLine_1 : decode b_Programs_setLine 1 = .ok (.invokestatic 18, 3) := by decide +kernel
theorem d_Programs_setLine_4 : decode b_Programs_setLine 4 = .ok (.ifCond .eq 35, 3) := by decide +kernel
theorem d_Programs_setLine_7 : decode b_Programs_setLine 7 = .ok (.iload_n 2, 1) := by decide +kernel
theorem d_Programs_setLine_8 : decode b_Programs_setLine 8 = .ok (.invokestatic 22, 3) := by decide +kernel
theorem d_Programs_setLine_11 : decode b_Programs_setLine 11 = .ok (.ifCond .eq 28, 3) := by decide +kernel
theorem d_Programs_setLine_14 : decode b_Programs_setLine 14 = .ok (.aload_n 0, 1) := by decide +kernel
theorem d_Programs_setLine_15 : decode b_Programs_setLine 15 = .ok (.getfield 11, 3) := by decide +kernel
theorem d_Programs_setLine_18 : decode b_Programs_setLine 18 = .ok (.iload_n 1, 1) := by decide +kernel
theorem d_Programs_setLine_19 : decode b_Programs_setLine 19 = .ok (.bipush 16, 2) := by decide +kernel
theorem d_Programs_setLine_21 : decode b_Programs_setLine 21 = .ok (.imul, 1) := by decide +kernel
theorem d_Programs_setLine_22 : decode b_Programs_setLine 22 = .ok (.iload_n 2, 1) := by decide +kernel
theorem d_Programs_setLine_23 : decode b_Programs_setLine 23 = .ok (.iadd, 1) := by decide +kernel
theorem d_Programs_setLine_24 : decode b_Programs_setLine 24 = .ok (.iload_n 3, 1) := by decide +kernel
theorem d_Programs_setLine_25 : decode b_Programs_setLine 25 = .ok (.iastore, 1) := by decide +kernel
theorem d_Programs_setLine_26 : decode b_Programs_setLine 26 = .ok (.aload_n 0, 1) := by decide +kernel
theorem d_Programs_setLine_27 : decode b_Programs_setLine 27 = .ok (.getfield 15, 3) := by decide +kernel
theorem d_Programs_setLine_30 : decode b_Programs_setLine 30 = .ok (.iload_n 1, 1) := by decide +kernel
theorem d_Programs_setLine_31 : decode b_Programs_setLine 31 = .ok (.bipush 16, 2) := by decide +kernel
theorem d_Programs_setLine_33 : decode b_Programs_setLine 33 = .ok (.imul, 1) := by decide +kernel
theorem d_Programs_setLine_34 : decode b_Programs_setLine 34 = .ok (.iload_n 2, 1) := by decide +kernel
theorem d_Programs_setLine_35 : decode b_Programs_setLine 35 = .ok (.iadd, 1) := by decide +kernel
theorem d_Programs_setLine_36 : decode b_Programs_setLine 36 = .ok (.iload 4, 2) := by decide +kernel
theorem d_Programs_setLine_38 : decode b_Programs_setLine 38 = .ok (.iastore, 1) := by decide +kernel
theorem d_Programs_setLine_39 : decode b_Programs_setLine 39 = .ok (.return_, 1) := by decide +kernel
theorem d_Programs_opAt_0 : decode b_Programs_opAt 0 = .ok (.iload_n 1, 1) := by decide +kernel
theorem d_Programs_opAt_1 : decode b_Programs_opAt 1 = .ok (.invokestatic 18, 3) := by decide +kernel
theorem d_Programs_opAt_4 : decode b_Programs_opAt 4 = .ok (.ifCond .eq 10, 3) := by decide +kernel
theorem d_Programs_opAt_7 : decode b_Programs_opAt 7 = .ok (.iload_n 2, 1) := by decide +kernel
theorem d_Programs_opAt_8 : decode b_Programs_opAt 8 = .ok (.invokestatic 22, 3) := by decide +kernel
theorem d_Programs_opAt_11 : decode b_Programs_opAt 11 = .ok (.ifCond .ne 5, 3) := by decide +kernel
theorem d_Programs_opAt_14 : decode b_Programs_opAt 14 = .ok (.iconst 0, 1) := by decide +kernel
theorem d_Programs_opAt_15 : decode b_Programs_opAt 15 = .ok (.ireturn, 1) := by decide +kernel
theorem d_Programs_opAt_16 : decode b_Programs_opAt 16 = .ok (.aload_n 0, 1) := by decide +kernel
theorem d_Programs_opAt_17 : decode b_Programs_opAt 17 = .ok (.getfield 11, 3) := by decide +kernel
theorem d_Programs_opAt_20 : decode b_Programs_opAt 20 = .ok (.iload_n 1, 1) := by decide +kernel
theorem d_Programs_opAt_21 : decode b_Programs_opAt 21 = .ok (.bipush 16, 2) := by decide +kernel
theorem d_Programs_opAt_23 : decode b_Programs_opAt 23 = .ok (.imul, 1) := by decide +kernel
theorem d_Programs_opAt_24 : decode b_Programs_opAt 24 = .ok (.iload_n 2, 1) := by decide +kernel
theorem d_Programs_opAt_25 : decode b_Programs_opAt 25 = .ok (.iadd, 1) := by decide +kernel
theorem d_Programs_opAt_26 : decode b_Programs_opAt 26 = .ok (.iaload, 1) := by decide +kernel
theorem d_Programs_opAt_27 : decode b_Programs_opAt 27 = .ok (.istore_n 3, 1) := by decide +kernel
theorem d_Programs_opAt_28 : decode b_Programs_opAt 28 = .ok (.iload_n 3, 1) := by decide +kernel
theorem d_Programs_opAt_29 : decode b_Programs_opAt 29 = .ok (.ifCond .lt 9, 3) := by decide +kernel
theorem d_Programs_opAt_32 : decode b_Programs_opAt 32 = .ok (.iload_n 3, 1) := by decide +kernel
theorem d_Programs_opAt_33 : decode b_Programs_opAt 33 = .ok (.bipush 11, 2) := by decide +kernel
theorem d_Programs_opAt_35 : decode b_Programs_opAt 35 = .ok (.if_icmp .le 7, 3) := by decide +kernel
theorem d_Programs_opAt_38 : decode b_Programs_opAt 38 = .ok (.iconst 0, 1) := by decide +kernel
theorem d_Programs_opAt_39 : decode b_Programs_opAt 39 = .ok (.goto 4, 3) := by decide +kernel
theorem d_Programs_opAt_42 : decode b_Programs_opAt 42 = .ok (.iload_n 3, 1) := by decide +kernel
theorem d_Programs_opAt_43 : decode b_Programs_opAt 43 = .ok (.ireturn, 1) := by decide +kernel
theorem d_Programs_numberAt_0 : decode b_Programs_numberAt 0 = .ok (.iload_n 1, 1) := by decide +kernel
theorem d_Programs_numberAt_1 : decode b_Programs_numberAt 1 = .ok (.invokestatic 18, 3) := by decide +kernel
theorem d_Programs_numberAt_4 : decode b_Programs_numberAt 4 = .ok (.ifCond .eq 24, 3) := by decide +kernel
theorem d_Programs_numberAt_7 : decode b_Programs_numberAt 7 = .ok (.iload_n 2, 1) := by decide +kernel
theorem d_Programs_numberAt_8 : decode b_Programs_numberAt 8 = .ok (.invokestatic 22, 3) := by decide +kernel
theorem d_Programs_numberAt_11 : decode b_Programs_numberAt 11 = .ok (.ifCond .eq 17, 3) := by decide +kernel
theorem d_Programs_numberAt_14 : decode b_Programs_numberAt 14 = .ok (.aload_n 0, 1) := by decide +kernel
theorem d_Programs_numberAt_15 : decode b_Programs_numberAt 15 = .ok (.getfield 15, 3) := by decide +kernel
theorem d_Programs_numberAt_18 : decode b_Programs_numberAt 18 = .ok (.iload_n 1, 1) := by decide +kernel
theorem d_Programs_numberAt_19 : decode b_Programs_numberAt 19 = .ok (.bipush 16, 2) := by decide +kernel
theorem d_Programs_numberAt_21 : decode b_Programs_numberAt 21 = .ok (.imul, 1) := by decide +kernel
theorem d_Programs_numberAt_22 : decode b_Programs_numberAt 22 = .ok (.iload_n 2, 1) := by decide +kernel
theorem d_Programs_numberAt_23 : decode b_Programs_numberAt 23 = .ok (.iadd, 1) := by decide +kernel
theorem d_Programs_numberAt_24 : decode b_Programs_numberAt 24 = .ok (.iaload, 1) := by decide +kernel
theorem d_Programs_numberAt_25 : decode b_Programs_numberAt 25 = .ok (.goto 4, 3) := by decide +kernel
theorem d_Programs_numberAt_28 : decode b_Programs_numberAt 28 = .ok (.iconst 0, 1) := by decide +kernel
theorem d_Programs_numberAt_29 : decode b_Programs_numberAt 29 = .ok (.ireturn, 1) := by decide +kernel
theorem d_Terminal_init_0 : decode b_Terminal_init 0 = .ok (.aload_n 0, 1) := by decide +kernel
theorem d_Terminal_init_1 : decode b_Terminal_init 1 = .ok (.invokespecial 3, 3) := by decide +kernel
theorem d_Terminal_init_4 : decode b_Terminal_init 4 = .ok (.aload_n 0, 1) := by decide +kernel
theorem d_Terminal_init_5 : decode b_Terminal_init 5 = .ok (.new 9, 3) := by decide +kernel
theorem d_Terminal_init_8 : decode b_Terminal_init 8 = .ok (.dup, 1) := by decide +kernel
theorem d_Terminal_init_9 : decode b_Terminal_init 9 = .ok (.bipush 20, 2) := by decide +kernel
theorem d_Terminal_init_11 : decode b_Terminal_init 11 = .ok (.invokespecial 13, 3) := by decide +kernel
theorem d_Terminal_init_14 : decode b_Terminal_init 14 = .ok (.putfield 16, 3) := by decide +kernel
theorem d_Terminal_init_17 : decode b_Terminal_init 17 = .ok (.aload_n 0, 1) := by decide +kernel
theorem d_Terminal_init_18 : decode b_Terminal_init 18 = .ok (.new 9, 3) := by decide +kernel
theorem d_Terminal_init_21 : decode b_Terminal_init 21 = .ok (.dup, 1) := by decide +kernel
theorem d_Terminal_init_22 : decode b_Terminal_init 22 = .ok (.bipush 40, 2) := by decide +kernel
theorem d_Terminal_init_24 : decode b_Terminal_init 24 = .ok (.invokespecial 13, 3) := by decide +kernel
theorem d_Terminal_init_27 : decode b_Terminal_init 27 = .ok (.putfield 20, 3) := by decide +kernel
theorem d_Terminal_init_30 : decode b_Terminal_init 30 = .ok (.aload_n 0, 1) := by decide +kernel
theorem d_Terminal_init_31 : decode b_Terminal_init 31 = .ok (.new 23, 3) := by decide +kernel
theorem d_Terminal_init_34 : decode b_Terminal_init 34 = .ok (.dup, 1) := by decide +kernel
theorem d_Terminal_init_35 : decode b_Terminal_init 35 = .ok (.invokespecial 25, 3) := by decide +kernel
theorem d_Terminal_init_38 : decode b_Terminal_init 38 = .ok (.putfield 26, 3) := by decide +kernel
theorem d_Terminal_init_41 : decode b_Terminal_init 41 = .ok (.aload_n 0, 1) := by decide +kernel
theorem d_Terminal_init_42 : decode b_Terminal_init 42 = .ok (.bipush 47, 2) := by decide +kernel
theorem d_Terminal_init_44 : decode b_Terminal_init 44 = .ok (.putfield 30, 3) := by decide +kernel
theorem d_Terminal_init_47 : decode b_Terminal_init 47 = .ok (.aload_n 0, 1) := by decide +kernel
theorem d_Terminal_init_48 : decode b_Terminal_init 48 = .ok (.iconst 0, 1) := by decide +kernel
theorem d_Terminal_init_49 : decode b_Terminal_init 49 = .ok (.putfield 34, 3) := by decide +kernel
theorem d_Terminal_init_52 : decode b_Terminal_init 52 = .ok (.return_, 1) := by decide +kernel
theorem d_Terminal_has_0 : decode b_Terminal_has 0 = .ok (.aload_n 0, 1) := by decide +kernel
theorem d_Terminal_has_1 : decode b_Terminal_has 1 = .ok (.getfield 30, 3) := by decide +kernel
theorem d_Terminal_has_4 : decode b_Terminal_has 4 = .ok (.iload_n 1, 1) := by decide +kernel
theorem d_Terminal_has_5 : decode b_Terminal_has 5 = .ok (.iand, 1) := by decide +kernel
theorem d_Terminal_has_6 : decode b_Terminal_has 6 = .ok (.ifCond .eq 7, 3) := by decide +kernel
theorem d_Terminal_has_9 : decode b_Terminal_has 9 = .ok (.iconst 1, 1) := by decide +kernel
theorem d_Terminal_has_10 : decode b_Terminal_has 10 = .ok (.goto 4, 3) := by decide +kernel
theorem d_Terminal_has_13 : decode b_Terminal_has 13 = .ok (.iconst 0, 1) := by decide +kernel
theorem d_Terminal_has_14 : decode b_Terminal_has 14 = .ok (.ireturn, 1) := by decide +kernel
theorem d_Terminal_hangUp_0 : decode b_Terminal_hangUp 0 = .ok (.aload_n 0, 1) := by decide +kernel
theorem d_Terminal_hangUp_1 : decode b_Terminal_hangUp 1 = .ok (.iconst 1, 1) := by decide +kernel
theorem d_Terminal_hangUp_2 : decode b_Terminal_hangUp 2 = .ok (.putfield 34, 3) := by decide +kernel
theorem d_Terminal_hangUp_5 : decode b_Terminal_hangUp 5 = .ok (.aload_n 0, 1) := by decide +kernel
theorem d_Terminal_hangUp_6 : decode b_Terminal_hangUp 6 = .ok (.getfield 16, 3) := by decide +kernel
theorem d_Terminal_hangUp_9 : decode b_Terminal_hangUp 9 = .ok (.invokevirtual 38, 3) := by decide +kernel
theorem d_Terminal_hangUp_12 : decode b_Terminal_hangUp 12 = .ok (.aload_n 0, 1) := by decide +kernel
theorem d_Terminal_hangUp_13 : decode b_Terminal_hangUp 13 = .ok (.getfield 20, 3) := by decide +kernel
theorem d_Terminal_hangUp_16 : decode b_Terminal_hangUp 16 = .ok (.invokevirtual 38, 3) := by decide +kernel
theorem d_Terminal_hangUp_19 : decode b_Terminal_hangUp 19 = .ok (.return_, 1) := by decide +kernel
theorem d_Terminal_translate_0 : decode b_Terminal_translate 0 = .ok (.iload_n 1, 1) := by decide +kernel
theorem d_Terminal_translate_1 : decode b_Terminal_translate 1 = .ok (.bipush 13, 2) := by decide +kernel
theorem d_Terminal_translate_3 : decode b_Terminal_translate 3 = .ok (.if_icmp .ne 17, 3) := by decide +kernel
theorem d_Terminal_translate_6 : decode b_Terminal_translate 6 = .ok (.aload_n 0, 1) := by decide +kernel
theorem d_Terminal_translate_7 : decode b_Terminal_translate 7 = .ok (.bipush 8, 2) := by decide +kernel
theorem d_Terminal_translate_9 : decode b_Terminal_translate 9 = .ok (.invokevirtual 41, 3) := by decide +kernel
theorem d_Terminal_translate_12 : decode b_Terminal_translate 12 = .ok (.ifCond .eq 8, 3) := by decide +kernel
theorem d_Terminal_translate_15 : decode b_Terminal_translate 15 = .ok (.bipush 10, 2) := by decide +kernel
theorem d_Terminal_translate_17 : decode b_Terminal_translate 17 = .ok (.goto 4, 3) := by decide +kernel
theorem d_Terminal_translate_20 : decode b_Terminal_translate 20 = .ok (.iload_n 1, 1) := by decide +kernel
theorem d_Terminal_translate_21 : decode b_Terminal_translate 21 = .ok (.ireturn, 1) := by decide +kernel
theorem d_Terminal_signalFor_0 : decode b_Terminal_signalFor 0 = .ok (.aload_n 0, 1) := by decide +kernel
theorem d_Terminal_signalFor_1 : decode b_Terminal_signalFor 1 = .ok (.iconst 4, 1) := by decide +kernel
theorem d_Terminal_signalFor_2 : decode b_Terminal_signalFor 2 = .ok (.invokevirtual 41, 3) := by decide +kernel
theorem d_Terminal_signalFor_5 : decode b_Terminal_signalFor 5 = .ok (.ifCond .ne 5, 3) := by decide +kernel
theorem d_Terminal_signalFor_8 : decode b_Terminal_signalFor 8 = .ok (.iconst (-1), 1) := by decide +kernel
theorem d_Terminal_signalFor_9 : decode b_Terminal_signalFor 9 = .ok (.ireturn, 1) := by decide +kernel
theorem d_Terminal_signalFor_10 : decode b_Terminal_signalFor 10 = .ok (.iload_n 1, 1) := by decide +kernel
theorem d_Terminal_signalFor_11 : decode b_Terminal_signalFor 11 = .ok (.lookupswitch 40 #[(3, 33), (26, 37), (28, 35)], 33) := by decide +kernel
theorem d_Terminal_signalFor_44 : decode b_Terminal_signalFor 44 = .ok (.iconst 1, 1) := by decide +kernel
theorem d_Terminal_signalFor_45 : decode b_Terminal_signalFor 45 = .ok (.ireturn, 1) := by decide +kernel
theorem d_Terminal_signalFor_46 : decode b_Terminal_signalFor 46 = .ok (.iconst 2, 1) := by decide +kernel
theorem d_Terminal_signalFor_47 : decode b_Terminal_signalFor 47 = .ok (.ireturn, 1) := by decide +kernel
theorem d_Terminal_signalFor_48 : decode b_Terminal_signalFor 48 = .ok (.bipush 7, 2) := by decide +kernel
theorem d_Terminal_signalFor_50 : decode b_Terminal_signalFor 50 = .ok (.ireturn, 1) := by decide +kernel
theorem d_Terminal_signalFor_51 : decode b_Terminal_signalFor 51 = .ok (.iconst (-1), 1) := by decide +kernel
theorem d_Terminal_signalFor_52 : decode b_Terminal_signalFor 52 = .ok (.ireturn, 1) := by decide +kernel
theorem d_Terminal_dropEdit_0 : decode b_Terminal_dropEdit 0 = .ok (.aload_n 0, 1) := by decide +kernel
theorem d_Terminal_dropEdit_1 : decode b_Terminal_dropEdit 1 = .ok (.iload_n 1, 1) := by decide +kernel
theorem d_Terminal_dropEdit_2 : decode b_Terminal_dropEdit 2 = .ok (.invokevirtual 45, 3) := by decide +kernel
theorem d_Terminal_dropEdit_5 : decode b_Terminal_dropEdit 5 = .ok (.aload_n 0, 1) := by decide +kernel
theorem d_Terminal_dropEdit_6 : decode b_Terminal_dropEdit 6 = .ok (.getfield 16, 3) := by decide +kernel
theorem d_Terminal_dropEdit_9 : decode b_Terminal_dropEdit 9 = .ok (.invokevirtual 38, 3) := by decide +kernel
theorem d_Terminal_dropEdit_12 : decode b_Terminal_dropEdit 12 = .ok (.return_, 1) := by decide +kernel
theorem d_Terminal_type_0 : decode b_Terminal_type 0 = .ok (.aload_n 0, 1) := by decide +kernel
theorem d_Terminal_type_1 : decode b_Terminal_type 1 = .ok (.iconst 1, 1) := by decide +kernel
theorem d_Terminal_type_2 : decode b_Terminal_type 2 = .ok (.invokevirtual 41, 3) := by decide +kernel
theorem d_Terminal_type_5 : decode b_Terminal_type 5 = .ok (.ifCond .ne 9, 3) := by decide +kernel
theorem d_Terminal_type_8 : decode b_Terminal_type 8 = .ok (.aload_n 0, 1) := by decide +kernel
theorem d_Terminal_type_9 : decode b_Terminal_type 9 = .ok (.iload_n 1, 1) := by decide +kernel
theorem d_Terminal_type_10 : decode b_Terminal_type 10 = .ok (.invokevirtual 48, 3) := by decide +kernel
theorem d_Terminal_type_13 : decode b_Terminal_type 13 = .ok (.ireturn, 1) := by decide +kernel
theorem d_Terminal_type_14 : decode b_Terminal_type 14 = .ok (.iload_n 1, 1) := by decide +kernel
theorem d_Terminal_type_15 : decode b_Terminal_type 15 = .ok (.lookupswitch 66 #[(4, 56), (10, 61), (21, 48), (127, 41)], 41) := by decide +kernel
theorem d_Terminal_type_56 : decode b_Terminal_type 56 = .ok (.aload_n 0, 1) := by decide +kernel
theorem d_Terminal_type_57 : decode b_Terminal_type 57 = .ok (.iconst 1, 1) := by decide +kernel
theorem d_Terminal_type_58 : decode b_Terminal_type 58 = .ok (.invokevirtual 51, 3) := by decide +kernel
theorem d_Terminal_type_61 : decode b_Terminal_type 61 = .ok (.iconst 1, 1) := by decide +kernel
theorem d_Terminal_type_62 : decode b_Terminal_type 62 = .ok (.ireturn, 1) := by decide +kernel
theorem d_Terminal_type_63 : decode b_Terminal_type 63 = .ok (.aload_n 0, 1) := by decide +kernel
theorem d_Terminal_type_64 : decode b_Terminal_type 64 = .ok (.bipush 20, 2) := by decide +kernel
theorem d_Terminal_type_66 : decode b_Terminal_type 66 = .ok (.invokevirtual 51, 3) := by decide +kernel
theorem d_Terminal_type_69 : decode b_Terminal_type 69 = .ok (.iconst 1, 1) := by decide +kernel
theorem d_Terminal_type_70 : decode b_Terminal_type 70 = .ok (.ireturn, 1) := by decide +kernel
theorem d_Terminal_type_71 : decode b_Terminal_type 71 = .ok (.aload_n 0, 1) := by decide +kernel
theorem d_Terminal_type_72 : decode b_Terminal_type 72 = .ok (.invokevirtual 54, 3) := by decide +kernel
theorem d_Terminal_type_75 : decode b_Terminal_type 75 = .ok (.ireturn, 1) := by decide +kernel
theorem d_Terminal_type_76 : decode b_Terminal_type 76 = .ok (.aload_n 0, 1) := by decide +kernel
theorem d_Terminal_type_77 : decode b_Terminal_type 77 = .ok (.invokevirtual 58, 3) := by decide +kernel
theorem d_Terminal_type_80 : decode b_Terminal_type 80 = .ok (.ireturn, 1) := by decide +kernel
theorem d_Terminal_type_81 : decode b_Terminal_type 81 = .ok (.aload_n 0, 1) := by decide +kernel
theorem d_Terminal_type_82 : decode b_Terminal_type 82 = .ok (.iload_n 1, 1) := by decide +kernel
theorem d_Terminal_type_83 : decode b_Terminal_type 83 = .ok (.invokevirtual 61, 3) := by decide +kernel
theorem d_Terminal_type_86 : decode b_Terminal_type 86 = .ok (.ireturn, 1) := by decide +kernel
theorem d_Terminal_typeUnedited_0 : decode b_Terminal_typeUnedited 0 = .ok (.aload_n 0, 1) := by decide +kernel
theorem d_Terminal_typeUnedited_1 : decode b_Terminal_typeUnedited 1 = .ok (.getfield 20, 3) := by decide +kernel
theorem d_Terminal_typeUnedited_4 : decode b_Terminal_typeUnedited 4 = .ok (.iconst 1, 1) := by decide +kernel
theorem d_Terminal_typeUnedited_5 : decode b_Terminal_typeUnedited 5 = .ok (.invokevirtual 64, 3) := by decide +kernel
theorem d_Terminal_typeUnedited_8 : decode b_Terminal_typeUnedited 8 = .ok (.ifCond .ne 5, 3) := by decide +kernel
theorem d_Terminal_typeUnedited_11 : decode b_Terminal_typeUnedited 11 = .ok (.iconst 0, 1) := by decide +kernel
theorem d_Terminal_typeUnedited_12 : decode b_Terminal_typeUnedited 12 = .ok (.ireturn, 1) := by decide +kernel
theorem d_Terminal_typeUnedited_13 : decode b_Terminal_typeUnedited 13 = .ok (.aload_n 0, 1) := by decide +kernel
theorem d_Terminal_typeUnedited_14 : decode b_Terminal_typeUnedited 14 = .ok (.getfield 20, 3) := by decide +kernel
theorem d_Terminal_typeUnedited_17 : decode b_Terminal_typeUnedited 17 = .ok (.iload_n 1, 1) := by decide +kernel
theorem d_Terminal_typeUnedited_18 : decode b_Terminal_typeUnedited 18 = .ok (.invokevirtual 67, 3) := by decide +kernel
theorem d_Terminal_typeUnedited_21 : decode b_Terminal_typeUnedited 21 = .ok (.aload_n 0, 1) := by decide +kernel
theorem d_Terminal_typeUnedited_22 : decode b_Terminal_typeUnedited 22 = .ok (.iload_n 1, 1) := by decide +kernel
theorem d_Terminal_typeUnedited_23 : decode b_Terminal_typeUnedited 23 = .ok (.invokevirtual 45, 3) := by decide +kernel
theorem d_Terminal_typeUnedited_26 : decode b_Terminal_typeUnedited 26 = .ok (.iconst 1, 1) := by decide +kernel
theorem d_Terminal_typeUnedited_27 : decode b_Terminal_typeUnedited 27 = .ok (.ireturn, 1) := by decide +kernel
theorem d_Terminal_addToEdit_0 : decode b_Terminal_addToEdit 0 = .ok (.aload_n 0, 1) := by decide +kernel
theorem d_Terminal_addToEdit_1 : decode b_Terminal_addToEdit 1 = .ok (.getfield 16, 3) := by decide +kernel
theorem d_Terminal_addToEdit_4 : decode b_Terminal_addToEdit 4 = .ok (.iconst 1, 1) := by decide +kernel
theorem d_Terminal_addToEdit_5 : decode b_Terminal_addToEdit 5 = .ok (.invokevirtual 64, 3) := by decide +kernel
theorem d_Terminal_addToEdit_8 : decode b_Terminal_addToEdit 8 = .ok (.ifCond .ne 5, 3) := by decide +kernel
theorem d_Terminal_addToEdit_11 : decode b_Terminal_addToEdit 11 = .ok (.iconst 0, 1) := by decide +kernel
theorem d_Terminal_addToEdit_12 : decode b_Terminal_addToEdit 12 = .ok (.ireturn, 1) := by decide +kernel
theorem d_Terminal_addToEdit_13 : decode b_Terminal_addToEdit 13 = .ok (.aload_n 0, 1) := by decide +kernel
theorem d_Terminal_addToEdit_14 : decode b_Terminal_addToEdit 14 = .ok (.getfield 16, 3) := by decide +kernel
theorem d_Terminal_addToEdit_17 : decode b_Terminal_addToEdit 17 = .ok (.iload_n 1, 1) := by decide +kernel
theorem d_Terminal_addToEdit_18 : decode b_Terminal_addToEdit 18 = .ok (.invokevirtual 67, 3) := by decide +kernel
theorem d_Terminal_addToEdit_21 : decode b_Terminal_addToEdit 21 = .ok (.aload_n 0, 1) := by decide +kernel
theorem d_Terminal_addToEdit_22 : decode b_Terminal_addToEdit 22 = .ok (.iload_n 1, 1) := by decide +kernel
theorem d_Terminal_addToEdit_23 : decode b_Terminal_addToEdit 23 = .ok (.invokevirtual 45, 3) := by decide +kernel
theorem d_Terminal_addToEdit_26 : decode b_Terminal_addToEdit 26 = .ok (.iconst 1, 1) := by decide +kernel
theorem d_Terminal_addToEdit_27 : decode b_Terminal_addToEdit 27 = .ok (.ireturn, 1) := by decide +kernel
theorem d_Terminal_endInput_0 : decode b_Terminal_endInput 0 = .ok (.aload_n 0, 1) := by decide +kernel
theorem d_Terminal_endInput_1 : decode b_Terminal_endInput 1 = .ok (.getfield 16, 3) := by decide +kernel
theorem d_Terminal_endInput_4 : decode b_Terminal_endInput 4 = .ok (.getfield 70, 3) := by decide +kernel
theorem d_Terminal_endInput_7 : decode b_Terminal_endInput 7 = .ok (.ifCond .le 9, 3) := by decide +kernel
theorem d_Terminal_endInput_10 : decode b_Terminal_endInput 10 = .ok (.aload_n 0, 1) := by decide +kernel
theorem d_Terminal_endInput_11 : decode b_Terminal_endInput 11 = .ok (.iconst 0, 1) := by decide +kernel
theorem d_Terminal_endInput_12 : decode b_Terminal_endInput 12 = .ok (.invokevirtual 73, 3) := by decide +kernel
theorem d_Terminal_endInput_15 : decode b_Terminal_endInput 15 = .ok (.ireturn, 1) := by decide +kernel
theorem d_Terminal_endInput_16 : decode b_Terminal_endInput 16 = .ok (.aload_n 0, 1) := by decide +kernel
theorem d_Terminal_endInput_17 : decode b_Terminal_endInput 17 = .ok (.getfield 20, 3) := by decide +kernel
theorem d_Terminal_endInput_20 : decode b_Terminal_endInput 20 = .ok (.iconst 1, 1) := by decide +kernel
theorem d_Terminal_endInput_21 : decode b_Terminal_endInput 21 = .ok (.invokevirtual 64, 3) := by decide +kernel
theorem d_Terminal_endInput_24 : decode b_Terminal_endInput 24 = .ok (.ifCond .ne 5, 3) := by decide +kernel
theorem d_Terminal_endInput_27 : decode b_Terminal_endInput 27 = .ok (.iconst 0, 1) := by decide +kernel
theorem d_Terminal_endInput_28 : decode b_Terminal_endInput 28 = .ok (.ireturn, 1) := by decide +kernel
theorem d_Terminal_endInput_29 : decode b_Terminal_endInput 29 = .ok (.aload_n 0, 1) := by decide +kernel
theorem d_Terminal_endInput_30 : decode b_Terminal_endInput 30 = .ok (.getfield 20, 3) := by decide +kernel
theorem d_Terminal_endInput_33 : decode b_Terminal_endInput 33 = .ok (.iconst (-1), 1) := by decide +kernel
theorem d_Terminal_endInput_34 : decode b_Terminal_endInput 34 = .ok (.invokevirtual 67, 3) := by decide +kernel
theorem d_Terminal_endInput_37 : decode b_Terminal_endInput 37 = .ok (.iconst 1, 1) := by decide +kernel
theorem d_Terminal_endInput_38 : decode b_Terminal_endInput 38 = .ok (.ireturn, 1) := by decide +kernel
theorem d_Terminal_endLine_0 : decode b_Terminal_endLine 0 = .ok (.aload_n 0, 1) := by decide +kernel
theorem d_Terminal_endLine_1 : decode b_Terminal_endLine 1 = .ok (.iconst 1, 1) := by decide +kernel
theorem d_Terminal_endLine_2 : decode b_Terminal_endLine 2 = .ok (.invokevirtual 73, 3) := by decide +kernel
theorem d_Terminal_endLine_5 : decode b_Terminal_endLine 5 = .ok (.ifCond .ne 5, 3) := by decide +kernel
theorem d_Terminal_endLine_8 : decode b_Terminal_endLine 8 = .ok (.iconst 0, 1) := by decide +kernel
theorem d_Terminal_endLine_9 : decode b_Terminal_endLine 9 = .ok (.ireturn, 1) := by decide +kernel
theorem d_Terminal_endLine_10 : decode b_Terminal_endLine 10 = .ok (.aload_n 0, 1) := by decide +kernel
theorem d_Terminal_endLine_11 : decode b_Terminal_endLine 11 = .ok (.getfield 20, 3) := by decide +kernel
theorem d_Terminal_endLine_14 : decode b_Terminal_endLine 14 = .ok (.bipush 10, 2) := by decide +kernel
theorem d_Terminal_endLine_16 : decode b_Terminal_endLine 16 = .ok (.invokevirtual 67, 3) := by decide +kernel
theorem d_Terminal_endLine_19 : decode b_Terminal_endLine 19 = .ok (.aload_n 0, 1) := by decide +kernel
theorem d_Terminal_endLine_20 : decode b_Terminal_endLine 20 = .ok (.bipush 10, 2) := by decide +kernel
theorem d_Terminal_endLine_22 : decode b_Terminal_endLine 22 = .ok (.invokevirtual 45, 3) := by decide +kernel
theorem d_Terminal_endLine_25 : decode b_Terminal_endLine 25 = .ok (.iconst 1, 1) := by decide +kernel
theorem d_Terminal_endLine_26 : decode b_Terminal_endLine 26 = .ok (.ireturn, 1) := by decide +kernel
theorem d_Terminal_queueEdit_0 : decode b_Terminal_queueEdit 0 = .ok (.aload_n 0, 1) := by decide +kernel
theorem d_Terminal_queueEdit_1 : decode b_Terminal_queueEdit 1 = .ok (.getfield 20, 3) := by decide +kernel
theorem d_Terminal_queueEdit_4 : decode b_Terminal_queueEdit 4 = .ok (.aload_n 0, 1) := by decide +kernel
theorem d_Terminal_queueEdit_5 : decode b_Terminal_queueEdit 5 = .ok (.getfield 16, 3) := by decide +kernel
theorem d_Terminal_queueEdit_8 : decode b_Terminal_queueEdit 8 = .ok (.getfield 70, 3) := by decide +kernel
theorem d_Terminal_queueEdit_11 : decode b_Terminal_queueEdit 11 = .ok (.iload_n 1, 1) := by decide +kernel
theorem d_Terminal_queueEdit_12 : decode b_Terminal_queueEdit 12 = .ok (.iadd, 1) := by decide +kernel
theorem d_Terminal_queueEdit_13 : decode b_Terminal_queueEdit 13 = .ok (.invokevirtual 64, 3) := by decide +kernel
theorem d_Terminal_queueEdit_16 : decode b_Terminal_queueEdit 16 = .ok (.ifCond .ne 5, 3) := by decide +kernel
theorem d_Terminal_queueEdit_19 : decode b_Terminal_queueEdit 19 = .ok (.iconst 0, 1) := by decide +kernel
theorem d_Terminal_queueEdit_20 : decode b_Terminal_queueEdit 20 = .ok (.ireturn, 1) := by decide +kernel
theorem d_Terminal_queueEdit_21 : decode b_Terminal_queueEdit 21 = .ok (.iconst 0, 1) := by decide +kernel
theorem d_Terminal_queueEdit_22 : decode b_Terminal_queueEdit 22 = .ok (.istore_n 2, 1) := by decide +kernel
theorem d_Terminal_queueEdit_23 : decode b_Terminal_queueEdit 23 = .ok (.iload_n 2, 1) := by decide +kernel
theorem d_Terminal_queueEdit_24 : decode b_Terminal_queueEdit 24 = .ok (.bipush 20, 2) := by decide +kernel
theorem d_Terminal_queueEdit_26 : decode b_Terminal_queueEdit 26 = .ok (.if_icmp .ge 33, 3) := by decide +kernel
theorem d_Terminal_queueEdit_29 : decode b_Terminal_queueEdit 29 = .ok (.aload_n 0, 1) := by decide +kernel
theorem d_Terminal_queueEdit_30 : decode b_Terminal_queueEdit 30 = .ok (.getfield 16, 3) := by decide +kernel
theorem d_Terminal_queueEdit_33 : decode b_Terminal_queueEdit 33 = .ok (.getfield 70, 3) := by decide +kernel
theorem d_Terminal_queueEdit_36 : decode b_Terminal_queueEdit 36 = .ok (.ifCond .le 23, 3) := by decide +kernel
theorem d_Terminal_queueEdit_39 : decode b_Terminal_queueEdit 39 = .ok (.aload_n 0, 1) := by decide +kernel
theorem d_Terminal_queueEdit_40 : decode b_Terminal_queueEdit 40 = .ok (.getfield 20, 3) := by decide +kernel
theorem d_Terminal_queueEdit_43 : decode b_Terminal_queueEdit 43 = .ok (.aload_n 0, 1) := by decide +kernel
theorem d_Terminal_queueEdit_44 : decode b_Terminal_queueEdit 44 = .ok (.getfield 16, 3) := by decide +kernel
theorem d_Terminal_queueEdit_47 : decode b_Terminal_queueEdit 47 = .ok (.invokevirtual 76, 3) := by decide +kernel
theorem d_Terminal_queueEdit_50 : decode b_Terminal_queueEdit 50 = .ok (.invokevirtual 67, 3) := by decide +kernel
theorem d_Terminal_queueEdit_53 : decode b_Terminal_queueEdit 53 = .ok (.iinc 2 1, 3) := by decide +kernel
theorem d_Terminal_queueEdit_56 : decode b_Terminal_queueEdit 56 = .ok (.goto (-33), 3) := by decide +kernel
theorem d_Terminal_queueEdit_59 : decode b_Terminal_queueEdit 59 = .ok (.iconst 1, 1) := by decide +kernel
theorem d_Terminal_queueEdit_60 : decode b_Terminal_queueEdit 60 = .ok (.ireturn, 1) := by decide +kernel
theorem d_Terminal_rubOut_0 : decode b_Terminal_rubOut 0 = .ok (.iconst 0, 1) := by decide +kernel
theorem d_Terminal_rubOut_1 : decode b_Terminal_rubOut 1 = .ok (.istore_n 2, 1) := by decide +kernel
theorem d_Terminal_rubOut_2 : decode b_Terminal_rubOut 2 = .ok (.iload_n 2, 1) := by decide +kernel
theorem d_Terminal_rubOut_3 : decode b_Terminal_rubOut 3 = .ok (.iload_n 1, 1) := by decide +kernel
theorem d_Terminal_rubOut_4 : decode b_Terminal_rubOut 4 = .ok (.if_icmp .ge 49, 3) := by decide +kernel
theorem d_Terminal_rubOut_7 : decode b_Terminal_rubOut 7 = .ok (.aload_n 0, 1) := by decide +kernel
theorem d_Terminal_rubOut_8 : decode b_Terminal_rubOut 8 = .ok (.getfield 16, 3) := by decide +kernel
theorem d_Terminal_rubOut_11 : decode b_Terminal_rubOut 11 = .ok (.getfield 70, 3) := by decide +kernel
theorem d_Terminal_rubOut_14 : decode b_Terminal_rubOut 14 = .ok (.ifCond .le 39, 3) := by decide +kernel
theorem d_Terminal_rubOut_17 : decode b_Terminal_rubOut 17 = .ok (.aload_n 0, 1) := by decide +kernel
theorem d_Terminal_rubOut_18 : decode b_Terminal_rubOut 18 = .ok (.getfield 16, 3) := by decide +kernel
theorem d_Terminal_rubOut_21 : decode b_Terminal_rubOut 21 = .ok (.invokevirtual 80, 3) := by decide +kernel
theorem d_Terminal_rubOut_24 : decode b_Terminal_rubOut 24 = .ok (.istore_n 3, 1) := by decide +kernel
theorem d_Terminal_rubOut_25 : decode b_Terminal_rubOut 25 = .ok (.aload_n 0, 1) := by decide +kernel
theorem d_Terminal_rubOut_26 : decode b_Terminal_rubOut 26 = .ok (.iconst 2, 1) := by decide +kernel
theorem d_Terminal_rubOut_27 : decode b_Terminal_rubOut 27 = .ok (.invokevirtual 41, 3) := by decide +kernel
theorem d_Terminal_rubOut_30 : decode b_Terminal_rubOut 30 = .ok (.ifCond .eq 17, 3) := by decide +kernel
theorem d_Terminal_rubOut_33 : decode b_Terminal_rubOut 33 = .ok (.aload_n 0, 1) := by decide +kernel
theorem d_Terminal_rubOut_34 : decode b_Terminal_rubOut 34 = .ok (.invokevirtual 83, 3) := by decide +kernel
theorem d_Terminal_rubOut_37 : decode b_Terminal_rubOut 37 = .ok (.iload_n 3, 1) := by decide +kernel
theorem d_Terminal_rubOut_38 : decode b_Terminal_rubOut 38 = .ok (.bipush 32, 2) := by decide +kernel
theorem d_Terminal_rubOut_40 : decode b_Terminal_rubOut 40 = .ok (.if_icmp .ge 7, 3) := by decide +kernel
theorem d_Terminal_rubOut_43 : decode b_Terminal_rubOut 43 = .ok (.aload_n 0, 1) := by decide +kernel
theorem d_Terminal_rubOut_44 : decode b_Terminal_rubOut 44 = .ok (.invokevirtual 83, 3) := by decide +kernel
theorem d_Terminal_rubOut_47 : decode b_Terminal_rubOut 47 = .ok (.iinc 2 1, 3) := by decide +kernel
theorem d_Terminal_rubOut_50 : decode b_Terminal_rubOut 50 = .ok (.goto (-48), 3) := by decide +kernel
theorem d_Terminal_rubOut_53 : decode b_Terminal_rubOut 53 = .ok (.return_, 1) := by decide +kernel
theorem d_Terminal_showRubbing_0 : decode b_Terminal_showRubbing 0 = .ok (.aload_n 0, 1) := by decide +kernel
theorem d_Terminal_showRubbing_1 : decode b_Terminal_showRubbing 1 = .ok (.bipush 8, 2) := by decide +kernel
theorem d_Terminal_showRubbing_3 : decode b_Terminal_showRubbing 3 = .ok (.invokevirtual 86, 3) := by decide +kernel
theorem d_Terminal_showRubbing_6 : decode b_Terminal_showRubbing 6 = .ok (.aload_n 0, 1) := by decide +kernel
theorem d_Terminal_showRubbing_7 : decode b_Terminal_showRubbing 7 = .ok (.bipush 32, 2) := by decide +kernel
theorem d_Terminal_showRubbing_9 : decode b_Terminal_showRubbing 9 = .ok (.invokevirtual 86, 3) := by decide +kernel
theorem d_Terminal_showRubbing_12 : decode b_Terminal_showRubbing 12 = .ok (.aload_n 0, 1) := by decide +kernel
theorem d_Terminal_showRubbing_13 : decode b_Terminal_showRubbing 13 = .ok (.bipush 8, 2) := by decide +kernel
theorem d_Terminal_showRubbing_15 : decode b_Terminal_showRubbing 15 = .ok (.invokevirtual 86, 3) := by decide +kernel
theorem d_Terminal_showRubbing_18 : decode b_Terminal_showRubbing 18 = .ok (.return_, 1) := by decide +kernel
theorem d_Terminal_echo_0 : decode b_Terminal_echo 0 = .ok (.aload_n 0, 1) := by decide +kernel
theorem d_Terminal_echo_1 : decode b_Terminal_echo 1 = .ok (.iconst 2, 1) := by decide +kernel
theorem d_Terminal_echo_2 : decode b_Terminal_echo 2 = .ok (.invokevirtual 41, 3) := by decide +kernel
theorem d_Terminal_echo_5 : decode b_Terminal_echo 5 = .ok (.ifCond .ne 4, 3) := by decide +kernel
theorem d_Terminal_echo_8 : decode b_Terminal_echo 8 = .ok (.return_, 1) := by decide +kernel
theorem d_Terminal_echo_9 : decode b_Terminal_echo 9 = .ok (.iload_n 1, 1) := by decide +kernel
theorem d_Terminal_echo_10 : decode b_Terminal_echo 10 = .ok (.bipush 10, 2) := by decide +kernel
theorem d_Terminal_echo_12 : decode b_Terminal_echo 12 = .ok (.if_icmp .eq 15, 3) := by decide +kernel
theorem d_Terminal_echo_15 : decode b_Terminal_echo 15 = .ok (.iload_n 1, 1) := by decide +kernel
theorem d_Terminal_echo_16 : decode b_Terminal_echo 16 = .ok (.bipush 32, 2) := by decide +kernel
theorem d_Terminal_echo_18 : decode b_Terminal_echo 18 = .ok (.if_icmp .lt 15, 3) := by decide +kernel
theorem d_Terminal_echo_21 : decode b_Terminal_echo 21 = .ok (.iload_n 1, 1) := by decide +kernel
theorem d_Terminal_echo_22 : decode b_Terminal_echo 22 = .ok (.bipush 127, 2) := by decide +kernel
theorem d_Terminal_echo_24 : decode b_Terminal_echo 24 = .ok (.if_icmp .eq 9, 3) := by decide +kernel
theorem d_Terminal_echo_27 : decode b_Terminal_echo 27 = .ok (.aload_n 0, 1) := by decide +kernel
theorem d_Terminal_echo_28 : decode b_Terminal_echo 28 = .ok (.iload_n 1, 1) := by decide +kernel
theorem d_Terminal_echo_29 : decode b_Terminal_echo 29 = .ok (.invokevirtual 86, 3) := by decide +kernel
theorem d_Terminal_echo_32 : decode b_Terminal_echo 32 = .ok (.return_, 1) := by decide +kernel
theorem d_Terminal_echo_33 : decode b_Terminal_echo 33 = .ok (.aload_n 0, 1) := by decide +kernel
theorem d_Terminal_echo_34 : decode b_Terminal_echo 34 = .ok (.bipush 94, 2) := by decide +kernel
theorem d_Terminal_echo_36 : decode b_Terminal_echo 36 = .ok (.invokevirtual 86, 3) := by decide +kernel
theorem d_Terminal_echo_39 : decode b_Terminal_echo 39 = .ok (.aload_n 0, 1) := by decide +kernel
theorem d_Terminal_echo_40 : decode b_Terminal_echo 40 = .ok (.iload_n 1, 1) := by decide +kernel
theorem d_Terminal_echo_41 : decode b_Terminal_echo 41 = .ok (.bipush 127, 2) := by decide +kernel
theorem d_Terminal_echo_43 : decode b_Terminal_echo 43 = .ok (.if_icmp .ne 8, 3) := by decide +kernel
theorem d_Terminal_echo_46 : decode b_Terminal_echo 46 = .ok (.bipush 63, 2) := by decide +kernel
theorem d_Terminal_echo_48 : decode b_Terminal_echo 48 = .ok (.goto 7, 3) := by decide +kernel
theorem d_Terminal_echo_51 : decode b_Terminal_echo 51 = .ok (.bipush 64, 2) := by decide +kernel
theorem d_Terminal_echo_53 : decode b_Terminal_echo 53 = .ok (.iload_n 1, 1) := by decide +kernel
theorem d_Terminal_echo_54 : decode b_Terminal_echo 54 = .ok (.iadd, 1) := by decide +kernel
theorem d_Terminal_echo_55 : decode b_Terminal_echo 55 = .ok (.invokevirtual 86, 3) := by decide +kernel
theorem d_Terminal_echo_58 : decode b_Terminal_echo 58 = .ok (.return_, 1) := by decide +kernel
theorem d_Terminal_show_0 : decode b_Terminal_show 0 = .ok (.iload_n 1, 1) := by decide +kernel
theorem d_Terminal_show_1 : decode b_Terminal_show 1 = .ok (.bipush 10, 2) := by decide +kernel
theorem d_Terminal_show_3 : decode b_Terminal_show 3 = .ok (.if_icmp .ne 21, 3) := by decide +kernel
theorem d_Terminal_show_6 : decode b_Terminal_show 6 = .ok (.aload_n 0, 1) := by decide +kernel
theorem d_Terminal_show_7 : decode b_Terminal_show 7 = .ok (.bipush 32, 2) := by decide +kernel
theorem d_Terminal_show_9 : decode b_Terminal_show 9 = .ok (.invokevirtual 41, 3) := by decide +kernel
theorem d_Terminal_show_12 : decode b_Terminal_show 12 = .ok (.ifCond .eq 12, 3) := by decide +kernel
theorem d_Terminal_show_15 : decode b_Terminal_show 15 = .ok (.aload_n 0, 1) := by decide +kernel
theorem d_Terminal_show_16 : decode b_Terminal_show 16 = .ok (.getfield 26, 3) := by decide +kernel
theorem d_Terminal_show_19 : decode b_Terminal_show 19 = .ok (.bipush 13, 2) := by decide +kernel
theorem d_Terminal_show_21 : decode b_Terminal_show 21 = .ok (.invokevirtual 89, 3) := by decide +kernel
theorem d_Terminal_show_24 : decode b_Terminal_show 24 = .ok (.aload_n 0, 1) := by decide +kernel
theorem d_Terminal_show_25 : decode b_Terminal_show 25 = .ok (.getfield 26, 3) := by decide +kernel
theorem d_Terminal_show_28 : decode b_Terminal_show 28 = .ok (.iload_n 1, 1) := by decide +kernel
theorem d_Terminal_show_29 : decode b_Terminal_show 29 = .ok (.invokevirtual 89, 3) := by decide +kernel
theorem d_Terminal_show_32 : decode b_Terminal_show 32 = .ok (.return_, 1) := by decide +kernel
end
section
/-! WORLD C: its cells, as a table over a state -/
def q_rl (r : Nat) : Nat := if r = 0 then 20 else if r = 1 then 40 else 4
abbrev tyL (cs : Nat → ClassId) : List (ClassId × FieldType) := [(cs 0, .int), (cs 1, .boolean), (cs 2, .object "JobTerminal$JobProcess"), (cs 3, .object "JobTerminal$Job"), (cs 4, .long)]
def e_C_JT (ad : Nat → Nat) (cs : Nat → ClassId) (σ : q_St) (i : Nat) : va_E := .inr (6, [.ref (ad 1), .ref (ad 4), .ref (ad 5), .ref (ad 6), q_rv ad 17 (σ 20 0), .int (σ 21 0)])
def e_C_Programs (ad : Nat → Nat) (cs : Nat → ClassId) (σ : q_St) (i : Nat) : va_E := .inr (4, [.ref (ad 2), .ref (ad 3)])
def e_C_ops (ad : Nat → Nat) (cs : Nat → ClassId) (σ : q_St) (i : Nat) : va_E := .inl (cs 0, 64, .inl (σ 0))
def e_C_nums (ad : Nat → Nat) (cs : Nat → ClassId) (σ : q_St) (i : Nat) : va_E := .inl (cs 0, 64, .inl (σ 1))
def e_C_procs (ad : Nat → Nat) (cs : Nat → ClassId) (σ : q_St) (i : Nat) : va_E := .inl (cs 2, 8, .inr (.inr (.inr (.inr (fun j => some (ad (9 + j)))))))
def e_C_jobs (ad : Nat → Nat) (cs : Nat → ClassId) (σ : q_St) (i : Nat) : va_E := .inl (cs 3, 4, .inr (.inr (.inr (.inr (fun j => some (ad (17 + j)))))))
def e_C_Terminal (ad : Nat → Nat) (cs : Nat → ClassId) (σ : q_St) (i : Nat) : va_E := .inr (5, [.ref (ad (21 + 0)), .ref (ad (21 + 1)), .ref (ad 7), .int (σ 22 0), .int (σ 23 0)])
def e_C_Display (ad : Nat → Nat) (cs : Nat → ClassId) (σ : q_St) (i : Nat) : va_E := .inr (0, [.ref (ad 8), .int (σ 24 0), .int (σ 25 0)])
def e_C_codes (ad : Nat → Nat) (cs : Nat → ClassId) (σ : q_St) (i : Nat) : va_E := .inl (cs 0, 100, .inl (σ 2))
def e_C_JobProcess (ad : Nat → Nat) (cs : Nat → ClassId) (σ : q_St) (i : Nat) : va_E := .inr (2, [q_rv ad 17 (σ 32 i), .int (σ 33 i), .int (σ 34 i), .int (σ 35 i), .int (σ 36 i), .int (σ 37 i), .int (σ 38 i), .int (σ 39 i), .int (σ 40 i), .int (σ 41 i)])
def e_C_Job (ad : Nat → Nat) (cs : Nat → ClassId) (σ : q_St) (i : Nat) : va_E := .inr (1, [.int (nI i), .ref (ad (21 + (2 + i))), q_rv ad 9 (σ 28 i), q_rv ad 9 (σ 29 i), .int (σ 30 i), .int (σ 31 i)])
def e_C_NumberRow (ad : Nat → Nat) (cs : Nat → ClassId) (σ : q_St) (i : Nat) : va_E := .inr (3, [.ref (ad (27 + i)), .int (σ 26 i), .int (σ 27 i)])
def e_C_rowarr (ad : Nat → Nat) (cs : Nat → ClassId) (σ : q_St) (i : Nat) : va_E := .inl (cs 0, (q_rl i), .inl (σ (10 + i)))
def cC (ad : Nat → Nat) (cs : Nat → ClassId) (σ : q_St) (k : Nat) : va_E := if k < 1 then e_C_JT ad cs σ (k - 0) else if k < 2 then e_C_Programs ad cs σ (k - 1) else if k < 3 then e_C_ops ad cs σ (k - 2) else if k < 4 then e_C_nums ad cs σ (k - 3) else if k < 5 then e_C_procs ad cs σ (k - 4) else if k < 6 then e_C_jobs ad cs σ (k - 5) else if k < 7 then e_C_Terminal ad cs σ (k - 6) else if k < 8 then e_C_Display ad cs σ (k - 7) else if k < 9 then e_C_codes ad cs σ (k - 8) else if k < 17 then e_C_JobProcess ad cs σ (k - 9) else if k < 21 then e_C_Job ad cs σ (k - 17) else if k < 27 then e_C_NumberRow ad cs σ (k - 21) else if k < 33 then e_C_rowarr ad cs σ (k - 27) else .inr (0, [])
theorem a_C_JT {ad : Nat → Nat} {cs : Nat → ClassId} {σ : q_St} : cC ad cs σ 0 = e_C_JT ad cs σ 0 := by unfold cC; rw [if_pos (by omega)]
theorem a_C_Programs {ad : Nat → Nat} {cs : Nat → ClassId} {σ : q_St} : cC ad cs σ 1 = e_C_Programs ad cs σ 0 := by unfold cC; rw [if_neg (by omega), if_pos (by omega)]
theorem a_C_ops {ad : Nat → Nat} {cs : Nat → ClassId} {σ : q_St} : cC ad cs σ 2 = e_C_ops ad cs σ 0 := by unfold cC; rw [if_neg (by omega), if_neg (by omega), if_pos (by omega)]
theorem a_C_nums {ad : Nat → Nat} {cs : Nat → ClassId} {σ : q_St} : cC ad cs σ 3 = e_C_nums ad cs σ 0 := by unfold cC; rw [if_neg (by omega), if_neg (by omega), if_neg (by omega), if_pos (by omega)]
theorem a_C_procs {ad : Nat → Nat} {cs : Nat → ClassId} {σ : q_St} : cC ad cs σ 4 = e_C_procs ad cs σ 0 := by unfold cC; rw [if_neg (by omega), if_neg (by omega), if_neg (by omega), if_neg (by omega), if_pos (by omega)]
theorem a_C_jobs {ad : Nat → Nat} {cs : Nat → ClassId} {σ : q_St} : cC ad cs σ 5 = e_C_jobs ad cs σ 0 := by unfold cC; rw [if_neg (by omega), if_neg (by omega), if_neg (by omega), if_neg (by omega), if_neg (by omega), if_pos (by omega)]
theorem a_C_Terminal {ad : Nat → Nat} {cs : Nat → ClassId} {σ : q_St} : cC ad cs σ 6 = e_C_Terminal ad cs σ 0 := by unfold cC; rw [if_neg (by omega), if_neg (by omega), if_neg (by omega), if_neg (by omega), if_neg (by omega), if_neg (by omega), if_pos (by omega)]
theorem a_C_Display {ad : Nat → Nat} {cs : Nat → ClassId} {σ : q_St} : cC ad cs σ 7 = e_C_Display ad cs σ 0 := by unfold cC; rw [if_neg (by omega), if_neg (by omega), if_neg (by omega), if_neg (by omega), if_neg (by omega), if_neg (by omega), if_neg (by omega), if_pos (by omega)]
theorem a_C_codes {ad : Nat → Nat} {cs : Nat → ClassId} {σ : q_St} : cC ad cs σ 8 = e_C_codes ad cs σ 0 := by unfold cC; rw [if_neg (by omega), if_neg (by omega), if_neg (by omega), if_neg (by omega), if_neg (by omega), if_neg (by omega), if_neg (by omega), if_neg (by omega), if_pos (by omega)]
theorem a_C_JobProcess {ad : Nat → Nat} {cs : Nat → ClassId} {σ : q_St} {i : Nat} (hi : i < 8) : cC ad cs σ (9 + i) = e_C_JobProcess ad cs σ i := by unfold cC; rw [if_neg (by omega), if_neg (by omega), if_neg (by omega), if_neg (by omega), if_neg (by omega), if_neg (by omega), if_neg (by omega), if_neg (by omega), if_neg (by omega), if_pos (by omega), Nat.add_sub_cancel_left]
theorem a_C_Job {ad : Nat → Nat} {cs : Nat → ClassId} {σ : q_St} {i : Nat} (hi : i < 4) : cC ad cs σ (17 + i) = e_C_Job ad cs σ i := by unfold cC; rw [if_neg (by omega), if_neg (by omega), if_neg (by omega), if_neg (by omega), if_neg (by omega), if_neg (by omega), if_neg (by omega), if_neg (by omega), if_neg (by omega), if_neg (by omega), if_pos (by omega), Nat.add_sub_cancel_left]
theorem a_C_NumberRow {ad : Nat → Nat} {cs : Nat → ClassId} {σ : q_St} {i : Nat} (hi : i < 6) : cC ad cs σ (21 + i) = e_C_NumberRow ad cs σ i := by unfold cC; rw [if_neg (by omega), if_neg (by omega), if_neg (by omega), if_neg (by omega), if_neg (by omega), if_neg (by omega), if_neg (by omega), if_neg (by omega), if_neg (by omega), if_neg (by omega), if_neg (by omega), if_pos (by omega), Nat.add_sub_cancel_left]
theorem a_C_rowarr {ad : Nat → Nat} {cs : Nat → ClassId} {σ : q_St} {i : Nat} (hi : i < 6) : cC ad cs σ (27 + i) = e_C_rowarr ad cs σ i := by unfold cC; rw [if_neg (by omega), if_neg (by omega), if_neg (by omega), if_neg (by omega), if_neg (by omega), if_neg (by omega), if_neg (by omega), if_neg (by omega), if_neg (by omega), if_neg (by omega), if_neg (by omega), if_neg (by omega), if_pos (by omega), Nat.add_sub_cancel_left]
theorem u_C_JT {ad : Nat → Nat} {cs : Nat → ClassId} {σ : q_St} {f i j : Nat} {x : Int32} (h : (∀ g ∈ [20, 21], g ≠ f) ∨ 0 ≠ i) : e_C_JT ad cs (q_up σ f i x) j = e_C_JT ad cs σ j := by
  unfold e_C_JT
  rcases h with h | h
  · simp only [q_up_f (h 20 (by decide)), q_up_f (h 21 (by decide))]
  · simp only [q_up_i h]
theorem u_C_Programs {ad : Nat → Nat} {cs : Nat → ClassId} {σ : q_St} {f i j : Nat} {x : Int32} : e_C_Programs ad cs (q_up σ f i x) j = e_C_Programs ad cs σ j := by rfl
theorem u_C_ops {ad : Nat → Nat} {cs : Nat → ClassId} {σ : q_St} {f i j : Nat} {x : Int32} (h : 0 ≠ f) : e_C_ops ad cs (q_up σ f i x) j = e_C_ops ad cs σ j := by
  unfold e_C_ops; rw [q_up_rowf h]
theorem u_C_nums {ad : Nat → Nat} {cs : Nat → ClassId} {σ : q_St} {f i j : Nat} {x : Int32} (h : 1 ≠ f) : e_C_nums ad cs (q_up σ f i x) j = e_C_nums ad cs σ j := by
  unfold e_C_nums; rw [q_up_rowf h]
theorem u_C_procs {ad : Nat → Nat} {cs : Nat → ClassId} {σ : q_St} {f i j : Nat} {x : Int32} : e_C_procs ad cs (q_up σ f i x) j = e_C_procs ad cs σ j := by rfl
theorem u_C_jobs {ad : Nat → Nat} {cs : Nat → ClassId} {σ : q_St} {f i j : Nat} {x : Int32} : e_C_jobs ad cs (q_up σ f i x) j = e_C_jobs ad cs σ j := by rfl
theorem u_C_Terminal {ad : Nat → Nat} {cs : Nat → ClassId} {σ : q_St} {f i j : Nat} {x : Int32} (h : (∀ g ∈ [22, 23], g ≠ f) ∨ 0 ≠ i) : e_C_Terminal ad cs (q_up σ f i x) j = e_C_Terminal ad cs σ j := by
  unfold e_C_Terminal
  rcases h with h | h
  · simp only [q_up_f (h 22 (by decide)), q_up_f (h 23 (by decide))]
  · simp only [q_up_i h]
theorem u_C_Display {ad : Nat → Nat} {cs : Nat → ClassId} {σ : q_St} {f i j : Nat} {x : Int32} (h : (∀ g ∈ [24, 25], g ≠ f) ∨ 0 ≠ i) : e_C_Display ad cs (q_up σ f i x) j = e_C_Display ad cs σ j := by
  unfold e_C_Display
  rcases h with h | h
  · simp only [q_up_f (h 24 (by decide)), q_up_f (h 25 (by decide))]
  · simp only [q_up_i h]
theorem u_C_codes {ad : Nat → Nat} {cs : Nat → ClassId} {σ : q_St} {f i j : Nat} {x : Int32} (h : 2 ≠ f) : e_C_codes ad cs (q_up σ f i x) j = e_C_codes ad cs σ j := by
  unfold e_C_codes; rw [q_up_rowf h]
theorem u_C_JobProcess {ad : Nat → Nat} {cs : Nat → ClassId} {σ : q_St} {f i j : Nat} {x : Int32} (h : (∀ g ∈ [32, 33, 34, 35, 36, 37, 38, 39, 40, 41], g ≠ f) ∨ j ≠ i) : e_C_JobProcess ad cs (q_up σ f i x) j = e_C_JobProcess ad cs σ j := by
  unfold e_C_JobProcess
  rcases h with h | h
  · simp only [q_up_f (h 32 (by decide)), q_up_f (h 33 (by decide)), q_up_f (h 34 (by decide)), q_up_f (h 35 (by decide)), q_up_f (h 36 (by decide)), q_up_f (h 37 (by decide)), q_up_f (h 38 (by decide)), q_up_f (h 39 (by decide)), q_up_f (h 40 (by decide)), q_up_f (h 41 (by decide))]
  · simp only [q_up_i h]
theorem u_C_Job {ad : Nat → Nat} {cs : Nat → ClassId} {σ : q_St} {f i j : Nat} {x : Int32} (h : (∀ g ∈ [28, 29, 30, 31], g ≠ f) ∨ j ≠ i) : e_C_Job ad cs (q_up σ f i x) j = e_C_Job ad cs σ j := by
  unfold e_C_Job
  rcases h with h | h
  · simp only [q_up_f (h 28 (by decide)), q_up_f (h 29 (by decide)), q_up_f (h 30 (by decide)), q_up_f (h 31 (by decide))]
  · simp only [q_up_i h]
theorem u_C_NumberRow {ad : Nat → Nat} {cs : Nat → ClassId} {σ : q_St} {f i j : Nat} {x : Int32} (h : (∀ g ∈ [26, 27], g ≠ f) ∨ j ≠ i) : e_C_NumberRow ad cs (q_up σ f i x) j = e_C_NumberRow ad cs σ j := by
  unfold e_C_NumberRow
  rcases h with h | h
  · simp only [q_up_f (h 26 (by decide)), q_up_f (h 27 (by decide))]
  · simp only [q_up_i h]
theorem u_C_rowarr {ad : Nat → Nat} {cs : Nat → ClassId} {σ : q_St} {f i j : Nat} {x : Int32} (h : (10 + j) ≠ f) : e_C_rowarr ad cs (q_up σ f i x) j = e_C_rowarr ad cs σ j := by
  unfold e_C_rowarr; rw [q_up_rowf h]
theorem h2_C_20 {ad : Nat → Nat} {cs : Nat → ClassId} {σ : q_St} {x : Int32} : ∀ k, k ≠ 0 → cC ad cs (q_up σ 20 0 x) k = cC ad cs σ k := by
  intro k hk
  unfold cC
  by_cases h0 : k < 1
  · exact absurd (show k = 0 by omega) hk
  rw [if_neg h0, if_neg h0]
  by_cases h1 : k < 2
  · rw [if_pos h1, if_pos h1]; exact u_C_Programs
  rw [if_neg h1, if_neg h1]
  by_cases h2 : k < 3
  · rw [if_pos h2, if_pos h2]; exact u_C_ops (by omega)
  rw [if_neg h2, if_neg h2]
  by_cases h3 : k < 4
  · rw [if_pos h3, if_pos h3]; exact u_C_nums (by omega)
  rw [if_neg h3, if_neg h3]
  by_cases h4 : k < 5
  · rw [if_pos h4, if_pos h4]; exact u_C_procs
  rw [if_neg h4, if_neg h4]
  by_cases h5 : k < 6
  · rw [if_pos h5, if_pos h5]; exact u_C_jobs
  rw [if_neg h5, if_neg h5]
  by_cases h6 : k < 7
  · rw [if_pos h6, if_pos h6]; exact u_C_Terminal (Or.inl (by decide))
  rw [if_neg h6, if_neg h6]
  by_cases h7 : k < 8
  · rw [if_pos h7, if_pos h7]; exact u_C_Display (Or.inl (by decide))
  rw [if_neg h7, if_neg h7]
  by_cases h8 : k < 9
  · rw [if_pos h8, if_pos h8]; exact u_C_codes (by omega)
  rw [if_neg h8, if_neg h8]
  by_cases h9 : k < 17
  · rw [if_pos h9, if_pos h9]; exact u_C_JobProcess (Or.inl (by decide))
  rw [if_neg h9, if_neg h9]
  by_cases h17 : k < 21
  · rw [if_pos h17, if_pos h17]; exact u_C_Job (Or.inl (by decide))
  rw [if_neg h17, if_neg h17]
  by_cases h21 : k < 27
  · rw [if_pos h21, if_pos h21]; exact u_C_NumberRow (Or.inl (by decide))
  rw [if_neg h21, if_neg h21]
  by_cases h27 : k < 33
  · rw [if_pos h27, if_pos h27]; exact u_C_rowarr (by omega)
  rw [if_neg h27, if_neg h27]
theorem h2_C_21 {ad : Nat → Nat} {cs : Nat → ClassId} {σ : q_St} {x : Int32} : ∀ k, k ≠ 0 → cC ad cs (q_up σ 21 0 x) k = cC ad cs σ k := by
  intro k hk
  unfold cC
  by_cases h0 : k < 1
  · exact absurd (show k = 0 by omega) hk
  rw [if_neg h0, if_neg h0]
  by_cases h1 : k < 2
  · rw [if_pos h1, if_pos h1]; exact u_C_Programs
  rw [if_neg h1, if_neg h1]
  by_cases h2 : k < 3
  · rw [if_pos h2, if_pos h2]; exact u_C_ops (by omega)
  rw [if_neg h2, if_neg h2]
  by_cases h3 : k < 4
  · rw [if_pos h3, if_pos h3]; exact u_C_nums (by omega)
  rw [if_neg h3, if_neg h3]
  by_cases h4 : k < 5
  · rw [if_pos h4, if_pos h4]; exact u_C_procs
  rw [if_neg h4, if_neg h4]
  by_cases h5 : k < 6
  · rw [if_pos h5, if_pos h5]; exact u_C_jobs
  rw [if_neg h5, if_neg h5]
  by_cases h6 : k < 7
  · rw [if_pos h6, if_pos h6]; exact u_C_Terminal (Or.inl (by decide))
  rw [if_neg h6, if_neg h6]
  by_cases h7 : k < 8
  · rw [if_pos h7, if_pos h7]; exact u_C_Display (Or.inl (by decide))
  rw [if_neg h7, if_neg h7]
  by_cases h8 : k < 9
  · rw [if_pos h8, if_pos h8]; exact u_C_codes (by omega)
  rw [if_neg h8, if_neg h8]
  by_cases h9 : k < 17
  · rw [if_pos h9, if_pos h9]; exact u_C_JobProcess (Or.inl (by decide))
  rw [if_neg h9, if_neg h9]
  by_cases h17 : k < 21
  · rw [if_pos h17, if_pos h17]; exact u_C_Job (Or.inl (by decide))
  rw [if_neg h17, if_neg h17]
  by_cases h21 : k < 27
  · rw [if_pos h21, if_pos h21]; exact u_C_NumberRow (Or.inl (by decide))
  rw [if_neg h21, if_neg h21]
  by_cases h27 : k < 33
  · rw [if_pos h27, if_pos h27]; exact u_C_rowarr (by omega)
  rw [if_neg h27, if_neg h27]
theorem h2_C_ops {ad : Nat → Nat} {cs : Nat → ClassId} {σ : q_St} {j : Nat} {x : Int32} : ∀ k, k ≠ 2 → cC ad cs (q_up σ 0 j x) k = cC ad cs σ k := by
  intro k hk
  unfold cC
  by_cases h0 : k < 1
  · rw [if_pos h0, if_pos h0]; exact u_C_JT (Or.inl (by decide))
  rw [if_neg h0, if_neg h0]
  by_cases h1 : k < 2
  · rw [if_pos h1, if_pos h1]; exact u_C_Programs
  rw [if_neg h1, if_neg h1]
  by_cases h2 : k < 3
  · exact absurd (show k = 2 by omega) hk
  rw [if_neg h2, if_neg h2]
  by_cases h3 : k < 4
  · rw [if_pos h3, if_pos h3]; exact u_C_nums (by omega)
  rw [if_neg h3, if_neg h3]
  by_cases h4 : k < 5
  · rw [if_pos h4, if_pos h4]; exact u_C_procs
  rw [if_neg h4, if_neg h4]
  by_cases h5 : k < 6
  · rw [if_pos h5, if_pos h5]; exact u_C_jobs
  rw [if_neg h5, if_neg h5]
  by_cases h6 : k < 7
  · rw [if_pos h6, if_pos h6]; exact u_C_Terminal (Or.inl (by decide))
  rw [if_neg h6, if_neg h6]
  by_cases h7 : k < 8
  · rw [if_pos h7, if_pos h7]; exact u_C_Display (Or.inl (by decide))
  rw [if_neg h7, if_neg h7]
  by_cases h8 : k < 9
  · rw [if_pos h8, if_pos h8]; exact u_C_codes (by omega)
  rw [if_neg h8, if_neg h8]
  by_cases h9 : k < 17
  · rw [if_pos h9, if_pos h9]; exact u_C_JobProcess (Or.inl (by decide))
  rw [if_neg h9, if_neg h9]
  by_cases h17 : k < 21
  · rw [if_pos h17, if_pos h17]; exact u_C_Job (Or.inl (by decide))
  rw [if_neg h17, if_neg h17]
  by_cases h21 : k < 27
  · rw [if_pos h21, if_pos h21]; exact u_C_NumberRow (Or.inl (by decide))
  rw [if_neg h21, if_neg h21]
  by_cases h27 : k < 33
  · rw [if_pos h27, if_pos h27]; exact u_C_rowarr (by omega)
  rw [if_neg h27, if_neg h27]
theorem h2_C_nums {ad : Nat → Nat} {cs : Nat → ClassId} {σ : q_St} {j : Nat} {x : Int32} : ∀ k, k ≠ 3 → cC ad cs (q_up σ 1 j x) k = cC ad cs σ k := by
  intro k hk
  unfold cC
  by_cases h0 : k < 1
  · rw [if_pos h0, if_pos h0]; exact u_C_JT (Or.inl (by decide))
  rw [if_neg h0, if_neg h0]
  by_cases h1 : k < 2
  · rw [if_pos h1, if_pos h1]; exact u_C_Programs
  rw [if_neg h1, if_neg h1]
  by_cases h2 : k < 3
  · rw [if_pos h2, if_pos h2]; exact u_C_ops (by omega)
  rw [if_neg h2, if_neg h2]
  by_cases h3 : k < 4
  · exact absurd (show k = 3 by omega) hk
  rw [if_neg h3, if_neg h3]
  by_cases h4 : k < 5
  · rw [if_pos h4, if_pos h4]; exact u_C_procs
  rw [if_neg h4, if_neg h4]
  by_cases h5 : k < 6
  · rw [if_pos h5, if_pos h5]; exact u_C_jobs
  rw [if_neg h5, if_neg h5]
  by_cases h6 : k < 7
  · rw [if_pos h6, if_pos h6]; exact u_C_Terminal (Or.inl (by decide))
  rw [if_neg h6, if_neg h6]
  by_cases h7 : k < 8
  · rw [if_pos h7, if_pos h7]; exact u_C_Display (Or.inl (by decide))
  rw [if_neg h7, if_neg h7]
  by_cases h8 : k < 9
  · rw [if_pos h8, if_pos h8]; exact u_C_codes (by omega)
  rw [if_neg h8, if_neg h8]
  by_cases h9 : k < 17
  · rw [if_pos h9, if_pos h9]; exact u_C_JobProcess (Or.inl (by decide))
  rw [if_neg h9, if_neg h9]
  by_cases h17 : k < 21
  · rw [if_pos h17, if_pos h17]; exact u_C_Job (Or.inl (by decide))
  rw [if_neg h17, if_neg h17]
  by_cases h21 : k < 27
  · rw [if_pos h21, if_pos h21]; exact u_C_NumberRow (Or.inl (by decide))
  rw [if_neg h21, if_neg h21]
  by_cases h27 : k < 33
  · rw [if_pos h27, if_pos h27]; exact u_C_rowarr (by omega)
  rw [if_neg h27, if_neg h27]
theorem h2_C_22 {ad : Nat → Nat} {cs : Nat → ClassId} {σ : q_St} {x : Int32} : ∀ k, k ≠ 6 → cC ad cs (q_up σ 22 0 x) k = cC ad cs σ k := by
  intro k hk
  unfold cC
  by_cases h0 : k < 1
  · rw [if_pos h0, if_pos h0]; exact u_C_JT (Or.inl (by decide))
  rw [if_neg h0, if_neg h0]
  by_cases h1 : k < 2
  · rw [if_pos h1, if_pos h1]; exact u_C_Programs
  rw [if_neg h1, if_neg h1]
  by_cases h2 : k < 3
  · rw [if_pos h2, if_pos h2]; exact u_C_ops (by omega)
  rw [if_neg h2, if_neg h2]
  by_cases h3 : k < 4
  · rw [if_pos h3, if_pos h3]; exact u_C_nums (by omega)
  rw [if_neg h3, if_neg h3]
  by_cases h4 : k < 5
  · rw [if_pos h4, if_pos h4]; exact u_C_procs
  rw [if_neg h4, if_neg h4]
  by_cases h5 : k < 6
  · rw [if_pos h5, if_pos h5]; exact u_C_jobs
  rw [if_neg h5, if_neg h5]
  by_cases h6 : k < 7
  · exact absurd (show k = 6 by omega) hk
  rw [if_neg h6, if_neg h6]
  by_cases h7 : k < 8
  · rw [if_pos h7, if_pos h7]; exact u_C_Display (Or.inl (by decide))
  rw [if_neg h7, if_neg h7]
  by_cases h8 : k < 9
  · rw [if_pos h8, if_pos h8]; exact u_C_codes (by omega)
  rw [if_neg h8, if_neg h8]
  by_cases h9 : k < 17
  · rw [if_pos h9, if_pos h9]; exact u_C_JobProcess (Or.inl (by decide))
  rw [if_neg h9, if_neg h9]
  by_cases h17 : k < 21
  · rw [if_pos h17, if_pos h17]; exact u_C_Job (Or.inl (by decide))
  rw [if_neg h17, if_neg h17]
  by_cases h21 : k < 27
  · rw [if_pos h21, if_pos h21]; exact u_C_NumberRow (Or.inl (by decide))
  rw [if_neg h21, if_neg h21]
  by_cases h27 : k < 33
  · rw [if_pos h27, if_pos h27]; exact u_C_rowarr (by omega)
  rw [if_neg h27, if_neg h27]
theorem h2_C_23 {ad : Nat → Nat} {cs : Nat → ClassId} {σ : q_St} {x : Int32} : ∀ k, k ≠ 6 → cC ad cs (q_up σ 23 0 x) k = cC ad cs σ k := by
  intro k hk
  unfold cC
  by_cases h0 : k < 1
  · rw [if_pos h0, if_pos h0]; exact u_C_JT (Or.inl (by decide))
  rw [if_neg h0, if_neg h0]
  by_cases h1 : k < 2
  · rw [if_pos h1, if_pos h1]; exact u_C_Programs
  rw [if_neg h1, if_neg h1]
  by_cases h2 : k < 3
  · rw [if_pos h2, if_pos h2]; exact u_C_ops (by omega)
  rw [if_neg h2, if_neg h2]
  by_cases h3 : k < 4
  · rw [if_pos h3, if_pos h3]; exact u_C_nums (by omega)
  rw [if_neg h3, if_neg h3]
  by_cases h4 : k < 5
  · rw [if_pos h4, if_pos h4]; exact u_C_procs
  rw [if_neg h4, if_neg h4]
  by_cases h5 : k < 6
  · rw [if_pos h5, if_pos h5]; exact u_C_jobs
  rw [if_neg h5, if_neg h5]
  by_cases h6 : k < 7
  · exact absurd (show k = 6 by omega) hk
  rw [if_neg h6, if_neg h6]
  by_cases h7 : k < 8
  · rw [if_pos h7, if_pos h7]; exact u_C_Display (Or.inl (by decide))
  rw [if_neg h7, if_neg h7]
  by_cases h8 : k < 9
  · rw [if_pos h8, if_pos h8]; exact u_C_codes (by omega)
  rw [if_neg h8, if_neg h8]
  by_cases h9 : k < 17
  · rw [if_pos h9, if_pos h9]; exact u_C_JobProcess (Or.inl (by decide))
  rw [if_neg h9, if_neg h9]
  by_cases h17 : k < 21
  · rw [if_pos h17, if_pos h17]; exact u_C_Job (Or.inl (by decide))
  rw [if_neg h17, if_neg h17]
  by_cases h21 : k < 27
  · rw [if_pos h21, if_pos h21]; exact u_C_NumberRow (Or.inl (by decide))
  rw [if_neg h21, if_neg h21]
  by_cases h27 : k < 33
  · rw [if_pos h27, if_pos h27]; exact u_C_rowarr (by omega)
  rw [if_neg h27, if_neg h27]
theorem h2_C_24 {ad : Nat → Nat} {cs : Nat → ClassId} {σ : q_St} {x : Int32} : ∀ k, k ≠ 7 → cC ad cs (q_up σ 24 0 x) k = cC ad cs σ k := by
  intro k hk
  unfold cC
  by_cases h0 : k < 1
  · rw [if_pos h0, if_pos h0]; exact u_C_JT (Or.inl (by decide))
  rw [if_neg h0, if_neg h0]
  by_cases h1 : k < 2
  · rw [if_pos h1, if_pos h1]; exact u_C_Programs
  rw [if_neg h1, if_neg h1]
  by_cases h2 : k < 3
  · rw [if_pos h2, if_pos h2]; exact u_C_ops (by omega)
  rw [if_neg h2, if_neg h2]
  by_cases h3 : k < 4
  · rw [if_pos h3, if_pos h3]; exact u_C_nums (by omega)
  rw [if_neg h3, if_neg h3]
  by_cases h4 : k < 5
  · rw [if_pos h4, if_pos h4]; exact u_C_procs
  rw [if_neg h4, if_neg h4]
  by_cases h5 : k < 6
  · rw [if_pos h5, if_pos h5]; exact u_C_jobs
  rw [if_neg h5, if_neg h5]
  by_cases h6 : k < 7
  · rw [if_pos h6, if_pos h6]; exact u_C_Terminal (Or.inl (by decide))
  rw [if_neg h6, if_neg h6]
  by_cases h7 : k < 8
  · exact absurd (show k = 7 by omega) hk
  rw [if_neg h7, if_neg h7]
  by_cases h8 : k < 9
  · rw [if_pos h8, if_pos h8]; exact u_C_codes (by omega)
  rw [if_neg h8, if_neg h8]
  by_cases h9 : k < 17
  · rw [if_pos h9, if_pos h9]; exact u_C_JobProcess (Or.inl (by decide))
  rw [if_neg h9, if_neg h9]
  by_cases h17 : k < 21
  · rw [if_pos h17, if_pos h17]; exact u_C_Job (Or.inl (by decide))
  rw [if_neg h17, if_neg h17]
  by_cases h21 : k < 27
  · rw [if_pos h21, if_pos h21]; exact u_C_NumberRow (Or.inl (by decide))
  rw [if_neg h21, if_neg h21]
  by_cases h27 : k < 33
  · rw [if_pos h27, if_pos h27]; exact u_C_rowarr (by omega)
  rw [if_neg h27, if_neg h27]
theorem h2_C_25 {ad : Nat → Nat} {cs : Nat → ClassId} {σ : q_St} {x : Int32} : ∀ k, k ≠ 7 → cC ad cs (q_up σ 25 0 x) k = cC ad cs σ k := by
  intro k hk
  unfold cC
  by_cases h0 : k < 1
  · rw [if_pos h0, if_pos h0]; exact u_C_JT (Or.inl (by decide))
  rw [if_neg h0, if_neg h0]
  by_cases h1 : k < 2
  · rw [if_pos h1, if_pos h1]; exact u_C_Programs
  rw [if_neg h1, if_neg h1]
  by_cases h2 : k < 3
  · rw [if_pos h2, if_pos h2]; exact u_C_ops (by omega)
  rw [if_neg h2, if_neg h2]
  by_cases h3 : k < 4
  · rw [if_pos h3, if_pos h3]; exact u_C_nums (by omega)
  rw [if_neg h3, if_neg h3]
  by_cases h4 : k < 5
  · rw [if_pos h4, if_pos h4]; exact u_C_procs
  rw [if_neg h4, if_neg h4]
  by_cases h5 : k < 6
  · rw [if_pos h5, if_pos h5]; exact u_C_jobs
  rw [if_neg h5, if_neg h5]
  by_cases h6 : k < 7
  · rw [if_pos h6, if_pos h6]; exact u_C_Terminal (Or.inl (by decide))
  rw [if_neg h6, if_neg h6]
  by_cases h7 : k < 8
  · exact absurd (show k = 7 by omega) hk
  rw [if_neg h7, if_neg h7]
  by_cases h8 : k < 9
  · rw [if_pos h8, if_pos h8]; exact u_C_codes (by omega)
  rw [if_neg h8, if_neg h8]
  by_cases h9 : k < 17
  · rw [if_pos h9, if_pos h9]; exact u_C_JobProcess (Or.inl (by decide))
  rw [if_neg h9, if_neg h9]
  by_cases h17 : k < 21
  · rw [if_pos h17, if_pos h17]; exact u_C_Job (Or.inl (by decide))
  rw [if_neg h17, if_neg h17]
  by_cases h21 : k < 27
  · rw [if_pos h21, if_pos h21]; exact u_C_NumberRow (Or.inl (by decide))
  rw [if_neg h21, if_neg h21]
  by_cases h27 : k < 33
  · rw [if_pos h27, if_pos h27]; exact u_C_rowarr (by omega)
  rw [if_neg h27, if_neg h27]
theorem h2_C_codes {ad : Nat → Nat} {cs : Nat → ClassId} {σ : q_St} {j : Nat} {x : Int32} : ∀ k, k ≠ 8 → cC ad cs (q_up σ 2 j x) k = cC ad cs σ k := by
  intro k hk
  unfold cC
  by_cases h0 : k < 1
  · rw [if_pos h0, if_pos h0]; exact u_C_JT (Or.inl (by decide))
  rw [if_neg h0, if_neg h0]
  by_cases h1 : k < 2
  · rw [if_pos h1, if_pos h1]; exact u_C_Programs
  rw [if_neg h1, if_neg h1]
  by_cases h2 : k < 3
  · rw [if_pos h2, if_pos h2]; exact u_C_ops (by omega)
  rw [if_neg h2, if_neg h2]
  by_cases h3 : k < 4
  · rw [if_pos h3, if_pos h3]; exact u_C_nums (by omega)
  rw [if_neg h3, if_neg h3]
  by_cases h4 : k < 5
  · rw [if_pos h4, if_pos h4]; exact u_C_procs
  rw [if_neg h4, if_neg h4]
  by_cases h5 : k < 6
  · rw [if_pos h5, if_pos h5]; exact u_C_jobs
  rw [if_neg h5, if_neg h5]
  by_cases h6 : k < 7
  · rw [if_pos h6, if_pos h6]; exact u_C_Terminal (Or.inl (by decide))
  rw [if_neg h6, if_neg h6]
  by_cases h7 : k < 8
  · rw [if_pos h7, if_pos h7]; exact u_C_Display (Or.inl (by decide))
  rw [if_neg h7, if_neg h7]
  by_cases h8 : k < 9
  · exact absurd (show k = 8 by omega) hk
  rw [if_neg h8, if_neg h8]
  by_cases h9 : k < 17
  · rw [if_pos h9, if_pos h9]; exact u_C_JobProcess (Or.inl (by decide))
  rw [if_neg h9, if_neg h9]
  by_cases h17 : k < 21
  · rw [if_pos h17, if_pos h17]; exact u_C_Job (Or.inl (by decide))
  rw [if_neg h17, if_neg h17]
  by_cases h21 : k < 27
  · rw [if_pos h21, if_pos h21]; exact u_C_NumberRow (Or.inl (by decide))
  rw [if_neg h21, if_neg h21]
  by_cases h27 : k < 33
  · rw [if_pos h27, if_pos h27]; exact u_C_rowarr (by omega)
  rw [if_neg h27, if_neg h27]
theorem h2_C_32 {ad : Nat → Nat} {cs : Nat → ClassId} {σ : q_St} {i : Nat} {x : Int32} (hi : i < 8) : ∀ k, k ≠ 9 + i → cC ad cs (q_up σ 32 i x) k = cC ad cs σ k := by
  intro k hk
  unfold cC
  by_cases h0 : k < 1
  · rw [if_pos h0, if_pos h0]; exact u_C_JT (Or.inl (by decide))
  rw [if_neg h0, if_neg h0]
  by_cases h1 : k < 2
  · rw [if_pos h1, if_pos h1]; exact u_C_Programs
  rw [if_neg h1, if_neg h1]
  by_cases h2 : k < 3
  · rw [if_pos h2, if_pos h2]; exact u_C_ops (by omega)
  rw [if_neg h2, if_neg h2]
  by_cases h3 : k < 4
  · rw [if_pos h3, if_pos h3]; exact u_C_nums (by omega)
  rw [if_neg h3, if_neg h3]
  by_cases h4 : k < 5
  · rw [if_pos h4, if_pos h4]; exact u_C_procs
  rw [if_neg h4, if_neg h4]
  by_cases h5 : k < 6
  · rw [if_pos h5, if_pos h5]; exact u_C_jobs
  rw [if_neg h5, if_neg h5]
  by_cases h6 : k < 7
  · rw [if_pos h6, if_pos h6]; exact u_C_Terminal (Or.inl (by decide))
  rw [if_neg h6, if_neg h6]
  by_cases h7 : k < 8
  · rw [if_pos h7, if_pos h7]; exact u_C_Display (Or.inl (by decide))
  rw [if_neg h7, if_neg h7]
  by_cases h8 : k < 9
  · rw [if_pos h8, if_pos h8]; exact u_C_codes (by omega)
  rw [if_neg h8, if_neg h8]
  by_cases h9 : k < 17
  · rw [if_pos h9, if_pos h9]; exact u_C_JobProcess (Or.inr (by omega))
  rw [if_neg h9, if_neg h9]
  by_cases h17 : k < 21
  · rw [if_pos h17, if_pos h17]; exact u_C_Job (Or.inl (by decide))
  rw [if_neg h17, if_neg h17]
  by_cases h21 : k < 27
  · rw [if_pos h21, if_pos h21]; exact u_C_NumberRow (Or.inl (by decide))
  rw [if_neg h21, if_neg h21]
  by_cases h27 : k < 33
  · rw [if_pos h27, if_pos h27]; exact u_C_rowarr (by omega)
  rw [if_neg h27, if_neg h27]
theorem h2_C_33 {ad : Nat → Nat} {cs : Nat → ClassId} {σ : q_St} {i : Nat} {x : Int32} (hi : i < 8) : ∀ k, k ≠ 9 + i → cC ad cs (q_up σ 33 i x) k = cC ad cs σ k := by
  intro k hk
  unfold cC
  by_cases h0 : k < 1
  · rw [if_pos h0, if_pos h0]; exact u_C_JT (Or.inl (by decide))
  rw [if_neg h0, if_neg h0]
  by_cases h1 : k < 2
  · rw [if_pos h1, if_pos h1]; exact u_C_Programs
  rw [if_neg h1, if_neg h1]
  by_cases h2 : k < 3
  · rw [if_pos h2, if_pos h2]; exact u_C_ops (by omega)
  rw [if_neg h2, if_neg h2]
  by_cases h3 : k < 4
  · rw [if_pos h3, if_pos h3]; exact u_C_nums (by omega)
  rw [if_neg h3, if_neg h3]
  by_cases h4 : k < 5
  · rw [if_pos h4, if_pos h4]; exact u_C_procs
  rw [if_neg h4, if_neg h4]
  by_cases h5 : k < 6
  · rw [if_pos h5, if_pos h5]; exact u_C_jobs
  rw [if_neg h5, if_neg h5]
  by_cases h6 : k < 7
  · rw [if_pos h6, if_pos h6]; exact u_C_Terminal (Or.inl (by decide))
  rw [if_neg h6, if_neg h6]
  by_cases h7 : k < 8
  · rw [if_pos h7, if_pos h7]; exact u_C_Display (Or.inl (by decide))
  rw [if_neg h7, if_neg h7]
  by_cases h8 : k < 9
  · rw [if_pos h8, if_pos h8]; exact u_C_codes (by omega)
  rw [if_neg h8, if_neg h8]
  by_cases h9 : k < 17
  · rw [if_pos h9, if_pos h9]; exact u_C_JobProcess (Or.inr (by omega))
  rw [if_neg h9, if_neg h9]
  by_cases h17 : k < 21
  · rw [if_pos h17, if_pos h17]; exact u_C_Job (Or.inl (by decide))
  rw [if_neg h17, if_neg h17]
  by_cases h21 : k < 27
  · rw [if_pos h21, if_pos h21]; exact u_C_NumberRow (Or.inl (by decide))
  rw [if_neg h21, if_neg h21]
  by_cases h27 : k < 33
  · rw [if_pos h27, if_pos h27]; exact u_C_rowarr (by omega)
  rw [if_neg h27, if_neg h27]
theorem h2_C_34 {ad : Nat → Nat} {cs : Nat → ClassId} {σ : q_St} {i : Nat} {x : Int32} (hi : i < 8) : ∀ k, k ≠ 9 + i → cC ad cs (q_up σ 34 i x) k = cC ad cs σ k := by
  intro k hk
  unfold cC
  by_cases h0 : k < 1
  · rw [if_pos h0, if_pos h0]; exact u_C_JT (Or.inl (by decide))
  rw [if_neg h0, if_neg h0]
  by_cases h1 : k < 2
  · rw [if_pos h1, if_pos h1]; exact u_C_Programs
  rw [if_neg h1, if_neg h1]
  by_cases h2 : k < 3
  · rw [if_pos h2, if_pos h2]; exact u_C_ops (by omega)
  rw [if_neg h2, if_neg h2]
  by_cases h3 : k < 4
  · rw [if_pos h3, if_pos h3]; exact u_C_nums (by omega)
  rw [if_neg h3, if_neg h3]
  by_cases h4 : k < 5
  · rw [if_pos h4, if_pos h4]; exact u_C_procs
  rw [if_neg h4, if_neg h4]
  by_cases h5 : k < 6
  · rw [if_pos h5, if_pos h5]; exact u_C_jobs
  rw [if_neg h5, if_neg h5]
  by_cases h6 : k < 7
  · rw [if_pos h6, if_pos h6]; exact u_C_Terminal (Or.inl (by decide))
  rw [if_neg h6, if_neg h6]
  by_cases h7 : k < 8
  · rw [if_pos h7, if_pos h7]; exact u_C_Display (Or.inl (by decide))
  rw [if_neg h7, if_neg h7]
  by_cases h8 : k < 9
  · rw [if_pos h8, if_pos h8]; exact u_C_codes (by omega)
  rw [if_neg h8, if_neg h8]
  by_cases h9 : k < 17
  · rw [if_pos h9, if_pos h9]; exact u_C_JobProcess (Or.inr (by omega))
  rw [if_neg h9, if_neg h9]
  by_cases h17 : k < 21
  · rw [if_pos h17, if_pos h17]; exact u_C_Job (Or.inl (by decide))
  rw [if_neg h17, if_neg h17]
  by_cases h21 : k < 27
  · rw [if_pos h21, if_pos h21]; exact u_C_NumberRow (Or.inl (by decide))
  rw [if_neg h21, if_neg h21]
  by_cases h27 : k < 33
  · rw [if_pos h27, if_pos h27]; exact u_C_rowarr (by omega)
  rw [if_neg h27, if_neg h27]
theorem h2_C_35 {ad : Nat → Nat} {cs : Nat → ClassId} {σ : q_St} {i : Nat} {x : Int32} (hi : i < 8) : ∀ k, k ≠ 9 + i → cC ad cs (q_up σ 35 i x) k = cC ad cs σ k := by
  intro k hk
  unfold cC
  by_cases h0 : k < 1
  · rw [if_pos h0, if_pos h0]; exact u_C_JT (Or.inl (by decide))
  rw [if_neg h0, if_neg h0]
  by_cases h1 : k < 2
  · rw [if_pos h1, if_pos h1]; exact u_C_Programs
  rw [if_neg h1, if_neg h1]
  by_cases h2 : k < 3
  · rw [if_pos h2, if_pos h2]; exact u_C_ops (by omega)
  rw [if_neg h2, if_neg h2]
  by_cases h3 : k < 4
  · rw [if_pos h3, if_pos h3]; exact u_C_nums (by omega)
  rw [if_neg h3, if_neg h3]
  by_cases h4 : k < 5
  · rw [if_pos h4, if_pos h4]; exact u_C_procs
  rw [if_neg h4, if_neg h4]
  by_cases h5 : k < 6
  · rw [if_pos h5, if_pos h5]; exact u_C_jobs
  rw [if_neg h5, if_neg h5]
  by_cases h6 : k < 7
  · rw [if_pos h6, if_pos h6]; exact u_C_Terminal (Or.inl (by decide))
  rw [if_neg h6, if_neg h6]
  by_cases h7 : k < 8
  · rw [if_pos h7, if_pos h7]; exact u_C_Display (Or.inl (by decide))
  rw [if_neg h7, if_neg h7]
  by_cases h8 : k < 9
  · rw [if_pos h8, if_pos h8]; exact u_C_codes (by omega)
  rw [if_neg h8, if_neg h8]
  by_cases h9 : k < 17
  · rw [if_pos h9, if_pos h9]; exact u_C_JobProcess (Or.inr (by omega))
  rw [if_neg h9, if_neg h9]
  by_cases h17 : k < 21
  · rw [if_pos h17, if_pos h17]; exact u_C_Job (Or.inl (by decide))
  rw [if_neg h17, if_neg h17]
  by_cases h21 : k < 27
  · rw [if_pos h21, if_pos h21]; exact u_C_NumberRow (Or.inl (by decide))
  rw [if_neg h21, if_neg h21]
  by_cases h27 : k < 33
  · rw [if_pos h27, if_pos h27]; exact u_C_rowarr (by omega)
  rw [if_neg h27, if_neg h27]
theorem h2_C_36 {ad : Nat → Nat} {cs : Nat → ClassId} {σ : q_St} {i : Nat} {x : Int32} (hi : i < 8) : ∀ k, k ≠ 9 + i → cC ad cs (q_up σ 36 i x) k = cC ad cs σ k := by
  intro k hk
  unfold cC
  by_cases h0 : k < 1
  · rw [if_pos h0, if_pos h0]; exact u_C_JT (Or.inl (by decide))
  rw [if_neg h0, if_neg h0]
  by_cases h1 : k < 2
  · rw [if_pos h1, if_pos h1]; exact u_C_Programs
  rw [if_neg h1, if_neg h1]
  by_cases h2 : k < 3
  · rw [if_pos h2, if_pos h2]; exact u_C_ops (by omega)
  rw [if_neg h2, if_neg h2]
  by_cases h3 : k < 4
  · rw [if_pos h3, if_pos h3]; exact u_C_nums (by omega)
  rw [if_neg h3, if_neg h3]
  by_cases h4 : k < 5
  · rw [if_pos h4, if_pos h4]; exact u_C_procs
  rw [if_neg h4, if_neg h4]
  by_cases h5 : k < 6
  · rw [if_pos h5, if_pos h5]; exact u_C_jobs
  rw [if_neg h5, if_neg h5]
  by_cases h6 : k < 7
  · rw [if_pos h6, if_pos h6]; exact u_C_Terminal (Or.inl (by decide))
  rw [if_neg h6, if_neg h6]
  by_cases h7 : k < 8
  · rw [if_pos h7, if_pos h7]; exact u_C_Display (Or.inl (by decide))
  rw [if_neg h7, if_neg h7]
  by_cases h8 : k < 9
  · rw [if_pos h8, if_pos h8]; exact u_C_codes (by omega)
  rw [if_neg h8, if_neg h8]
  by_cases h9 : k < 17
  · rw [if_pos h9, if_pos h9]; exact u_C_JobProcess (Or.inr (by omega))
  rw [if_neg h9, if_neg h9]
  by_cases h17 : k < 21
  · rw [if_pos h17, if_pos h17]; exact u_C_Job (Or.inl (by decide))
  rw [if_neg h17, if_neg h17]
  by_cases h21 : k < 27
  · rw [if_pos h21, if_pos h21]; exact u_C_NumberRow (Or.inl (by decide))
  rw [if_neg h21, if_neg h21]
  by_cases h27 : k < 33
  · rw [if_pos h27, if_pos h27]; exact u_C_rowarr (by omega)
  rw [if_neg h27, if_neg h27]
theorem h2_C_37 {ad : Nat → Nat} {cs : Nat → ClassId} {σ : q_St} {i : Nat} {x : Int32} (hi : i < 8) : ∀ k, k ≠ 9 + i → cC ad cs (q_up σ 37 i x) k = cC ad cs σ k := by
  intro k hk
  unfold cC
  by_cases h0 : k < 1
  · rw [if_pos h0, if_pos h0]; exact u_C_JT (Or.inl (by decide))
  rw [if_neg h0, if_neg h0]
  by_cases h1 : k < 2
  · rw [if_pos h1, if_pos h1]; exact u_C_Programs
  rw [if_neg h1, if_neg h1]
  by_cases h2 : k < 3
  · rw [if_pos h2, if_pos h2]; exact u_C_ops (by omega)
  rw [if_neg h2, if_neg h2]
  by_cases h3 : k < 4
  · rw [if_pos h3, if_pos h3]; exact u_C_nums (by omega)
  rw [if_neg h3, if_neg h3]
  by_cases h4 : k < 5
  · rw [if_pos h4, if_pos h4]; exact u_C_procs
  rw [if_neg h4, if_neg h4]
  by_cases h5 : k < 6
  · rw [if_pos h5, if_pos h5]; exact u_C_jobs
  rw [if_neg h5, if_neg h5]
  by_cases h6 : k < 7
  · rw [if_pos h6, if_pos h6]; exact u_C_Terminal (Or.inl (by decide))
  rw [if_neg h6, if_neg h6]
  by_cases h7 : k < 8
  · rw [if_pos h7, if_pos h7]; exact u_C_Display (Or.inl (by decide))
  rw [if_neg h7, if_neg h7]
  by_cases h8 : k < 9
  · rw [if_pos h8, if_pos h8]; exact u_C_codes (by omega)
  rw [if_neg h8, if_neg h8]
  by_cases h9 : k < 17
  · rw [if_pos h9, if_pos h9]; exact u_C_JobProcess (Or.inr (by omega))
  rw [if_neg h9, if_neg h9]
  by_cases h17 : k < 21
  · rw [if_pos h17, if_pos h17]; exact u_C_Job (Or.inl (by decide))
  rw [if_neg h17, if_neg h17]
  by_cases h21 : k < 27
  · rw [if_pos h21, if_pos h21]; exact u_C_NumberRow (Or.inl (by decide))
  rw [if_neg h21, if_neg h21]
  by_cases h27 : k < 33
  · rw [if_pos h27, if_pos h27]; exact u_C_rowarr (by omega)
  rw [if_neg h27, if_neg h27]
theorem h2_C_38 {ad : Nat → Nat} {cs : Nat → ClassId} {σ : q_St} {i : Nat} {x : Int32} (hi : i < 8) : ∀ k, k ≠ 9 + i → cC ad cs (q_up σ 38 i x) k = cC ad cs σ k := by
  intro k hk
  unfold cC
  by_cases h0 : k < 1
  · rw [if_pos h0, if_pos h0]; exact u_C_JT (Or.inl (by decide))
  rw [if_neg h0, if_neg h0]
  by_cases h1 : k < 2
  · rw [if_pos h1, if_pos h1]; exact u_C_Programs
  rw [if_neg h1, if_neg h1]
  by_cases h2 : k < 3
  · rw [if_pos h2, if_pos h2]; exact u_C_ops (by omega)
  rw [if_neg h2, if_neg h2]
  by_cases h3 : k < 4
  · rw [if_pos h3, if_pos h3]; exact u_C_nums (by omega)
  rw [if_neg h3, if_neg h3]
  by_cases h4 : k < 5
  · rw [if_pos h4, if_pos h4]; exact u_C_procs
  rw [if_neg h4, if_neg h4]
  by_cases h5 : k < 6
  · rw [if_pos h5, if_pos h5]; exact u_C_jobs
  rw [if_neg h5, if_neg h5]
  by_cases h6 : k < 7
  · rw [if_pos h6, if_pos h6]; exact u_C_Terminal (Or.inl (by decide))
  rw [if_neg h6, if_neg h6]
  by_cases h7 : k < 8
  · rw [if_pos h7, if_pos h7]; exact u_C_Display (Or.inl (by decide))
  rw [if_neg h7, if_neg h7]
  by_cases h8 : k < 9
  · rw [if_pos h8, if_pos h8]; exact u_C_codes (by omega)
  rw [if_neg h8, if_neg h8]
  by_cases h9 : k < 17
  · rw [if_pos h9, if_pos h9]; exact u_C_JobProcess (Or.inr (by omega))
  rw [if_neg h9, if_neg h9]
  by_cases h17 : k < 21
  · rw [if_pos h17, if_pos h17]; exact u_C_Job (Or.inl (by decide))
  rw [if_neg h17, if_neg h17]
  by_cases h21 : k < 27
  · rw [if_pos h21, if_pos h21]; exact u_C_NumberRow (Or.inl (by decide))
  rw [if_neg h21, if_neg h21]
  by_cases h27 : k < 33
  · rw [if_pos h27, if_pos h27]; exact u_C_rowarr (by omega)
  rw [if_neg h27, if_neg h27]
theorem h2_C_39 {ad : Nat → Nat} {cs : Nat → ClassId} {σ : q_St} {i : Nat} {x : Int32} (hi : i < 8) : ∀ k, k ≠ 9 + i → cC ad cs (q_up σ 39 i x) k = cC ad cs σ k := by
  intro k hk
  unfold cC
  by_cases h0 : k < 1
  · rw [if_pos h0, if_pos h0]; exact u_C_JT (Or.inl (by decide))
  rw [if_neg h0, if_neg h0]
  by_cases h1 : k < 2
  · rw [if_pos h1, if_pos h1]; exact u_C_Programs
  rw [if_neg h1, if_neg h1]
  by_cases h2 : k < 3
  · rw [if_pos h2, if_pos h2]; exact u_C_ops (by omega)
  rw [if_neg h2, if_neg h2]
  by_cases h3 : k < 4
  · rw [if_pos h3, if_pos h3]; exact u_C_nums (by omega)
  rw [if_neg h3, if_neg h3]
  by_cases h4 : k < 5
  · rw [if_pos h4, if_pos h4]; exact u_C_procs
  rw [if_neg h4, if_neg h4]
  by_cases h5 : k < 6
  · rw [if_pos h5, if_pos h5]; exact u_C_jobs
  rw [if_neg h5, if_neg h5]
  by_cases h6 : k < 7
  · rw [if_pos h6, if_pos h6]; exact u_C_Terminal (Or.inl (by decide))
  rw [if_neg h6, if_neg h6]
  by_cases h7 : k < 8
  · rw [if_pos h7, if_pos h7]; exact u_C_Display (Or.inl (by decide))
  rw [if_neg h7, if_neg h7]
  by_cases h8 : k < 9
  · rw [if_pos h8, if_pos h8]; exact u_C_codes (by omega)
  rw [if_neg h8, if_neg h8]
  by_cases h9 : k < 17
  · rw [if_pos h9, if_pos h9]; exact u_C_JobProcess (Or.inr (by omega))
  rw [if_neg h9, if_neg h9]
  by_cases h17 : k < 21
  · rw [if_pos h17, if_pos h17]; exact u_C_Job (Or.inl (by decide))
  rw [if_neg h17, if_neg h17]
  by_cases h21 : k < 27
  · rw [if_pos h21, if_pos h21]; exact u_C_NumberRow (Or.inl (by decide))
  rw [if_neg h21, if_neg h21]
  by_cases h27 : k < 33
  · rw [if_pos h27, if_pos h27]; exact u_C_rowarr (by omega)
  rw [if_neg h27, if_neg h27]
theorem h2_C_40 {ad : Nat → Nat} {cs : Nat → ClassId} {σ : q_St} {i : Nat} {x : Int32} (hi : i < 8) : ∀ k, k ≠ 9 + i → cC ad cs (q_up σ 40 i x) k = cC ad cs σ k := by
  intro k hk
  unfold cC
  by_cases h0 : k < 1
  · rw [if_pos h0, if_pos h0]; exact u_C_JT (Or.inl (by decide))
  rw [if_neg h0, if_neg h0]
  by_cases h1 : k < 2
  · rw [if_pos h1, if_pos h1]; exact u_C_Programs
  rw [if_neg h1, if_neg h1]
  by_cases h2 : k < 3
  · rw [if_pos h2, if_pos h2]; exact u_C_ops (by omega)
  rw [if_neg h2, if_neg h2]
  by_cases h3 : k < 4
  · rw [if_pos h3, if_pos h3]; exact u_C_nums (by omega)
  rw [if_neg h3, if_neg h3]
  by_cases h4 : k < 5
  · rw [if_pos h4, if_pos h4]; exact u_C_procs
  rw [if_neg h4, if_neg h4]
  by_cases h5 : k < 6
  · rw [if_pos h5, if_pos h5]; exact u_C_jobs
  rw [if_neg h5, if_neg h5]
  by_cases h6 : k < 7
  · rw [if_pos h6, if_pos h6]; exact u_C_Terminal (Or.inl (by decide))
  rw [if_neg h6, if_neg h6]
  by_cases h7 : k < 8
  · rw [if_pos h7, if_pos h7]; exact u_C_Display (Or.inl (by decide))
  rw [if_neg h7, if_neg h7]
  by_cases h8 : k < 9
  · rw [if_pos h8, if_pos h8]; exact u_C_codes (by omega)
  rw [if_neg h8, if_neg h8]
  by_cases h9 : k < 17
  · rw [if_pos h9, if_pos h9]; exact u_C_JobProcess (Or.inr (by omega))
  rw [if_neg h9, if_neg h9]
  by_cases h17 : k < 21
  · rw [if_pos h17, if_pos h17]; exact u_C_Job (Or.inl (by decide))
  rw [if_neg h17, if_neg h17]
  by_cases h21 : k < 27
  · rw [if_pos h21, if_pos h21]; exact u_C_NumberRow (Or.inl (by decide))
  rw [if_neg h21, if_neg h21]
  by_cases h27 : k < 33
  · rw [if_pos h27, if_pos h27]; exact u_C_rowarr (by omega)
  rw [if_neg h27, if_neg h27]
theorem h2_C_41 {ad : Nat → Nat} {cs : Nat → ClassId} {σ : q_St} {i : Nat} {x : Int32} (hi : i < 8) : ∀ k, k ≠ 9 + i → cC ad cs (q_up σ 41 i x) k = cC ad cs σ k := by
  intro k hk
  unfold cC
  by_cases h0 : k < 1
  · rw [if_pos h0, if_pos h0]; exact u_C_JT (Or.inl (by decide))
  rw [if_neg h0, if_neg h0]
  by_cases h1 : k < 2
  · rw [if_pos h1, if_pos h1]; exact u_C_Programs
  rw [if_neg h1, if_neg h1]
  by_cases h2 : k < 3
  · rw [if_pos h2, if_pos h2]; exact u_C_ops (by omega)
  rw [if_neg h2, if_neg h2]
  by_cases h3 : k < 4
  · rw [if_pos h3, if_pos h3]; exact u_C_nums (by omega)
  rw [if_neg h3, if_neg h3]
  by_cases h4 : k < 5
  · rw [if_pos h4, if_pos h4]; exact u_C_procs
  rw [if_neg h4, if_neg h4]
  by_cases h5 : k < 6
  · rw [if_pos h5, if_pos h5]; exact u_C_jobs
  rw [if_neg h5, if_neg h5]
  by_cases h6 : k < 7
  · rw [if_pos h6, if_pos h6]; exact u_C_Terminal (Or.inl (by decide))
  rw [if_neg h6, if_neg h6]
  by_cases h7 : k < 8
  · rw [if_pos h7, if_pos h7]; exact u_C_Display (Or.inl (by decide))
  rw [if_neg h7, if_neg h7]
  by_cases h8 : k < 9
  · rw [if_pos h8, if_pos h8]; exact u_C_codes (by omega)
  rw [if_neg h8, if_neg h8]
  by_cases h9 : k < 17
  · rw [if_pos h9, if_pos h9]; exact u_C_JobProcess (Or.inr (by omega))
  rw [if_neg h9, if_neg h9]
  by_cases h17 : k < 21
  · rw [if_pos h17, if_pos h17]; exact u_C_Job (Or.inl (by decide))
  rw [if_neg h17, if_neg h17]
  by_cases h21 : k < 27
  · rw [if_pos h21, if_pos h21]; exact u_C_NumberRow (Or.inl (by decide))
  rw [if_neg h21, if_neg h21]
  by_cases h27 : k < 33
  · rw [if_pos h27, if_pos h27]; exact u_C_rowarr (by omega)
  rw [if_neg h27, if_neg h27]
theorem h2_C_28 {ad : Nat → Nat} {cs : Nat → ClassId} {σ : q_St} {i : Nat} {x : Int32} (hi : i < 4) : ∀ k, k ≠ 17 + i → cC ad cs (q_up σ 28 i x) k = cC ad cs σ k := by
  intro k hk
  unfold cC
  by_cases h0 : k < 1
  · rw [if_pos h0, if_pos h0]; exact u_C_JT (Or.inl (by decide))
  rw [if_neg h0, if_neg h0]
  by_cases h1 : k < 2
  · rw [if_pos h1, if_pos h1]; exact u_C_Programs
  rw [if_neg h1, if_neg h1]
  by_cases h2 : k < 3
  · rw [if_pos h2, if_pos h2]; exact u_C_ops (by omega)
  rw [if_neg h2, if_neg h2]
  by_cases h3 : k < 4
  · rw [if_pos h3, if_pos h3]; exact u_C_nums (by omega)
  rw [if_neg h3, if_neg h3]
  by_cases h4 : k < 5
  · rw [if_pos h4, if_pos h4]; exact u_C_procs
  rw [if_neg h4, if_neg h4]
  by_cases h5 : k < 6
  · rw [if_pos h5, if_pos h5]; exact u_C_jobs
  rw [if_neg h5, if_neg h5]
  by_cases h6 : k < 7
  · rw [if_pos h6, if_pos h6]; exact u_C_Terminal (Or.inl (by decide))
  rw [if_neg h6, if_neg h6]
  by_cases h7 : k < 8
  · rw [if_pos h7, if_pos h7]; exact u_C_Display (Or.inl (by decide))
  rw [if_neg h7, if_neg h7]
  by_cases h8 : k < 9
  · rw [if_pos h8, if_pos h8]; exact u_C_codes (by omega)
  rw [if_neg h8, if_neg h8]
  by_cases h9 : k < 17
  · rw [if_pos h9, if_pos h9]; exact u_C_JobProcess (Or.inl (by decide))
  rw [if_neg h9, if_neg h9]
  by_cases h17 : k < 21
  · rw [if_pos h17, if_pos h17]; exact u_C_Job (Or.inr (by omega))
  rw [if_neg h17, if_neg h17]
  by_cases h21 : k < 27
  · rw [if_pos h21, if_pos h21]; exact u_C_NumberRow (Or.inl (by decide))
  rw [if_neg h21, if_neg h21]
  by_cases h27 : k < 33
  · rw [if_pos h27, if_pos h27]; exact u_C_rowarr (by omega)
  rw [if_neg h27, if_neg h27]
theorem h2_C_29 {ad : Nat → Nat} {cs : Nat → ClassId} {σ : q_St} {i : Nat} {x : Int32} (hi : i < 4) : ∀ k, k ≠ 17 + i → cC ad cs (q_up σ 29 i x) k = cC ad cs σ k := by
  intro k hk
  unfold cC
  by_cases h0 : k < 1
  · rw [if_pos h0, if_pos h0]; exact u_C_JT (Or.inl (by decide))
  rw [if_neg h0, if_neg h0]
  by_cases h1 : k < 2
  · rw [if_pos h1, if_pos h1]; exact u_C_Programs
  rw [if_neg h1, if_neg h1]
  by_cases h2 : k < 3
  · rw [if_pos h2, if_pos h2]; exact u_C_ops (by omega)
  rw [if_neg h2, if_neg h2]
  by_cases h3 : k < 4
  · rw [if_pos h3, if_pos h3]; exact u_C_nums (by omega)
  rw [if_neg h3, if_neg h3]
  by_cases h4 : k < 5
  · rw [if_pos h4, if_pos h4]; exact u_C_procs
  rw [if_neg h4, if_neg h4]
  by_cases h5 : k < 6
  · rw [if_pos h5, if_pos h5]; exact u_C_jobs
  rw [if_neg h5, if_neg h5]
  by_cases h6 : k < 7
  · rw [if_pos h6, if_pos h6]; exact u_C_Terminal (Or.inl (by decide))
  rw [if_neg h6, if_neg h6]
  by_cases h7 : k < 8
  · rw [if_pos h7, if_pos h7]; exact u_C_Display (Or.inl (by decide))
  rw [if_neg h7, if_neg h7]
  by_cases h8 : k < 9
  · rw [if_pos h8, if_pos h8]; exact u_C_codes (by omega)
  rw [if_neg h8, if_neg h8]
  by_cases h9 : k < 17
  · rw [if_pos h9, if_pos h9]; exact u_C_JobProcess (Or.inl (by decide))
  rw [if_neg h9, if_neg h9]
  by_cases h17 : k < 21
  · rw [if_pos h17, if_pos h17]; exact u_C_Job (Or.inr (by omega))
  rw [if_neg h17, if_neg h17]
  by_cases h21 : k < 27
  · rw [if_pos h21, if_pos h21]; exact u_C_NumberRow (Or.inl (by decide))
  rw [if_neg h21, if_neg h21]
  by_cases h27 : k < 33
  · rw [if_pos h27, if_pos h27]; exact u_C_rowarr (by omega)
  rw [if_neg h27, if_neg h27]
theorem h2_C_30 {ad : Nat → Nat} {cs : Nat → ClassId} {σ : q_St} {i : Nat} {x : Int32} (hi : i < 4) : ∀ k, k ≠ 17 + i → cC ad cs (q_up σ 30 i x) k = cC ad cs σ k := by
  intro k hk
  unfold cC
  by_cases h0 : k < 1
  · rw [if_pos h0, if_pos h0]; exact u_C_JT (Or.inl (by decide))
  rw [if_neg h0, if_neg h0]
  by_cases h1 : k < 2
  · rw [if_pos h1, if_pos h1]; exact u_C_Programs
  rw [if_neg h1, if_neg h1]
  by_cases h2 : k < 3
  · rw [if_pos h2, if_pos h2]; exact u_C_ops (by omega)
  rw [if_neg h2, if_neg h2]
  by_cases h3 : k < 4
  · rw [if_pos h3, if_pos h3]; exact u_C_nums (by omega)
  rw [if_neg h3, if_neg h3]
  by_cases h4 : k < 5
  · rw [if_pos h4, if_pos h4]; exact u_C_procs
  rw [if_neg h4, if_neg h4]
  by_cases h5 : k < 6
  · rw [if_pos h5, if_pos h5]; exact u_C_jobs
  rw [if_neg h5, if_neg h5]
  by_cases h6 : k < 7
  · rw [if_pos h6, if_pos h6]; exact u_C_Terminal (Or.inl (by decide))
  rw [if_neg h6, if_neg h6]
  by_cases h7 : k < 8
  · rw [if_pos h7, if_pos h7]; exact u_C_Display (Or.inl (by decide))
  rw [if_neg h7, if_neg h7]
  by_cases h8 : k < 9
  · rw [if_pos h8, if_pos h8]; exact u_C_codes (by omega)
  rw [if_neg h8, if_neg h8]
  by_cases h9 : k < 17
  · rw [if_pos h9, if_pos h9]; exact u_C_JobProcess (Or.inl (by decide))
  rw [if_neg h9, if_neg h9]
  by_cases h17 : k < 21
  · rw [if_pos h17, if_pos h17]; exact u_C_Job (Or.inr (by omega))
  rw [if_neg h17, if_neg h17]
  by_cases h21 : k < 27
  · rw [if_pos h21, if_pos h21]; exact u_C_NumberRow (Or.inl (by decide))
  rw [if_neg h21, if_neg h21]
  by_cases h27 : k < 33
  · rw [if_pos h27, if_pos h27]; exact u_C_rowarr (by omega)
  rw [if_neg h27, if_neg h27]
theorem h2_C_31 {ad : Nat → Nat} {cs : Nat → ClassId} {σ : q_St} {i : Nat} {x : Int32} (hi : i < 4) : ∀ k, k ≠ 17 + i → cC ad cs (q_up σ 31 i x) k = cC ad cs σ k := by
  intro k hk
  unfold cC
  by_cases h0 : k < 1
  · rw [if_pos h0, if_pos h0]; exact u_C_JT (Or.inl (by decide))
  rw [if_neg h0, if_neg h0]
  by_cases h1 : k < 2
  · rw [if_pos h1, if_pos h1]; exact u_C_Programs
  rw [if_neg h1, if_neg h1]
  by_cases h2 : k < 3
  · rw [if_pos h2, if_pos h2]; exact u_C_ops (by omega)
  rw [if_neg h2, if_neg h2]
  by_cases h3 : k < 4
  · rw [if_pos h3, if_pos h3]; exact u_C_nums (by omega)
  rw [if_neg h3, if_neg h3]
  by_cases h4 : k < 5
  · rw [if_pos h4, if_pos h4]; exact u_C_procs
  rw [if_neg h4, if_neg h4]
  by_cases h5 : k < 6
  · rw [if_pos h5, if_pos h5]; exact u_C_jobs
  rw [if_neg h5, if_neg h5]
  by_cases h6 : k < 7
  · rw [if_pos h6, if_pos h6]; exact u_C_Terminal (Or.inl (by decide))
  rw [if_neg h6, if_neg h6]
  by_cases h7 : k < 8
  · rw [if_pos h7, if_pos h7]; exact u_C_Display (Or.inl (by decide))
  rw [if_neg h7, if_neg h7]
  by_cases h8 : k < 9
  · rw [if_pos h8, if_pos h8]; exact u_C_codes (by omega)
  rw [if_neg h8, if_neg h8]
  by_cases h9 : k < 17
  · rw [if_pos h9, if_pos h9]; exact u_C_JobProcess (Or.inl (by decide))
  rw [if_neg h9, if_neg h9]
  by_cases h17 : k < 21
  · rw [if_pos h17, if_pos h17]; exact u_C_Job (Or.inr (by omega))
  rw [if_neg h17, if_neg h17]
  by_cases h21 : k < 27
  · rw [if_pos h21, if_pos h21]; exact u_C_NumberRow (Or.inl (by decide))
  rw [if_neg h21, if_neg h21]
  by_cases h27 : k < 33
  · rw [if_pos h27, if_pos h27]; exact u_C_rowarr (by omega)
  rw [if_neg h27, if_neg h27]
theorem h2_C_26 {ad : Nat → Nat} {cs : Nat → ClassId} {σ : q_St} {i : Nat} {x : Int32} (hi : i < 6) : ∀ k, k ≠ 21 + i → cC ad cs (q_up σ 26 i x) k = cC ad cs σ k := by
  intro k hk
  unfold cC
  by_cases h0 : k < 1
  · rw [if_pos h0, if_pos h0]; exact u_C_JT (Or.inl (by decide))
  rw [if_neg h0, if_neg h0]
  by_cases h1 : k < 2
  · rw [if_pos h1, if_pos h1]; exact u_C_Programs
  rw [if_neg h1, if_neg h1]
  by_cases h2 : k < 3
  · rw [if_pos h2, if_pos h2]; exact u_C_ops (by omega)
  rw [if_neg h2, if_neg h2]
  by_cases h3 : k < 4
  · rw [if_pos h3, if_pos h3]; exact u_C_nums (by omega)
  rw [if_neg h3, if_neg h3]
  by_cases h4 : k < 5
  · rw [if_pos h4, if_pos h4]; exact u_C_procs
  rw [if_neg h4, if_neg h4]
  by_cases h5 : k < 6
  · rw [if_pos h5, if_pos h5]; exact u_C_jobs
  rw [if_neg h5, if_neg h5]
  by_cases h6 : k < 7
  · rw [if_pos h6, if_pos h6]; exact u_C_Terminal (Or.inl (by decide))
  rw [if_neg h6, if_neg h6]
  by_cases h7 : k < 8
  · rw [if_pos h7, if_pos h7]; exact u_C_Display (Or.inl (by decide))
  rw [if_neg h7, if_neg h7]
  by_cases h8 : k < 9
  · rw [if_pos h8, if_pos h8]; exact u_C_codes (by omega)
  rw [if_neg h8, if_neg h8]
  by_cases h9 : k < 17
  · rw [if_pos h9, if_pos h9]; exact u_C_JobProcess (Or.inl (by decide))
  rw [if_neg h9, if_neg h9]
  by_cases h17 : k < 21
  · rw [if_pos h17, if_pos h17]; exact u_C_Job (Or.inl (by decide))
  rw [if_neg h17, if_neg h17]
  by_cases h21 : k < 27
  · rw [if_pos h21, if_pos h21]; exact u_C_NumberRow (Or.inr (by omega))
  rw [if_neg h21, if_neg h21]
  by_cases h27 : k < 33
  · rw [if_pos h27, if_pos h27]; exact u_C_rowarr (by omega)
  rw [if_neg h27, if_neg h27]
theorem h2_C_27 {ad : Nat → Nat} {cs : Nat → ClassId} {σ : q_St} {i : Nat} {x : Int32} (hi : i < 6) : ∀ k, k ≠ 21 + i → cC ad cs (q_up σ 27 i x) k = cC ad cs σ k := by
  intro k hk
  unfold cC
  by_cases h0 : k < 1
  · rw [if_pos h0, if_pos h0]; exact u_C_JT (Or.inl (by decide))
  rw [if_neg h0, if_neg h0]
  by_cases h1 : k < 2
  · rw [if_pos h1, if_pos h1]; exact u_C_Programs
  rw [if_neg h1, if_neg h1]
  by_cases h2 : k < 3
  · rw [if_pos h2, if_pos h2]; exact u_C_ops (by omega)
  rw [if_neg h2, if_neg h2]
  by_cases h3 : k < 4
  · rw [if_pos h3, if_pos h3]; exact u_C_nums (by omega)
  rw [if_neg h3, if_neg h3]
  by_cases h4 : k < 5
  · rw [if_pos h4, if_pos h4]; exact u_C_procs
  rw [if_neg h4, if_neg h4]
  by_cases h5 : k < 6
  · rw [if_pos h5, if_pos h5]; exact u_C_jobs
  rw [if_neg h5, if_neg h5]
  by_cases h6 : k < 7
  · rw [if_pos h6, if_pos h6]; exact u_C_Terminal (Or.inl (by decide))
  rw [if_neg h6, if_neg h6]
  by_cases h7 : k < 8
  · rw [if_pos h7, if_pos h7]; exact u_C_Display (Or.inl (by decide))
  rw [if_neg h7, if_neg h7]
  by_cases h8 : k < 9
  · rw [if_pos h8, if_pos h8]; exact u_C_codes (by omega)
  rw [if_neg h8, if_neg h8]
  by_cases h9 : k < 17
  · rw [if_pos h9, if_pos h9]; exact u_C_JobProcess (Or.inl (by decide))
  rw [if_neg h9, if_neg h9]
  by_cases h17 : k < 21
  · rw [if_pos h17, if_pos h17]; exact u_C_Job (Or.inl (by decide))
  rw [if_neg h17, if_neg h17]
  by_cases h21 : k < 27
  · rw [if_pos h21, if_pos h21]; exact u_C_NumberRow (Or.inr (by omega))
  rw [if_neg h21, if_neg h21]
  by_cases h27 : k < 33
  · rw [if_pos h27, if_pos h27]; exact u_C_rowarr (by omega)
  rw [if_neg h27, if_neg h27]
theorem h2_C_rowarr {ad : Nat → Nat} {cs : Nat → ClassId} {σ : q_St} {i j : Nat} {x : Int32} (hi : i < 6) : ∀ k, k ≠ 27 + i → cC ad cs (q_up σ (10 + i) j x) k = cC ad cs σ k := by
  intro k hk
  unfold cC
  by_cases h0 : k < 1
  · rw [if_pos h0, if_pos h0]; exact u_C_JT (Or.inl (by intro g hg; simp only [List.mem_cons, List.not_mem_nil, or_false] at hg; omega))
  rw [if_neg h0, if_neg h0]
  by_cases h1 : k < 2
  · rw [if_pos h1, if_pos h1]; exact u_C_Programs
  rw [if_neg h1, if_neg h1]
  by_cases h2 : k < 3
  · rw [if_pos h2, if_pos h2]; exact u_C_ops (by omega)
  rw [if_neg h2, if_neg h2]
  by_cases h3 : k < 4
  · rw [if_pos h3, if_pos h3]; exact u_C_nums (by omega)
  rw [if_neg h3, if_neg h3]
  by_cases h4 : k < 5
  · rw [if_pos h4, if_pos h4]; exact u_C_procs
  rw [if_neg h4, if_neg h4]
  by_cases h5 : k < 6
  · rw [if_pos h5, if_pos h5]; exact u_C_jobs
  rw [if_neg h5, if_neg h5]
  by_cases h6 : k < 7
  · rw [if_pos h6, if_pos h6]; exact u_C_Terminal (Or.inl (by intro g hg; simp only [List.mem_cons, List.not_mem_nil, or_false] at hg; omega))
  rw [if_neg h6, if_neg h6]
  by_cases h7 : k < 8
  · rw [if_pos h7, if_pos h7]; exact u_C_Display (Or.inl (by intro g hg; simp only [List.mem_cons, List.not_mem_nil, or_false] at hg; omega))
  rw [if_neg h7, if_neg h7]
  by_cases h8 : k < 9
  · rw [if_pos h8, if_pos h8]; exact u_C_codes (by omega)
  rw [if_neg h8, if_neg h8]
  by_cases h9 : k < 17
  · rw [if_pos h9, if_pos h9]; exact u_C_JobProcess (Or.inl (by intro g hg; simp only [List.mem_cons, List.not_mem_nil, or_false] at hg; omega))
  rw [if_neg h9, if_neg h9]
  by_cases h17 : k < 21
  · rw [if_pos h17, if_pos h17]; exact u_C_Job (Or.inl (by intro g hg; simp only [List.mem_cons, List.not_mem_nil, or_false] at hg; omega))
  rw [if_neg h17, if_neg h17]
  by_cases h21 : k < 27
  · rw [if_pos h21, if_pos h21]; exact u_C_NumberRow (Or.inl (by intro g hg; simp only [List.mem_cons, List.not_mem_nil, or_false] at hg; omega))
  rw [if_neg h21, if_neg h21]
  by_cases h27 : k < 33
  · rw [if_pos h27, if_pos h27]; exact u_C_rowarr (by omega)
  rw [if_neg h27, if_neg h27]
section ROWSC
variable {p : Program} {l : Launch} {e : Env} {R : Room} {s : State} {m : MethodId} {args : Array Value} {below : List Frame} {meth : Method} {c : Code} {H H0 : Heap} {locs : List Loc} {cells slots : Nat} {Q : State → Prop}
variable {cc : ByteArray} {pc : Nat} {ls : Array Slot} {rest : List Value} {D : va_G} {A : Nat → Prop} {ad : Nat → Nat} {cs : Nat → ClassId} {σ : q_St}
theorem G_JT_JT_foregroundJob (hx : p.tables.exec = Jvm.exec) (hb : c.code = cc) (htg : ∀ w ∈ GW, w.before args s = true) (hown : s.vm.findClass R_JT = some m.cls) (hK : va_K D vwCl (tyL cs) s) (hN : ∀ w ∈ NW, va_Nw w s) (I : q_I D vwCl A H0 (q_ws 33 ad (cC ad cs σ)) H locs) (hdg : decode cc pc = .ok (.getfield 39, 3)) (kk : W p l e R s m args below meth c H locs cells slots Q (F0 m (pc + 3) ls (q_rv ad 17 (σ 20 0) :: rest))) : W p l e R s m args below meth c H locs cells slots Q (F0 m pc ls (.ref (ad 0) :: rest)) :=
  q_get (own := "JobTerminal") (C := R_JT) (T := F_JT) (N := 6) (ci := 6) hx hb htg i_JT hown hK I 0 (by decide) a_C_JT rfl 4 (by decide) (htg _ mw320) rfl hdg kk
theorem G_JT_JT_jobs (hx : p.tables.exec = Jvm.exec) (hb : c.code = cc) (htg : ∀ w ∈ GW, w.before args s = true) (hown : s.vm.findClass R_JT = some m.cls) (hK : va_K D vwCl (tyL cs) s) (hN : ∀ w ∈ NW, va_Nw w s) (I : q_I D vwCl A H0 (q_ws 33 ad (cC ad cs σ)) H locs) (hdg : decode cc pc = .ok (.getfield 32, 3)) (kk : W p l e R s m args below meth c H locs cells slots Q (F0 m (pc + 3) ls (.ref (ad 5) :: rest))) : W p l e R s m args below meth c H locs cells slots Q (F0 m pc ls (.ref (ad 0) :: rest)) :=
  q_get (own := "JobTerminal") (C := R_JT) (T := F_JT) (N := 6) (ci := 6) hx hb htg i_JT hown hK I 0 (by decide) a_C_JT rfl 2 (by decide) (htg _ mw321) rfl hdg kk
theorem G_JT_JT_latestSlot (hx : p.tables.exec = Jvm.exec) (hb : c.code = cc) (htg : ∀ w ∈ GW, w.before args s = true) (hown : s.vm.findClass R_JT = some m.cls) (hK : va_K D vwCl (tyL cs) s) (hN : ∀ w ∈ NW, va_Nw w s) (I : q_I D vwCl A H0 (q_ws 33 ad (cC ad cs σ)) H locs) (hdg : decode cc pc = .ok (.getfield 43, 3)) (kk : W p l e R s m args below meth c H locs cells slots Q (F0 m (pc + 3) ls (.int (σ 21 0) :: rest))) : W p l e R s m args below meth c H locs cells slots Q (F0 m pc ls (.ref (ad 0) :: rest)) :=
  q_get (own := "JobTerminal") (C := R_JT) (T := F_JT) (N := 6) (ci := 6) hx hb htg i_JT hown hK I 0 (by decide) a_C_JT rfl 5 (by decide) (htg _ mw322) rfl hdg kk
theorem G_JT_JT_processes (hx : p.tables.exec = Jvm.exec) (hb : c.code = cc) (htg : ∀ w ∈ GW, w.before args s = true) (hown : s.vm.findClass R_JT = some m.cls) (hK : va_K D vwCl (tyL cs) s) (hN : ∀ w ∈ NW, va_Nw w s) (I : q_I D vwCl A H0 (q_ws 33 ad (cC ad cs σ)) H locs) (hdg : decode cc pc = .ok (.getfield 25, 3)) (kk : W p l e R s m args below meth c H locs cells slots Q (F0 m (pc + 3) ls (.ref (ad 4) :: rest))) : W p l e R s m args below meth c H locs cells slots Q (F0 m pc ls (.ref (ad 0) :: rest)) :=
  q_get (own := "JobTerminal") (C := R_JT) (T := F_JT) (N := 6) (ci := 6) hx hb htg i_JT hown hK I 0 (by decide) a_C_JT rfl 1 (by decide) (htg _ mw323) rfl hdg kk
theorem G_JT_JT_programs (hx : p.tables.exec = Jvm.exec) (hb : c.code = cc) (htg : ∀ w ∈ GW, w.before args s = true) (hown : s.vm.findClass R_JT = some m.cls) (hK : va_K D vwCl (tyL cs) s) (hN : ∀ w ∈ NW, va_Nw w s) (I : q_I D vwCl A H0 (q_ws 33 ad (cC ad cs σ)) H locs) (hdg : decode cc pc = .ok (.getfield 10, 3)) (kk : W p l e R s m args below meth c H locs cells slots Q (F0 m (pc + 3) ls (.ref (ad 1) :: rest))) : W p l e R s m args below meth c H locs cells slots Q (F0 m pc ls (.ref (ad 0) :: rest)) :=
  q_get (own := "JobTerminal") (C := R_JT) (T := F_JT) (N := 6) (ci := 6) hx hb htg i_JT hown hK I 0 (by decide) a_C_JT rfl 0 (by decide) (htg _ mw324) rfl hdg kk
theorem G_JT_JT_terminal (hx : p.tables.exec = Jvm.exec) (hb : c.code = cc) (htg : ∀ w ∈ GW, w.before args s = true) (hown : s.vm.findClass R_JT = some m.cls) (hK : va_K D vwCl (tyL cs) s) (hN : ∀ w ∈ NW, va_Nw w s) (I : q_I D vwCl A H0 (q_ws 33 ad (cC ad cs σ)) H locs) (hdg : decode cc pc = .ok (.getfield 19, 3)) (kk : W p l e R s m args below meth c H locs cells slots Q (F0 m (pc + 3) ls (.ref (ad 6) :: rest))) : W p l e R s m args below meth c H locs cells slots Q (F0 m pc ls (.ref (ad 0) :: rest)) :=
  q_get (own := "JobTerminal") (C := R_JT) (T := F_JT) (N := 6) (ci := 6) hx hb htg i_JT hown hK I 0 (by decide) a_C_JT rfl 3 (by decide) (htg _ mw325) rfl hdg kk
theorem G_JT_Display_total (hx : p.tables.exec = Jvm.exec) (hb : c.code = cc) (htg : ∀ w ∈ GW, w.before args s = true) (hown : s.vm.findClass R_JT = some m.cls) (hK : va_K D vwCl (tyL cs) s) (hN : ∀ w ∈ NW, va_Nw w s) (I : q_I D vwCl A H0 (q_ws 33 ad (cC ad cs σ)) H locs) (hdg : decode cc pc = .ok (.getfield 180, 3)) (kk : W p l e R s m args below meth c H locs cells slots Q (F0 m (pc + 3) ls (.int (σ 25 0) :: rest))) : W p l e R s m args below meth c H locs cells slots Q (F0 m pc ls (.ref (ad 7) :: rest)) :=
  q_getN (host := "JobTerminal") (own := "JobTerminal") (C := R_Display) (T := F_Display) (N := 3) (ci := 0) hx hb htg i_Display hown hK I 7 (by decide) a_C_Display rfl 2 (by decide) (va_Nw.use rfl (hN _ (List.mem_of_getElem? (i := 2) rfl))) rfl hdg kk
theorem G_JT_Job_number (hx : p.tables.exec = Jvm.exec) (hb : c.code = cc) (htg : ∀ w ∈ GW, w.before args s = true) (hown : s.vm.findClass R_JT = some m.cls) (hK : va_K D vwCl (tyL cs) s) (hN : ∀ w ∈ NW, va_Nw w s) (I : q_I D vwCl A H0 (q_ws 33 ad (cC ad cs σ)) H locs) {i : Nat} (hi : i < 4) (hdg : decode cc pc = .ok (.getfield 111, 3)) (kk : W p l e R s m args below meth c H locs cells slots Q (F0 m (pc + 3) ls (.int (nI i) :: rest))) : W p l e R s m args below meth c H locs cells slots Q (F0 m pc ls (.ref (ad (17 + i)) :: rest)) :=
  q_getN (host := "JobTerminal") (own := "JobTerminal") (C := R_Job) (T := F_Job) (N := 6) (ci := 1) hx hb htg i_Job hown hK I (17 + i) (by omega) (a_C_Job hi) rfl 0 (by decide) (va_Nw.use rfl (hN _ (List.mem_of_getElem? (i := 16) rfl))) rfl hdg kk
theorem G_JT_Job_pipe (hx : p.tables.exec = Jvm.exec) (hb : c.code = cc) (htg : ∀ w ∈ GW, w.before args s = true) (hown : s.vm.findClass R_JT = some m.cls) (hK : va_K D vwCl (tyL cs) s) (hN : ∀ w ∈ NW, va_Nw w s) (I : q_I D vwCl A H0 (q_ws 33 ad (cC ad cs σ)) H locs) {i : Nat} (hi : i < 4) (hdg : decode cc pc = .ok (.getfield 204, 3)) (kk : W p l e R s m args below meth c H locs cells slots Q (F0 m (pc + 3) ls (.ref (ad (21 + (2 + i))) :: rest))) : W p l e R s m args below meth c H locs cells slots Q (F0 m pc ls (.ref (ad (17 + i)) :: rest)) :=
  q_getN (host := "JobTerminal") (own := "JobTerminal") (C := R_Job) (T := F_Job) (N := 6) (ci := 1) hx hb htg i_Job hown hK I (17 + i) (by omega) (a_C_Job hi) rfl 1 (by decide) (va_Nw.use rfl (hN _ (List.mem_of_getElem? (i := 17) rfl))) rfl hdg kk
theorem G_JT_Job_second (hx : p.tables.exec = Jvm.exec) (hb : c.code = cc) (htg : ∀ w ∈ GW, w.before args s = true) (hown : s.vm.findClass R_JT = some m.cls) (hK : va_K D vwCl (tyL cs) s) (hN : ∀ w ∈ NW, va_Nw w s) (I : q_I D vwCl A H0 (q_ws 33 ad (cC ad cs σ)) H locs) {i : Nat} (hi : i < 4) (hdg : decode cc pc = .ok (.getfield 200, 3)) (kk : W p l e R s m args below meth c H locs cells slots Q (F0 m (pc + 3) ls (q_rv ad 9 (σ 29 i) :: rest))) : W p l e R s m args below meth c H locs cells slots Q (F0 m pc ls (.ref (ad (17 + i)) :: rest)) :=
  q_getN (host := "JobTerminal") (own := "JobTerminal") (C := R_Job) (T := F_Job) (N := 6) (ci := 1) hx hb htg i_Job hown hK I (17 + i) (by omega) (a_C_Job hi) rfl 3 (by decide) (va_Nw.use rfl (hN _ (List.mem_of_getElem? (i := 18) rfl))) rfl hdg kk
theorem G_JT_Job_settledState (hx : p.tables.exec = Jvm.exec) (hb : c.code = cc) (htg : ∀ w ∈ GW, w.before args s = true) (hown : s.vm.findClass R_JT = some m.cls) (hK : va_K D vwCl (tyL cs) s) (hN : ∀ w ∈ NW, va_Nw w s) (I : q_I D vwCl A H0 (q_ws 33 ad (cC ad cs σ)) H locs) {i : Nat} (hi : i < 4) (hdg : decode cc pc = .ok (.getfield 207, 3)) (kk : W p l e R s m args below meth c H locs cells slots Q (F0 m (pc + 3) ls (.int (σ 31 i) :: rest))) : W p l e R s m args below meth c H locs cells slots Q (F0 m pc ls (.ref (ad (17 + i)) :: rest)) :=
  q_getN (host := "JobTerminal") (own := "JobTerminal") (C := R_Job) (T := F_Job) (N := 6) (ci := 1) hx hb htg i_Job hown hK I (17 + i) (by omega) (a_C_Job hi) rfl 5 (by decide) (va_Nw.use rfl (hN _ (List.mem_of_getElem? (i := 20) rfl))) rfl hdg kk
theorem G_JT_Job_untold (hx : p.tables.exec = Jvm.exec) (hb : c.code = cc) (htg : ∀ w ∈ GW, w.before args s = true) (hown : s.vm.findClass R_JT = some m.cls) (hK : va_K D vwCl (tyL cs) s) (hN : ∀ w ∈ NW, va_Nw w s) (I : q_I D vwCl A H0 (q_ws 33 ad (cC ad cs σ)) H locs) {i : Nat} (hi : i < 4) (hdg : decode cc pc = .ok (.getfield 136, 3)) (kk : W p l e R s m args below meth c H locs cells slots Q (F0 m (pc + 3) ls (.int (σ 30 i) :: rest))) : W p l e R s m args below meth c H locs cells slots Q (F0 m pc ls (.ref (ad (17 + i)) :: rest)) :=
  q_getN (host := "JobTerminal") (own := "JobTerminal") (C := R_Job) (T := F_Job) (N := 6) (ci := 1) hx hb htg i_Job hown hK I (17 + i) (by omega) (a_C_Job hi) rfl 4 (by decide) (va_Nw.use rfl (hN _ (List.mem_of_getElem? (i := 19) rfl))) rfl hdg kk
theorem G_JT_JobProcess_line (hx : p.tables.exec = Jvm.exec) (hb : c.code = cc) (htg : ∀ w ∈ GW, w.before args s = true) (hown : s.vm.findClass R_JT = some m.cls) (hK : va_K D vwCl (tyL cs) s) (hN : ∀ w ∈ NW, va_Nw w s) (I : q_I D vwCl A H0 (q_ws 33 ad (cC ad cs σ)) H locs) {i : Nat} (hi : i < 8) (hdg : decode cc pc = .ok (.getfield 219, 3)) (kk : W p l e R s m args below meth c H locs cells slots Q (F0 m (pc + 3) ls (.int (σ 35 i) :: rest))) : W p l e R s m args below meth c H locs cells slots Q (F0 m pc ls (.ref (ad (9 + i)) :: rest)) :=
  q_getN (host := "JobTerminal") (own := "JobTerminal") (C := R_JobProcess) (T := F_JobProcess) (N := 10) (ci := 2) hx hb htg i_JobProcess hown hK I (9 + i) (by omega) (a_C_JobProcess hi) rfl 3 (by decide) (va_Nw.use rfl (hN _ (List.mem_of_getElem? (i := 12) rfl))) rfl hdg kk
theorem G_JT_JobProcess_nap (hx : p.tables.exec = Jvm.exec) (hb : c.code = cc) (htg : ∀ w ∈ GW, w.before args s = true) (hown : s.vm.findClass R_JT = some m.cls) (hK : va_K D vwCl (tyL cs) s) (hN : ∀ w ∈ NW, va_Nw w s) (I : q_I D vwCl A H0 (q_ws 33 ad (cC ad cs σ)) H locs) {i : Nat} (hi : i < 8) (hdg : decode cc pc = .ok (.getfield 161, 3)) (kk : W p l e R s m args below meth c H locs cells slots Q (F0 m (pc + 3) ls (.int (σ 41 i) :: rest))) : W p l e R s m args below meth c H locs cells slots Q (F0 m pc ls (.ref (ad (9 + i)) :: rest)) :=
  q_getN (host := "JobTerminal") (own := "JobTerminal") (C := R_JobProcess) (T := F_JobProcess) (N := 10) (ci := 2) hx hb htg i_JobProcess hown hK I (9 + i) (by omega) (a_C_JobProcess hi) rfl 9 (by decide) (va_Nw.use rfl (hN _ (List.mem_of_getElem? (i := 14) rfl))) rfl hdg kk
theorem G_JT_JobProcess_owner (hx : p.tables.exec = Jvm.exec) (hb : c.code = cc) (htg : ∀ w ∈ GW, w.before args s = true) (hown : s.vm.findClass R_JT = some m.cls) (hK : va_K D vwCl (tyL cs) s) (hN : ∀ w ∈ NW, va_Nw w s) (I : q_I D vwCl A H0 (q_ws 33 ad (cC ad cs σ)) H locs) {i : Nat} (hi : i < 8) (hdg : decode cc pc = .ok (.getfield 152, 3)) (kk : W p l e R s m args below meth c H locs cells slots Q (F0 m (pc + 3) ls (q_rv ad 17 (σ 32 i) :: rest))) : W p l e R s m args below meth c H locs cells slots Q (F0 m pc ls (.ref (ad (9 + i)) :: rest)) :=
  q_getN (host := "JobTerminal") (own := "JobTerminal") (C := R_JobProcess) (T := F_JobProcess) (N := 10) (ci := 2) hx hb htg i_JobProcess hown hK I (9 + i) (by omega) (a_C_JobProcess hi) rfl 0 (by decide) (va_Nw.use rfl (hN _ (List.mem_of_getElem? (i := 8) rfl))) rfl hdg kk
theorem G_JT_JobProcess_program (hx : p.tables.exec = Jvm.exec) (hb : c.code = cc) (htg : ∀ w ∈ GW, w.before args s = true) (hown : s.vm.findClass R_JT = some m.cls) (hK : va_K D vwCl (tyL cs) s) (hN : ∀ w ∈ NW, va_Nw w s) (I : q_I D vwCl A H0 (q_ws 33 ad (cC ad cs σ)) H locs) {i : Nat} (hi : i < 8) (hdg : decode cc pc = .ok (.getfield 216, 3)) (kk : W p l e R s m args below meth c H locs cells slots Q (F0 m (pc + 3) ls (.int (σ 34 i) :: rest))) : W p l e R s m args below meth c H locs cells slots Q (F0 m pc ls (.ref (ad (9 + i)) :: rest)) :=
  q_getN (host := "JobTerminal") (own := "JobTerminal") (C := R_JobProcess) (T := F_JobProcess) (N := 10) (ci := 2) hx hb htg i_JobProcess hown hK I (9 + i) (by omega) (a_C_JobProcess hi) rfl 2 (by decide) (va_Nw.use rfl (hN _ (List.mem_of_getElem? (i := 11) rfl))) rfl hdg kk
theorem G_JT_JobProcess_register (hx : p.tables.exec = Jvm.exec) (hb : c.code = cc) (htg : ∀ w ∈ GW, w.before args s = true) (hown : s.vm.findClass R_JT = some m.cls) (hK : va_K D vwCl (tyL cs) s) (hN : ∀ w ∈ NW, va_Nw w s) (I : q_I D vwCl A H0 (q_ws 33 ad (cC ad cs σ)) H locs) {i : Nat} (hi : i < 8) (hdg : decode cc pc = .ok (.getfield 232, 3)) (kk : W p l e R s m args below meth c H locs cells slots Q (F0 m (pc + 3) ls (.int (σ 36 i) :: rest))) : W p l e R s m args below meth c H locs cells slots Q (F0 m pc ls (.ref (ad (9 + i)) :: rest)) :=
  q_getN (host := "JobTerminal") (own := "JobTerminal") (C := R_JobProcess) (T := F_JobProcess) (N := 10) (ci := 2) hx hb htg i_JobProcess hown hK I (9 + i) (by omega) (a_C_JobProcess hi) rfl 4 (by decide) (va_Nw.use rfl (hN _ (List.mem_of_getElem? (i := 13) rfl))) rfl hdg kk
theorem G_JT_JobProcess_state (hx : p.tables.exec = Jvm.exec) (hb : c.code = cc) (htg : ∀ w ∈ GW, w.before args s = true) (hown : s.vm.findClass R_JT = some m.cls) (hK : va_K D vwCl (tyL cs) s) (hN : ∀ w ∈ NW, va_Nw w s) (I : q_I D vwCl A H0 (q_ws 33 ad (cC ad cs σ)) H locs) {i : Nat} (hi : i < 8) (hdg : decode cc pc = .ok (.getfield 159, 3)) (kk : W p l e R s m args below meth c H locs cells slots Q (F0 m (pc + 3) ls (.int (σ 33 i) :: rest))) : W p l e R s m args below meth c H locs cells slots Q (F0 m pc ls (.ref (ad (9 + i)) :: rest)) :=
  q_getN (host := "JobTerminal") (own := "JobTerminal") (C := R_JobProcess) (T := F_JobProcess) (N := 10) (ci := 2) hx hb htg i_JobProcess hown hK I (9 + i) (by omega) (a_C_JobProcess hi) rfl 1 (by decide) (va_Nw.use rfl (hN _ (List.mem_of_getElem? (i := 10) rfl))) rfl hdg kk
theorem G_JT_NumberRow_count (hx : p.tables.exec = Jvm.exec) (hb : c.code = cc) (htg : ∀ w ∈ GW, w.before args s = true) (hown : s.vm.findClass R_JT = some m.cls) (hK : va_K D vwCl (tyL cs) s) (hN : ∀ w ∈ NW, va_Nw w s) (I : q_I D vwCl A H0 (q_ws 33 ad (cC ad cs σ)) H locs) {i : Nat} (hi : i < 6) (hdg : decode cc pc = .ok (.getfield 192, 3)) (kk : W p l e R s m args below meth c H locs cells slots Q (F0 m (pc + 3) ls (.int (σ 27 i) :: rest))) : W p l e R s m args below meth c H locs cells slots Q (F0 m pc ls (.ref (ad (21 + i)) :: rest)) :=
  q_getN (host := "JobTerminal") (own := "JobTerminal") (C := R_NumberRow) (T := F_NumberRow) (N := 3) (ci := 3) hx hb htg i_NumberRow hown hK I (21 + i) (by omega) (a_C_NumberRow hi) rfl 2 (by decide) (va_Nw.use rfl (hN _ (List.mem_of_getElem? (i := 1) rfl))) rfl hdg kk
theorem G_JT_Terminal_display (hx : p.tables.exec = Jvm.exec) (hb : c.code = cc) (htg : ∀ w ∈ GW, w.before args s = true) (hown : s.vm.findClass R_JT = some m.cls) (hK : va_K D vwCl (tyL cs) s) (hN : ∀ w ∈ NW, va_Nw w s) (I : q_I D vwCl A H0 (q_ws 33 ad (cC ad cs σ)) H locs) (hdg : decode cc pc = .ok (.getfield 176, 3)) (kk : W p l e R s m args below meth c H locs cells slots Q (F0 m (pc + 3) ls (.ref (ad 7) :: rest))) : W p l e R s m args below meth c H locs cells slots Q (F0 m pc ls (.ref (ad 6) :: rest)) :=
  q_getN (host := "JobTerminal") (own := "JobTerminal") (C := R_Terminal) (T := F_Terminal) (N := 5) (ci := 5) hx hb htg i_Terminal hown hK I 6 (by decide) a_C_Terminal rfl 2 (by decide) (va_Nw.use rfl (hN _ (List.mem_of_getElem? (i := 5) rfl))) rfl hdg kk
theorem G_JT_Terminal_edit (hx : p.tables.exec = Jvm.exec) (hb : c.code = cc) (htg : ∀ w ∈ GW, w.before args s = true) (hown : s.vm.findClass R_JT = some m.cls) (hK : va_K D vwCl (tyL cs) s) (hN : ∀ w ∈ NW, va_Nw w s) (I : q_I D vwCl A H0 (q_ws 33 ad (cC ad cs σ)) H locs) (hdg : decode cc pc = .ok (.getfield 188, 3)) (kk : W p l e R s m args below meth c H locs cells slots Q (F0 m (pc + 3) ls (.ref (ad (21 + 0)) :: rest))) : W p l e R s m args below meth c H locs cells slots Q (F0 m pc ls (.ref (ad 6) :: rest)) :=
  q_getN (host := "JobTerminal") (own := "JobTerminal") (C := R_Terminal) (T := F_Terminal) (N := 5) (ci := 5) hx hb htg i_Terminal hown hK I 6 (by decide) a_C_Terminal rfl 0 (by decide) (va_Nw.use rfl (hN _ (List.mem_of_getElem? (i := 3) rfl))) rfl hdg kk
theorem G_JT_Terminal_hangs (hx : p.tables.exec = Jvm.exec) (hb : c.code = cc) (htg : ∀ w ∈ GW, w.before args s = true) (hown : s.vm.findClass R_JT = some m.cls) (hK : va_K D vwCl (tyL cs) s) (hN : ∀ w ∈ NW, va_Nw w s) (I : q_I D vwCl A H0 (q_ws 33 ad (cC ad cs σ)) H locs) (hdg : decode cc pc = .ok (.getfield 164, 3)) (kk : W p l e R s m args below meth c H locs cells slots Q (F0 m (pc + 3) ls (.int (σ 23 0) :: rest))) : W p l e R s m args below meth c H locs cells slots Q (F0 m pc ls (.ref (ad 6) :: rest)) :=
  q_getN (host := "JobTerminal") (own := "JobTerminal") (C := R_Terminal) (T := F_Terminal) (N := 5) (ci := 5) hx hb htg i_Terminal hown hK I 6 (by decide) a_C_Terminal rfl 4 (by decide) (va_Nw.use rfl (hN _ (List.mem_of_getElem? (i := 7) rfl))) rfl hdg kk
theorem G_JT_Terminal_modes (hx : p.tables.exec = Jvm.exec) (hb : c.code = cc) (htg : ∀ w ∈ GW, w.before args s = true) (hown : s.vm.findClass R_JT = some m.cls) (hK : va_K D vwCl (tyL cs) s) (hN : ∀ w ∈ NW, va_Nw w s) (I : q_I D vwCl A H0 (q_ws 33 ad (cC ad cs σ)) H locs) (hdg : decode cc pc = .ok (.getfield 58, 3)) (kk : W p l e R s m args below meth c H locs cells slots Q (F0 m (pc + 3) ls (.int (σ 22 0) :: rest))) : W p l e R s m args below meth c H locs cells slots Q (F0 m pc ls (.ref (ad 6) :: rest)) :=
  q_getN (host := "JobTerminal") (own := "JobTerminal") (C := R_Terminal) (T := F_Terminal) (N := 5) (ci := 5) hx hb htg i_Terminal hown hK I 6 (by decide) a_C_Terminal rfl 3 (by decide) (va_Nw.use rfl (hN _ (List.mem_of_getElem? (i := 6) rfl))) rfl hdg kk
theorem G_JT_Terminal_queue (hx : p.tables.exec = Jvm.exec) (hb : c.code = cc) (htg : ∀ w ∈ GW, w.before args s = true) (hown : s.vm.findClass R_JT = some m.cls) (hK : va_K D vwCl (tyL cs) s) (hN : ∀ w ∈ NW, va_Nw w s) (I : q_I D vwCl A H0 (q_ws 33 ad (cC ad cs σ)) H locs) (hdg : decode cc pc = .ok (.getfield 197, 3)) (kk : W p l e R s m args below meth c H locs cells slots Q (F0 m (pc + 3) ls (.ref (ad (21 + 1)) :: rest))) : W p l e R s m args below meth c H locs cells slots Q (F0 m pc ls (.ref (ad 6) :: rest)) :=
  q_getN (host := "JobTerminal") (own := "JobTerminal") (C := R_Terminal) (T := F_Terminal) (N := 5) (ci := 5) hx hb htg i_Terminal hown hK I 6 (by decide) a_C_Terminal rfl 1 (by decide) (va_Nw.use rfl (hN _ (List.mem_of_getElem? (i := 4) rfl))) rfl hdg kk
theorem G_Display_Display_codes (hx : p.tables.exec = Jvm.exec) (hb : c.code = cc) (htg : ∀ w ∈ GW, w.before args s = true) (hown : s.vm.findClass R_Display = some m.cls) (hK : va_K D vwCl (tyL cs) s) (hN : ∀ w ∈ NW, va_Nw w s) (I : q_I D vwCl A H0 (q_ws 33 ad (cC ad cs σ)) H locs) (hdg : decode cc pc = .ok (.getfield 11, 3)) (kk : W p l e R s m args below meth c H locs cells slots Q (F0 m (pc + 3) ls (.ref (ad 8) :: rest))) : W p l e R s m args below meth c H locs cells slots Q (F0 m pc ls (.ref (ad 7) :: rest)) :=
  q_get (own := "JobTerminal$Display") (C := R_Display) (T := F_Display) (N := 3) (ci := 0) hx hb htg i_Display hown hK I 7 (by decide) a_C_Display rfl 0 (by decide) (htg _ mw326) rfl hdg kk
theorem G_Display_Display_next (hx : p.tables.exec = Jvm.exec) (hb : c.code = cc) (htg : ∀ w ∈ GW, w.before args s = true) (hown : s.vm.findClass R_Display = some m.cls) (hK : va_K D vwCl (tyL cs) s) (hN : ∀ w ∈ NW, va_Nw w s) (I : q_I D vwCl A H0 (q_ws 33 ad (cC ad cs σ)) H locs) (hdg : decode cc pc = .ok (.getfield 15, 3)) (kk : W p l e R s m args below meth c H locs cells slots Q (F0 m (pc + 3) ls (.int (σ 24 0) :: rest))) : W p l e R s m args below meth c H locs cells slots Q (F0 m pc ls (.ref (ad 7) :: rest)) :=
  q_get (own := "JobTerminal$Display") (C := R_Display) (T := F_Display) (N := 3) (ci := 0) hx hb htg i_Display hown hK I 7 (by decide) a_C_Display rfl 1 (by decide) (htg _ mw327) rfl hdg kk
theorem G_Display_Display_total (hx : p.tables.exec = Jvm.exec) (hb : c.code = cc) (htg : ∀ w ∈ GW, w.before args s = true) (hown : s.vm.findClass R_Display = some m.cls) (hK : va_K D vwCl (tyL cs) s) (hN : ∀ w ∈ NW, va_Nw w s) (I : q_I D vwCl A H0 (q_ws 33 ad (cC ad cs σ)) H locs) (hdg : decode cc pc = .ok (.getfield 19, 3)) (kk : W p l e R s m args below meth c H locs cells slots Q (F0 m (pc + 3) ls (.int (σ 25 0) :: rest))) : W p l e R s m args below meth c H locs cells slots Q (F0 m pc ls (.ref (ad 7) :: rest)) :=
  q_get (own := "JobTerminal$Display") (C := R_Display) (T := F_Display) (N := 3) (ci := 0) hx hb htg i_Display hown hK I 7 (by decide) a_C_Display rfl 2 (by decide) (htg _ mw328) rfl hdg kk
theorem G_Job_Job_first (hx : p.tables.exec = Jvm.exec) (hb : c.code = cc) (htg : ∀ w ∈ GW, w.before args s = true) (hown : s.vm.findClass R_Job = some m.cls) (hK : va_K D vwCl (tyL cs) s) (hN : ∀ w ∈ NW, va_Nw w s) (I : q_I D vwCl A H0 (q_ws 33 ad (cC ad cs σ)) H locs) {i : Nat} (hi : i < 4) (hdg : decode cc pc = .ok (.getfield 27, 3)) (kk : W p l e R s m args below meth c H locs cells slots Q (F0 m (pc + 3) ls (q_rv ad 9 (σ 28 i) :: rest))) : W p l e R s m args below meth c H locs cells slots Q (F0 m pc ls (.ref (ad (17 + i)) :: rest)) :=
  q_get (own := "JobTerminal$Job") (C := R_Job) (T := F_Job) (N := 6) (ci := 1) hx hb htg i_Job hown hK I (17 + i) (by omega) (a_C_Job hi) rfl 2 (by decide) (htg _ mw329) rfl hdg kk
theorem G_Job_Job_pipe (hx : p.tables.exec = Jvm.exec) (hb : c.code = cc) (htg : ∀ w ∈ GW, w.before args s = true) (hown : s.vm.findClass R_Job = some m.cls) (hK : va_K D vwCl (tyL cs) s) (hN : ∀ w ∈ NW, va_Nw w s) (I : q_I D vwCl A H0 (q_ws 33 ad (cC ad cs σ)) H locs) {i : Nat} (hi : i < 4) (hdg : decode cc pc = .ok (.getfield 20, 3)) (kk : W p l e R s m args below meth c H locs cells slots Q (F0 m (pc + 3) ls (.ref (ad (21 + (2 + i))) :: rest))) : W p l e R s m args below meth c H locs cells slots Q (F0 m pc ls (.ref (ad (17 + i)) :: rest)) :=
  q_get (own := "JobTerminal$Job") (C := R_Job) (T := F_Job) (N := 6) (ci := 1) hx hb htg i_Job hown hK I (17 + i) (by omega) (a_C_Job hi) rfl 1 (by decide) (htg _ mw330) rfl hdg kk
theorem G_Job_Job_second (hx : p.tables.exec = Jvm.exec) (hb : c.code = cc) (htg : ∀ w ∈ GW, w.before args s = true) (hown : s.vm.findClass R_Job = some m.cls) (hK : va_K D vwCl (tyL cs) s) (hN : ∀ w ∈ NW, va_Nw w s) (I : q_I D vwCl A H0 (q_ws 33 ad (cC ad cs σ)) H locs) {i : Nat} (hi : i < 4) (hdg : decode cc pc = .ok (.getfield 31, 3)) (kk : W p l e R s m args below meth c H locs cells slots Q (F0 m (pc + 3) ls (q_rv ad 9 (σ 29 i) :: rest))) : W p l e R s m args below meth c H locs cells slots Q (F0 m pc ls (.ref (ad (17 + i)) :: rest)) :=
  q_get (own := "JobTerminal$Job") (C := R_Job) (T := F_Job) (N := 6) (ci := 1) hx hb htg i_Job hown hK I (17 + i) (by omega) (a_C_Job hi) rfl 3 (by decide) (htg _ mw331) rfl hdg kk
theorem G_Job_JobProcess_state (hx : p.tables.exec = Jvm.exec) (hb : c.code = cc) (htg : ∀ w ∈ GW, w.before args s = true) (hown : s.vm.findClass R_Job = some m.cls) (hK : va_K D vwCl (tyL cs) s) (hN : ∀ w ∈ NW, va_Nw w s) (I : q_I D vwCl A H0 (q_ws 33 ad (cC ad cs σ)) H locs) {i : Nat} (hi : i < 8) (hdg : decode cc pc = .ok (.getfield 46, 3)) (kk : W p l e R s m args below meth c H locs cells slots Q (F0 m (pc + 3) ls (.int (σ 33 i) :: rest))) : W p l e R s m args below meth c H locs cells slots Q (F0 m pc ls (.ref (ad (9 + i)) :: rest)) :=
  q_getN (host := "JobTerminal") (own := "JobTerminal$Job") (C := R_JobProcess) (T := F_JobProcess) (N := 10) (ci := 2) hx hb htg i_JobProcess hown hK I (9 + i) (by omega) (a_C_JobProcess hi) rfl 1 (by decide) (va_Nw.use rfl (hN _ (List.mem_of_getElem? (i := 9) rfl))) rfl hdg kk
theorem G_JobProcess_Job_number (hx : p.tables.exec = Jvm.exec) (hb : c.code = cc) (htg : ∀ w ∈ GW, w.before args s = true) (hown : s.vm.findClass R_JobProcess = some m.cls) (hK : va_K D vwCl (tyL cs) s) (hN : ∀ w ∈ NW, va_Nw w s) (I : q_I D vwCl A H0 (q_ws 33 ad (cC ad cs σ)) H locs) {i : Nat} (hi : i < 4) (hdg : decode cc pc = .ok (.getfield 43, 3)) (kk : W p l e R s m args below meth c H locs cells slots Q (F0 m (pc + 3) ls (.int (nI i) :: rest))) : W p l e R s m args below meth c H locs cells slots Q (F0 m pc ls (.ref (ad (17 + i)) :: rest)) :=
  q_getN (host := "JobTerminal") (own := "JobTerminal$JobProcess") (C := R_Job) (T := F_Job) (N := 6) (ci := 1) hx hb htg i_Job hown hK I (17 + i) (by omega) (a_C_Job hi) rfl 0 (by decide) (va_Nw.use rfl (hN _ (List.mem_of_getElem? (i := 15) rfl))) rfl hdg kk
theorem G_JobProcess_JobProcess_blocked (hx : p.tables.exec = Jvm.exec) (hb : c.code = cc) (htg : ∀ w ∈ GW, w.before args s = true) (hown : s.vm.findClass R_JobProcess = some m.cls) (hK : va_K D vwCl (tyL cs) s) (hN : ∀ w ∈ NW, va_Nw w s) (I : q_I D vwCl A H0 (q_ws 33 ad (cC ad cs σ)) H locs) {i : Nat} (hi : i < 8) (hdg : decode cc pc = .ok (.getfield 34, 3)) (kk : W p l e R s m args below meth c H locs cells slots Q (F0 m (pc + 3) ls (.int (σ 39 i) :: rest))) : W p l e R s m args below meth c H locs cells slots Q (F0 m pc ls (.ref (ad (9 + i)) :: rest)) :=
  q_get (own := "JobTerminal$JobProcess") (C := R_JobProcess) (T := F_JobProcess) (N := 10) (ci := 2) hx hb htg i_JobProcess hown hK I (9 + i) (by omega) (a_C_JobProcess hi) rfl 7 (by decide) (htg _ mw332) rfl hdg kk
theorem G_JobProcess_JobProcess_code (hx : p.tables.exec = Jvm.exec) (hb : c.code = cc) (htg : ∀ w ∈ GW, w.before args s = true) (hown : s.vm.findClass R_JobProcess = some m.cls) (hK : va_K D vwCl (tyL cs) s) (hN : ∀ w ∈ NW, va_Nw w s) (I : q_I D vwCl A H0 (q_ws 33 ad (cC ad cs σ)) H locs) {i : Nat} (hi : i < 8) (hdg : decode cc pc = .ok (.getfield 28, 3)) (kk : W p l e R s m args below meth c H locs cells slots Q (F0 m (pc + 3) ls (.int (σ 37 i) :: rest))) : W p l e R s m args below meth c H locs cells slots Q (F0 m pc ls (.ref (ad (9 + i)) :: rest)) :=
  q_get (own := "JobTerminal$JobProcess") (C := R_JobProcess) (T := F_JobProcess) (N := 10) (ci := 2) hx hb htg i_JobProcess hown hK I (9 + i) (by omega) (a_C_JobProcess hi) rfl 5 (by decide) (htg _ mw333) rfl hdg kk
theorem G_JobProcess_JobProcess_ignored (hx : p.tables.exec = Jvm.exec) (hb : c.code = cc) (htg : ∀ w ∈ GW, w.before args s = true) (hown : s.vm.findClass R_JobProcess = some m.cls) (hK : va_K D vwCl (tyL cs) s) (hN : ∀ w ∈ NW, va_Nw w s) (I : q_I D vwCl A H0 (q_ws 33 ad (cC ad cs σ)) H locs) {i : Nat} (hi : i < 8) (hdg : decode cc pc = .ok (.getfield 37, 3)) (kk : W p l e R s m args below meth c H locs cells slots Q (F0 m (pc + 3) ls (.int (σ 40 i) :: rest))) : W p l e R s m args below meth c H locs cells slots Q (F0 m pc ls (.ref (ad (9 + i)) :: rest)) :=
  q_get (own := "JobTerminal$JobProcess") (C := R_JobProcess) (T := F_JobProcess) (N := 10) (ci := 2) hx hb htg i_JobProcess hown hK I (9 + i) (by omega) (a_C_JobProcess hi) rfl 8 (by decide) (htg _ mw334) rfl hdg kk
theorem G_JobProcess_JobProcess_line (hx : p.tables.exec = Jvm.exec) (hb : c.code = cc) (htg : ∀ w ∈ GW, w.before args s = true) (hown : s.vm.findClass R_JobProcess = some m.cls) (hK : va_K D vwCl (tyL cs) s) (hN : ∀ w ∈ NW, va_Nw w s) (I : q_I D vwCl A H0 (q_ws 33 ad (cC ad cs σ)) H locs) {i : Nat} (hi : i < 8) (hdg : decode cc pc = .ok (.getfield 22, 3)) (kk : W p l e R s m args below meth c H locs cells slots Q (F0 m (pc + 3) ls (.int (σ 35 i) :: rest))) : W p l e R s m args below meth c H locs cells slots Q (F0 m pc ls (.ref (ad (9 + i)) :: rest)) :=
  q_get (own := "JobTerminal$JobProcess") (C := R_JobProcess) (T := F_JobProcess) (N := 10) (ci := 2) hx hb htg i_JobProcess hown hK I (9 + i) (by omega) (a_C_JobProcess hi) rfl 3 (by decide) (htg _ mw335) rfl hdg kk
theorem G_JobProcess_JobProcess_nap (hx : p.tables.exec = Jvm.exec) (hb : c.code = cc) (htg : ∀ w ∈ GW, w.before args s = true) (hown : s.vm.findClass R_JobProcess = some m.cls) (hK : va_K D vwCl (tyL cs) s) (hN : ∀ w ∈ NW, va_Nw w s) (I : q_I D vwCl A H0 (q_ws 33 ad (cC ad cs σ)) H locs) {i : Nat} (hi : i < 8) (hdg : decode cc pc = .ok (.getfield 40, 3)) (kk : W p l e R s m args below meth c H locs cells slots Q (F0 m (pc + 3) ls (.int (σ 41 i) :: rest))) : W p l e R s m args below meth c H locs cells slots Q (F0 m pc ls (.ref (ad (9 + i)) :: rest)) :=
  q_get (own := "JobTerminal$JobProcess") (C := R_JobProcess) (T := F_JobProcess) (N := 10) (ci := 2) hx hb htg i_JobProcess hown hK I (9 + i) (by omega) (a_C_JobProcess hi) rfl 9 (by decide) (htg _ mw336) rfl hdg kk
theorem G_JobProcess_JobProcess_owner (hx : p.tables.exec = Jvm.exec) (hb : c.code = cc) (htg : ∀ w ∈ GW, w.before args s = true) (hown : s.vm.findClass R_JobProcess = some m.cls) (hK : va_K D vwCl (tyL cs) s) (hN : ∀ w ∈ NW, va_Nw w s) (I : q_I D vwCl A H0 (q_ws 33 ad (cC ad cs σ)) H locs) {i : Nat} (hi : i < 8) (hdg : decode cc pc = .ok (.getfield 9, 3)) (kk : W p l e R s m args below meth c H locs cells slots Q (F0 m (pc + 3) ls (q_rv ad 17 (σ 32 i) :: rest))) : W p l e R s m args below meth c H locs cells slots Q (F0 m pc ls (.ref (ad (9 + i)) :: rest)) :=
  q_get (own := "JobTerminal$JobProcess") (C := R_JobProcess) (T := F_JobProcess) (N := 10) (ci := 2) hx hb htg i_JobProcess hown hK I (9 + i) (by omega) (a_C_JobProcess hi) rfl 0 (by decide) (htg _ mw337) rfl hdg kk
theorem G_JobProcess_JobProcess_pending (hx : p.tables.exec = Jvm.exec) (hb : c.code = cc) (htg : ∀ w ∈ GW, w.before args s = true) (hown : s.vm.findClass R_JobProcess = some m.cls) (hK : va_K D vwCl (tyL cs) s) (hN : ∀ w ∈ NW, va_Nw w s) (I : q_I D vwCl A H0 (q_ws 33 ad (cC ad cs σ)) H locs) {i : Nat} (hi : i < 8) (hdg : decode cc pc = .ok (.getfield 31, 3)) (kk : W p l e R s m args below meth c H locs cells slots Q (F0 m (pc + 3) ls (.int (σ 38 i) :: rest))) : W p l e R s m args below meth c H locs cells slots Q (F0 m pc ls (.ref (ad (9 + i)) :: rest)) :=
  q_get (own := "JobTerminal$JobProcess") (C := R_JobProcess) (T := F_JobProcess) (N := 10) (ci := 2) hx hb htg i_JobProcess hown hK I (9 + i) (by omega) (a_C_JobProcess hi) rfl 6 (by decide) (htg _ mw338) rfl hdg kk
theorem G_JobProcess_JobProcess_register (hx : p.tables.exec = Jvm.exec) (hb : c.code = cc) (htg : ∀ w ∈ GW, w.before args s = true) (hown : s.vm.findClass R_JobProcess = some m.cls) (hK : va_K D vwCl (tyL cs) s) (hN : ∀ w ∈ NW, va_Nw w s) (I : q_I D vwCl A H0 (q_ws 33 ad (cC ad cs σ)) H locs) {i : Nat} (hi : i < 8) (hdg : decode cc pc = .ok (.getfield 25, 3)) (kk : W p l e R s m args below meth c H locs cells slots Q (F0 m (pc + 3) ls (.int (σ 36 i) :: rest))) : W p l e R s m args below meth c H locs cells slots Q (F0 m pc ls (.ref (ad (9 + i)) :: rest)) :=
  q_get (own := "JobTerminal$JobProcess") (C := R_JobProcess) (T := F_JobProcess) (N := 10) (ci := 2) hx hb htg i_JobProcess hown hK I (9 + i) (by omega) (a_C_JobProcess hi) rfl 4 (by decide) (htg _ mw339) rfl hdg kk
theorem G_JobProcess_JobProcess_state (hx : p.tables.exec = Jvm.exec) (hb : c.code = cc) (htg : ∀ w ∈ GW, w.before args s = true) (hown : s.vm.findClass R_JobProcess = some m.cls) (hK : va_K D vwCl (tyL cs) s) (hN : ∀ w ∈ NW, va_Nw w s) (I : q_I D vwCl A H0 (q_ws 33 ad (cC ad cs σ)) H locs) {i : Nat} (hi : i < 8) (hdg : decode cc pc = .ok (.getfield 15, 3)) (kk : W p l e R s m args below meth c H locs cells slots Q (F0 m (pc + 3) ls (.int (σ 33 i) :: rest))) : W p l e R s m args below meth c H locs cells slots Q (F0 m pc ls (.ref (ad (9 + i)) :: rest)) :=
  q_get (own := "JobTerminal$JobProcess") (C := R_JobProcess) (T := F_JobProcess) (N := 10) (ci := 2) hx hb htg i_JobProcess hown hK I (9 + i) (by omega) (a_C_JobProcess hi) rfl 1 (by decide) (htg _ mw340) rfl hdg kk
theorem G_NumberRow_NumberRow_count (hx : p.tables.exec = Jvm.exec) (hb : c.code = cc) (htg : ∀ w ∈ GW, w.before args s = true) (hown : s.vm.findClass R_NumberRow = some m.cls) (hK : va_K D vwCl (tyL cs) s) (hN : ∀ w ∈ NW, va_Nw w s) (I : q_I D vwCl A H0 (q_ws 33 ad (cC ad cs σ)) H locs) {i : Nat} (hi : i < 6) (hdg : decode cc pc = .ok (.getfield 21, 3)) (kk : W p l e R s m args below meth c H locs cells slots Q (F0 m (pc + 3) ls (.int (σ 27 i) :: rest))) : W p l e R s m args below meth c H locs cells slots Q (F0 m pc ls (.ref (ad (21 + i)) :: rest)) :=
  q_get (own := "JobTerminal$NumberRow") (C := R_NumberRow) (T := F_NumberRow) (N := 3) (ci := 3) hx hb htg i_NumberRow hown hK I (21 + i) (by omega) (a_C_NumberRow hi) rfl 2 (by decide) (htg _ mw341) rfl hdg kk
theorem G_NumberRow_NumberRow_numbers (hx : p.tables.exec = Jvm.exec) (hb : c.code = cc) (htg : ∀ w ∈ GW, w.before args s = true) (hown : s.vm.findClass R_NumberRow = some m.cls) (hK : va_K D vwCl (tyL cs) s) (hN : ∀ w ∈ NW, va_Nw w s) (I : q_I D vwCl A H0 (q_ws 33 ad (cC ad cs σ)) H locs) {i : Nat} (hi : i < 6) (hdg : decode cc pc = .ok (.getfield 15, 3)) (kk : W p l e R s m args below meth c H locs cells slots Q (F0 m (pc + 3) ls (.ref (ad (27 + i)) :: rest))) : W p l e R s m args below meth c H locs cells slots Q (F0 m pc ls (.ref (ad (21 + i)) :: rest)) :=
  q_get (own := "JobTerminal$NumberRow") (C := R_NumberRow) (T := F_NumberRow) (N := 3) (ci := 3) hx hb htg i_NumberRow hown hK I (21 + i) (by omega) (a_C_NumberRow hi) rfl 0 (by decide) (htg _ mw342) rfl hdg kk
theorem G_NumberRow_NumberRow_oldest (hx : p.tables.exec = Jvm.exec) (hb : c.code = cc) (htg : ∀ w ∈ GW, w.before args s = true) (hown : s.vm.findClass R_NumberRow = some m.cls) (hK : va_K D vwCl (tyL cs) s) (hN : ∀ w ∈ NW, va_Nw w s) (I : q_I D vwCl A H0 (q_ws 33 ad (cC ad cs σ)) H locs) {i : Nat} (hi : i < 6) (hdg : decode cc pc = .ok (.getfield 29, 3)) (kk : W p l e R s m args below meth c H locs cells slots Q (F0 m (pc + 3) ls (.int (σ 26 i) :: rest))) : W p l e R s m args below meth c H locs cells slots Q (F0 m pc ls (.ref (ad (21 + i)) :: rest)) :=
  q_get (own := "JobTerminal$NumberRow") (C := R_NumberRow) (T := F_NumberRow) (N := 3) (ci := 3) hx hb htg i_NumberRow hown hK I (21 + i) (by omega) (a_C_NumberRow hi) rfl 1 (by decide) (htg _ mw343) rfl hdg kk
theorem G_Programs_Programs_numbers (hx : p.tables.exec = Jvm.exec) (hb : c.code = cc) (htg : ∀ w ∈ GW, w.before args s = true) (hown : s.vm.findClass R_Programs = some m.cls) (hK : va_K D vwCl (tyL cs) s) (hN : ∀ w ∈ NW, va_Nw w s) (I : q_I D vwCl A H0 (q_ws 33 ad (cC ad cs σ)) H locs) (hdg : decode cc pc = .ok (.getfield 15, 3)) (kk : W p l e R s m args below meth c H locs cells slots Q (F0 m (pc + 3) ls (.ref (ad 3) :: rest))) : W p l e R s m args below meth c H locs cells slots Q (F0 m pc ls (.ref (ad 1) :: rest)) :=
  q_get (own := "JobTerminal$Programs") (C := R_Programs) (T := F_Programs) (N := 2) (ci := 4) hx hb htg i_Programs hown hK I 1 (by decide) a_C_Programs rfl 1 (by decide) (htg _ mw344) rfl hdg kk
theorem G_Programs_Programs_ops (hx : p.tables.exec = Jvm.exec) (hb : c.code = cc) (htg : ∀ w ∈ GW, w.before args s = true) (hown : s.vm.findClass R_Programs = some m.cls) (hK : va_K D vwCl (tyL cs) s) (hN : ∀ w ∈ NW, va_Nw w s) (I : q_I D vwCl A H0 (q_ws 33 ad (cC ad cs σ)) H locs) (hdg : decode cc pc = .ok (.getfield 11, 3)) (kk : W p l e R s m args below meth c H locs cells slots Q (F0 m (pc + 3) ls (.ref (ad 2) :: rest))) : W p l e R s m args below meth c H locs cells slots Q (F0 m pc ls (.ref (ad 1) :: rest)) :=
  q_get (own := "JobTerminal$Programs") (C := R_Programs) (T := F_Programs) (N := 2) (ci := 4) hx hb htg i_Programs hown hK I 1 (by decide) a_C_Programs rfl 0 (by decide) (htg _ mw345) rfl hdg kk
theorem G_Terminal_NumberRow_count (hx : p.tables.exec = Jvm.exec) (hb : c.code = cc) (htg : ∀ w ∈ GW, w.before args s = true) (hown : s.vm.findClass R_Terminal = some m.cls) (hK : va_K D vwCl (tyL cs) s) (hN : ∀ w ∈ NW, va_Nw w s) (I : q_I D vwCl A H0 (q_ws 33 ad (cC ad cs σ)) H locs) {i : Nat} (hi : i < 6) (hdg : decode cc pc = .ok (.getfield 70, 3)) (kk : W p l e R s m args below meth c H locs cells slots Q (F0 m (pc + 3) ls (.int (σ 27 i) :: rest))) : W p l e R s m args below meth c H locs cells slots Q (F0 m pc ls (.ref (ad (21 + i)) :: rest)) :=
  q_getN (host := "JobTerminal") (own := "JobTerminal$Terminal") (C := R_NumberRow) (T := F_NumberRow) (N := 3) (ci := 3) hx hb htg i_NumberRow hown hK I (21 + i) (by omega) (a_C_NumberRow hi) rfl 2 (by decide) (va_Nw.use rfl (hN _ (List.mem_of_getElem? (i := 0) rfl))) rfl hdg kk
theorem G_Terminal_Terminal_display (hx : p.tables.exec = Jvm.exec) (hb : c.code = cc) (htg : ∀ w ∈ GW, w.before args s = true) (hown : s.vm.findClass R_Terminal = some m.cls) (hK : va_K D vwCl (tyL cs) s) (hN : ∀ w ∈ NW, va_Nw w s) (I : q_I D vwCl A H0 (q_ws 33 ad (cC ad cs σ)) H locs) (hdg : decode cc pc = .ok (.getfield 26, 3)) (kk : W p l e R s m args below meth c H locs cells slots Q (F0 m (pc + 3) ls (.ref (ad 7) :: rest))) : W p l e R s m args below meth c H locs cells slots Q (F0 m pc ls (.ref (ad 6) :: rest)) :=
  q_get (own := "JobTerminal$Terminal") (C := R_Terminal) (T := F_Terminal) (N := 5) (ci := 5) hx hb htg i_Terminal hown hK I 6 (by decide) a_C_Terminal rfl 2 (by decide) (htg _ mw346) rfl hdg kk
theorem G_Terminal_Terminal_edit (hx : p.tables.exec = Jvm.exec) (hb : c.code = cc) (htg : ∀ w ∈ GW, w.before args s = true) (hown : s.vm.findClass R_Terminal = some m.cls) (hK : va_K D vwCl (tyL cs) s) (hN : ∀ w ∈ NW, va_Nw w s) (I : q_I D vwCl A H0 (q_ws 33 ad (cC ad cs σ)) H locs) (hdg : decode cc pc = .ok (.getfield 16, 3)) (kk : W p l e R s m args below meth c H locs cells slots Q (F0 m (pc + 3) ls (.ref (ad (21 + 0)) :: rest))) : W p l e R s m args below meth c H locs cells slots Q (F0 m pc ls (.ref (ad 6) :: rest)) :=
  q_get (own := "JobTerminal$Terminal") (C := R_Terminal) (T := F_Terminal) (N := 5) (ci := 5) hx hb htg i_Terminal hown hK I 6 (by decide) a_C_Terminal rfl 0 (by decide) (htg _ mw347) rfl hdg kk
theorem G_Terminal_Terminal_modes (hx : p.tables.exec = Jvm.exec) (hb : c.code = cc) (htg : ∀ w ∈ GW, w.before args s = true) (hown : s.vm.findClass R_Terminal = some m.cls) (hK : va_K D vwCl (tyL cs) s) (hN : ∀ w ∈ NW, va_Nw w s) (I : q_I D vwCl A H0 (q_ws 33 ad (cC ad cs σ)) H locs) (hdg : decode cc pc = .ok (.getfield 30, 3)) (kk : W p l e R s m args below meth c H locs cells slots Q (F0 m (pc + 3) ls (.int (σ 22 0) :: rest))) : W p l e R s m args below meth c H locs cells slots Q (F0 m pc ls (.ref (ad 6) :: rest)) :=
  q_get (own := "JobTerminal$Terminal") (C := R_Terminal) (T := F_Terminal) (N := 5) (ci := 5) hx hb htg i_Terminal hown hK I 6 (by decide) a_C_Terminal rfl 3 (by decide) (htg _ mw348) rfl hdg kk
theorem G_Terminal_Terminal_queue (hx : p.tables.exec = Jvm.exec) (hb : c.code = cc) (htg : ∀ w ∈ GW, w.before args s = true) (hown : s.vm.findClass R_Terminal = some m.cls) (hK : va_K D vwCl (tyL cs) s) (hN : ∀ w ∈ NW, va_Nw w s) (I : q_I D vwCl A H0 (q_ws 33 ad (cC ad cs σ)) H locs) (hdg : decode cc pc = .ok (.getfield 20, 3)) (kk : W p l e R s m args below meth c H locs cells slots Q (F0 m (pc + 3) ls (.ref (ad (21 + 1)) :: rest))) : W p l e R s m args below meth c H locs cells slots Q (F0 m pc ls (.ref (ad 6) :: rest)) :=
  q_get (own := "JobTerminal$Terminal") (C := R_Terminal) (T := F_Terminal) (N := 5) (ci := 5) hx hb htg i_Terminal hown hK I 6 (by decide) a_C_Terminal rfl 1 (by decide) (htg _ mw349) rfl hdg kk
theorem P_JT_JT_foregroundJob (hx : p.tables.exec = Jvm.exec) (hb : c.code = cc) (htg : ∀ w ∈ GW, w.before args s = true) (hown : s.vm.findClass R_JT = some m.cls) (hK : va_K D vwCl (tyL cs) s) (hN : ∀ w ∈ NW, va_Nw w s) (I : q_I D vwCl A H0 (q_ws 33 ad (cC ad cs σ)) H locs) {x : Int32} (hdg : decode cc pc = .ok (.putfield 39, 3)) (kk : ∀ (H : Heap) (locs : List Loc), q_I D vwCl A H0 (q_ws 33 ad (cC ad cs (q_up σ 20 0 x))) H locs → W p l e R s m args below meth c H locs cells slots Q (F0 m (pc + 3) ls rest)) : W p l e R s m args below meth c H locs cells slots Q (F0 m pc ls (q_rv ad 17 x :: .ref (ad 0) :: rest)) :=
  q_put (own := "JobTerminal") (C := R_JT) (T := F_JT) (N := 6) (ci := 6) hx hb htg i_JT t_JT t_JT_ok n_JT hown hK I 0 (by decide) a_C_JT rfl 4 (by decide) (htg _ mw320) rfl q_narR q_fitR (Nat.le_of_ble_eq_true rfl) (a_C_JT.trans (by simp [e_C_JT, q_up])) (h2_C_20) hdg kk
theorem P_JT_JT_latestSlot (hx : p.tables.exec = Jvm.exec) (hb : c.code = cc) (htg : ∀ w ∈ GW, w.before args s = true) (hown : s.vm.findClass R_JT = some m.cls) (hK : va_K D vwCl (tyL cs) s) (hN : ∀ w ∈ NW, va_Nw w s) (I : q_I D vwCl A H0 (q_ws 33 ad (cC ad cs σ)) H locs) {x : Int32} (hdg : decode cc pc = .ok (.putfield 43, 3)) (kk : ∀ (H : Heap) (locs : List Loc), q_I D vwCl A H0 (q_ws 33 ad (cC ad cs (q_up σ 21 0 x))) H locs → W p l e R s m args below meth c H locs cells slots Q (F0 m (pc + 3) ls rest)) : W p l e R s m args below meth c H locs cells slots Q (F0 m pc ls (.int x :: .ref (ad 0) :: rest)) :=
  q_put (own := "JobTerminal") (C := R_JT) (T := F_JT) (N := 6) (ci := 6) hx hb htg i_JT t_JT t_JT_ok n_JT hown hK I 0 (by decide) a_C_JT rfl 5 (by decide) (htg _ mw322) rfl rfl rfl (Nat.le_of_ble_eq_true rfl) (a_C_JT.trans (by simp [e_C_JT, q_up])) (h2_C_21) hdg kk
theorem P_JT_Job_settledState (hx : p.tables.exec = Jvm.exec) (hb : c.code = cc) (htg : ∀ w ∈ GW, w.before args s = true) (hown : s.vm.findClass R_JT = some m.cls) (hK : va_K D vwCl (tyL cs) s) (hN : ∀ w ∈ NW, va_Nw w s) (I : q_I D vwCl A H0 (q_ws 33 ad (cC ad cs σ)) H locs) {i : Nat} (hi : i < 4) {x : Int32} (hdg : decode cc pc = .ok (.putfield 207, 3)) (kk : ∀ (H : Heap) (locs : List Loc), q_I D vwCl A H0 (q_ws 33 ad (cC ad cs (q_up σ 31 i x))) H locs → W p l e R s m args below meth c H locs cells slots Q (F0 m (pc + 3) ls rest)) : W p l e R s m args below meth c H locs cells slots Q (F0 m pc ls (.int x :: .ref (ad (17 + i)) :: rest)) :=
  q_putN (host := "JobTerminal") (own := "JobTerminal") (C := R_Job) (T := F_Job) (N := 6) (ci := 1) hx hb htg i_Job t_Job t_Job_ok n_Job hown hK I (17 + i) (by omega) (a_C_Job hi) rfl 5 (by decide) (va_Nw.use rfl (hN _ (List.mem_of_getElem? (i := 20) rfl))) rfl rfl rfl (Nat.le_of_ble_eq_true rfl) ((a_C_Job hi).trans (by simp [e_C_Job, q_up])) (h2_C_31 hi) hdg kk
theorem P_JT_Job_untold (hx : p.tables.exec = Jvm.exec) (hb : c.code = cc) (htg : ∀ w ∈ GW, w.before args s = true) (hown : s.vm.findClass R_JT = some m.cls) (hK : va_K D vwCl (tyL cs) s) (hN : ∀ w ∈ NW, va_Nw w s) (I : q_I D vwCl A H0 (q_ws 33 ad (cC ad cs σ)) H locs) {i : Nat} (hi : i < 4) {x : Int32} (hB : q_isB x = true) (hdg : decode cc pc = .ok (.putfield 136, 3)) (kk : ∀ (H : Heap) (locs : List Loc), q_I D vwCl A H0 (q_ws 33 ad (cC ad cs (q_up σ 30 i x))) H locs → W p l e R s m args below meth c H locs cells slots Q (F0 m (pc + 3) ls rest)) : W p l e R s m args below meth c H locs cells slots Q (F0 m pc ls (.int x :: .ref (ad (17 + i)) :: rest)) :=
  q_putN (host := "JobTerminal") (own := "JobTerminal") (C := R_Job) (T := F_Job) (N := 6) (ci := 1) hx hb htg i_Job t_Job t_Job_ok n_Job hown hK I (17 + i) (by omega) (a_C_Job hi) rfl 4 (by decide) (va_Nw.use rfl (hN _ (List.mem_of_getElem? (i := 19) rfl))) rfl (q_narB hB) (q_fitB hB) (Nat.le_of_ble_eq_true rfl) ((a_C_Job hi).trans (by simp [e_C_Job, q_up])) (h2_C_30 hi) hdg kk
theorem P_JT_JobProcess_line (hx : p.tables.exec = Jvm.exec) (hb : c.code = cc) (htg : ∀ w ∈ GW, w.before args s = true) (hown : s.vm.findClass R_JT = some m.cls) (hK : va_K D vwCl (tyL cs) s) (hN : ∀ w ∈ NW, va_Nw w s) (I : q_I D vwCl A H0 (q_ws 33 ad (cC ad cs σ)) H locs) {i : Nat} (hi : i < 8) {x : Int32} (hdg : decode cc pc = .ok (.putfield 219, 3)) (kk : ∀ (H : Heap) (locs : List Loc), q_I D vwCl A H0 (q_ws 33 ad (cC ad cs (q_up σ 35 i x))) H locs → W p l e R s m args below meth c H locs cells slots Q (F0 m (pc + 3) ls rest)) : W p l e R s m args below meth c H locs cells slots Q (F0 m pc ls (.int x :: .ref (ad (9 + i)) :: rest)) :=
  q_putN (host := "JobTerminal") (own := "JobTerminal") (C := R_JobProcess) (T := F_JobProcess) (N := 10) (ci := 2) hx hb htg i_JobProcess t_JobProcess t_JobProcess_ok n_JobProcess hown hK I (9 + i) (by omega) (a_C_JobProcess hi) rfl 3 (by decide) (va_Nw.use rfl (hN _ (List.mem_of_getElem? (i := 12) rfl))) rfl rfl rfl (Nat.le_of_ble_eq_true rfl) ((a_C_JobProcess hi).trans (by simp [e_C_JobProcess, q_up])) (h2_C_35 hi) hdg kk
theorem P_JT_JobProcess_nap (hx : p.tables.exec = Jvm.exec) (hb : c.code = cc) (htg : ∀ w ∈ GW, w.before args s = true) (hown : s.vm.findClass R_JT = some m.cls) (hK : va_K D vwCl (tyL cs) s) (hN : ∀ w ∈ NW, va_Nw w s) (I : q_I D vwCl A H0 (q_ws 33 ad (cC ad cs σ)) H locs) {i : Nat} (hi : i < 8) {x : Int32} (hdg : decode cc pc = .ok (.putfield 161, 3)) (kk : ∀ (H : Heap) (locs : List Loc), q_I D vwCl A H0 (q_ws 33 ad (cC ad cs (q_up σ 41 i x))) H locs → W p l e R s m args below meth c H locs cells slots Q (F0 m (pc + 3) ls rest)) : W p l e R s m args below meth c H locs cells slots Q (F0 m pc ls (.int x :: .ref (ad (9 + i)) :: rest)) :=
  q_putN (host := "JobTerminal") (own := "JobTerminal") (C := R_JobProcess) (T := F_JobProcess) (N := 10) (ci := 2) hx hb htg i_JobProcess t_JobProcess t_JobProcess_ok n_JobProcess hown hK I (9 + i) (by omega) (a_C_JobProcess hi) rfl 9 (by decide) (va_Nw.use rfl (hN _ (List.mem_of_getElem? (i := 14) rfl))) rfl rfl rfl (Nat.le_of_ble_eq_true rfl) ((a_C_JobProcess hi).trans (by simp [e_C_JobProcess, q_up])) (h2_C_41 hi) hdg kk
theorem P_JT_Terminal_modes (hx : p.tables.exec = Jvm.exec) (hb : c.code = cc) (htg : ∀ w ∈ GW, w.before args s = true) (hown : s.vm.findClass R_JT = some m.cls) (hK : va_K D vwCl (tyL cs) s) (hN : ∀ w ∈ NW, va_Nw w s) (I : q_I D vwCl A H0 (q_ws 33 ad (cC ad cs σ)) H locs) {x : Int32} (hdg : decode cc pc = .ok (.putfield 58, 3)) (kk : ∀ (H : Heap) (locs : List Loc), q_I D vwCl A H0 (q_ws 33 ad (cC ad cs (q_up σ 22 0 x))) H locs → W p l e R s m args below meth c H locs cells slots Q (F0 m (pc + 3) ls rest)) : W p l e R s m args below meth c H locs cells slots Q (F0 m pc ls (.int x :: .ref (ad 6) :: rest)) :=
  q_putN (host := "JobTerminal") (own := "JobTerminal") (C := R_Terminal) (T := F_Terminal) (N := 5) (ci := 5) hx hb htg i_Terminal t_Terminal t_Terminal_ok n_Terminal hown hK I 6 (by decide) a_C_Terminal rfl 3 (by decide) (va_Nw.use rfl (hN _ (List.mem_of_getElem? (i := 6) rfl))) rfl rfl rfl (Nat.le_of_ble_eq_true rfl) (a_C_Terminal.trans (by simp [e_C_Terminal, q_up])) (h2_C_22) hdg kk
theorem P_Display_Display_next (hx : p.tables.exec = Jvm.exec) (hb : c.code = cc) (htg : ∀ w ∈ GW, w.before args s = true) (hown : s.vm.findClass R_Display = some m.cls) (hK : va_K D vwCl (tyL cs) s) (hN : ∀ w ∈ NW, va_Nw w s) (I : q_I D vwCl A H0 (q_ws 33 ad (cC ad cs σ)) H locs) {x : Int32} (hdg : decode cc pc = .ok (.putfield 15, 3)) (kk : ∀ (H : Heap) (locs : List Loc), q_I D vwCl A H0 (q_ws 33 ad (cC ad cs (q_up σ 24 0 x))) H locs → W p l e R s m args below meth c H locs cells slots Q (F0 m (pc + 3) ls rest)) : W p l e R s m args below meth c H locs cells slots Q (F0 m pc ls (.int x :: .ref (ad 7) :: rest)) :=
  q_put (own := "JobTerminal$Display") (C := R_Display) (T := F_Display) (N := 3) (ci := 0) hx hb htg i_Display t_Display t_Display_ok n_Display hown hK I 7 (by decide) a_C_Display rfl 1 (by decide) (htg _ mw327) rfl rfl rfl (Nat.le_of_ble_eq_true rfl) (a_C_Display.trans (by simp [e_C_Display, q_up])) (h2_C_24) hdg kk
theorem P_Display_Display_total (hx : p.tables.exec = Jvm.exec) (hb : c.code = cc) (htg : ∀ w ∈ GW, w.before args s = true) (hown : s.vm.findClass R_Display = some m.cls) (hK : va_K D vwCl (tyL cs) s) (hN : ∀ w ∈ NW, va_Nw w s) (I : q_I D vwCl A H0 (q_ws 33 ad (cC ad cs σ)) H locs) {x : Int32} (hdg : decode cc pc = .ok (.putfield 19, 3)) (kk : ∀ (H : Heap) (locs : List Loc), q_I D vwCl A H0 (q_ws 33 ad (cC ad cs (q_up σ 25 0 x))) H locs → W p l e R s m args below meth c H locs cells slots Q (F0 m (pc + 3) ls rest)) : W p l e R s m args below meth c H locs cells slots Q (F0 m pc ls (.int x :: .ref (ad 7) :: rest)) :=
  q_put (own := "JobTerminal$Display") (C := R_Display) (T := F_Display) (N := 3) (ci := 0) hx hb htg i_Display t_Display t_Display_ok n_Display hown hK I 7 (by decide) a_C_Display rfl 2 (by decide) (htg _ mw328) rfl rfl rfl (Nat.le_of_ble_eq_true rfl) (a_C_Display.trans (by simp [e_C_Display, q_up])) (h2_C_25) hdg kk
theorem P_Job_Job_first (hx : p.tables.exec = Jvm.exec) (hb : c.code = cc) (htg : ∀ w ∈ GW, w.before args s = true) (hown : s.vm.findClass R_Job = some m.cls) (hK : va_K D vwCl (tyL cs) s) (hN : ∀ w ∈ NW, va_Nw w s) (I : q_I D vwCl A H0 (q_ws 33 ad (cC ad cs σ)) H locs) {i : Nat} (hi : i < 4) {x : Int32} (hdg : decode cc pc = .ok (.putfield 27, 3)) (kk : ∀ (H : Heap) (locs : List Loc), q_I D vwCl A H0 (q_ws 33 ad (cC ad cs (q_up σ 28 i x))) H locs → W p l e R s m args below meth c H locs cells slots Q (F0 m (pc + 3) ls rest)) : W p l e R s m args below meth c H locs cells slots Q (F0 m pc ls (q_rv ad 9 x :: .ref (ad (17 + i)) :: rest)) :=
  q_put (own := "JobTerminal$Job") (C := R_Job) (T := F_Job) (N := 6) (ci := 1) hx hb htg i_Job t_Job t_Job_ok n_Job hown hK I (17 + i) (by omega) (a_C_Job hi) rfl 2 (by decide) (htg _ mw329) rfl q_narR q_fitR (Nat.le_of_ble_eq_true rfl) ((a_C_Job hi).trans (by simp [e_C_Job, q_up])) (h2_C_28 hi) hdg kk
theorem P_Job_Job_second (hx : p.tables.exec = Jvm.exec) (hb : c.code = cc) (htg : ∀ w ∈ GW, w.before args s = true) (hown : s.vm.findClass R_Job = some m.cls) (hK : va_K D vwCl (tyL cs) s) (hN : ∀ w ∈ NW, va_Nw w s) (I : q_I D vwCl A H0 (q_ws 33 ad (cC ad cs σ)) H locs) {i : Nat} (hi : i < 4) {x : Int32} (hdg : decode cc pc = .ok (.putfield 31, 3)) (kk : ∀ (H : Heap) (locs : List Loc), q_I D vwCl A H0 (q_ws 33 ad (cC ad cs (q_up σ 29 i x))) H locs → W p l e R s m args below meth c H locs cells slots Q (F0 m (pc + 3) ls rest)) : W p l e R s m args below meth c H locs cells slots Q (F0 m pc ls (q_rv ad 9 x :: .ref (ad (17 + i)) :: rest)) :=
  q_put (own := "JobTerminal$Job") (C := R_Job) (T := F_Job) (N := 6) (ci := 1) hx hb htg i_Job t_Job t_Job_ok n_Job hown hK I (17 + i) (by omega) (a_C_Job hi) rfl 3 (by decide) (htg _ mw331) rfl q_narR q_fitR (Nat.le_of_ble_eq_true rfl) ((a_C_Job hi).trans (by simp [e_C_Job, q_up])) (h2_C_29 hi) hdg kk
theorem P_Job_Job_settledState (hx : p.tables.exec = Jvm.exec) (hb : c.code = cc) (htg : ∀ w ∈ GW, w.before args s = true) (hown : s.vm.findClass R_Job = some m.cls) (hK : va_K D vwCl (tyL cs) s) (hN : ∀ w ∈ NW, va_Nw w s) (I : q_I D vwCl A H0 (q_ws 33 ad (cC ad cs σ)) H locs) {i : Nat} (hi : i < 4) {x : Int32} (hdg : decode cc pc = .ok (.putfield 24, 3)) (kk : ∀ (H : Heap) (locs : List Loc), q_I D vwCl A H0 (q_ws 33 ad (cC ad cs (q_up σ 31 i x))) H locs → W p l e R s m args below meth c H locs cells slots Q (F0 m (pc + 3) ls rest)) : W p l e R s m args below meth c H locs cells slots Q (F0 m pc ls (.int x :: .ref (ad (17 + i)) :: rest)) :=
  q_put (own := "JobTerminal$Job") (C := R_Job) (T := F_Job) (N := 6) (ci := 1) hx hb htg i_Job t_Job t_Job_ok n_Job hown hK I (17 + i) (by omega) (a_C_Job hi) rfl 5 (by decide) (htg _ mw350) rfl rfl rfl (Nat.le_of_ble_eq_true rfl) ((a_C_Job hi).trans (by simp [e_C_Job, q_up])) (h2_C_31 hi) hdg kk
theorem P_Job_Job_untold (hx : p.tables.exec = Jvm.exec) (hb : c.code = cc) (htg : ∀ w ∈ GW, w.before args s = true) (hown : s.vm.findClass R_Job = some m.cls) (hK : va_K D vwCl (tyL cs) s) (hN : ∀ w ∈ NW, va_Nw w s) (I : q_I D vwCl A H0 (q_ws 33 ad (cC ad cs σ)) H locs) {i : Nat} (hi : i < 4) {x : Int32} (hB : q_isB x = true) (hdg : decode cc pc = .ok (.putfield 37, 3)) (kk : ∀ (H : Heap) (locs : List Loc), q_I D vwCl A H0 (q_ws 33 ad (cC ad cs (q_up σ 30 i x))) H locs → W p l e R s m args below meth c H locs cells slots Q (F0 m (pc + 3) ls rest)) : W p l e R s m args below meth c H locs cells slots Q (F0 m pc ls (.int x :: .ref (ad (17 + i)) :: rest)) :=
  q_put (own := "JobTerminal$Job") (C := R_Job) (T := F_Job) (N := 6) (ci := 1) hx hb htg i_Job t_Job t_Job_ok n_Job hown hK I (17 + i) (by omega) (a_C_Job hi) rfl 4 (by decide) (htg _ mw351) rfl (q_narB hB) (q_fitB hB) (Nat.le_of_ble_eq_true rfl) ((a_C_Job hi).trans (by simp [e_C_Job, q_up])) (h2_C_30 hi) hdg kk
theorem P_JobProcess_JobProcess_blocked (hx : p.tables.exec = Jvm.exec) (hb : c.code = cc) (htg : ∀ w ∈ GW, w.before args s = true) (hown : s.vm.findClass R_JobProcess = some m.cls) (hK : va_K D vwCl (tyL cs) s) (hN : ∀ w ∈ NW, va_Nw w s) (I : q_I D vwCl A H0 (q_ws 33 ad (cC ad cs σ)) H locs) {i : Nat} (hi : i < 8) {x : Int32} (hdg : decode cc pc = .ok (.putfield 34, 3)) (kk : ∀ (H : Heap) (locs : List Loc), q_I D vwCl A H0 (q_ws 33 ad (cC ad cs (q_up σ 39 i x))) H locs → W p l e R s m args below meth c H locs cells slots Q (F0 m (pc + 3) ls rest)) : W p l e R s m args below meth c H locs cells slots Q (F0 m pc ls (.int x :: .ref (ad (9 + i)) :: rest)) :=
  q_put (own := "JobTerminal$JobProcess") (C := R_JobProcess) (T := F_JobProcess) (N := 10) (ci := 2) hx hb htg i_JobProcess t_JobProcess t_JobProcess_ok n_JobProcess hown hK I (9 + i) (by omega) (a_C_JobProcess hi) rfl 7 (by decide) (htg _ mw332) rfl rfl rfl (Nat.le_of_ble_eq_true rfl) ((a_C_JobProcess hi).trans (by simp [e_C_JobProcess, q_up])) (h2_C_39 hi) hdg kk
theorem P_JobProcess_JobProcess_code (hx : p.tables.exec = Jvm.exec) (hb : c.code = cc) (htg : ∀ w ∈ GW, w.before args s = true) (hown : s.vm.findClass R_JobProcess = some m.cls) (hK : va_K D vwCl (tyL cs) s) (hN : ∀ w ∈ NW, va_Nw w s) (I : q_I D vwCl A H0 (q_ws 33 ad (cC ad cs σ)) H locs) {i : Nat} (hi : i < 8) {x : Int32} (hdg : decode cc pc = .ok (.putfield 28, 3)) (kk : ∀ (H : Heap) (locs : List Loc), q_I D vwCl A H0 (q_ws 33 ad (cC ad cs (q_up σ 37 i x))) H locs → W p l e R s m args below meth c H locs cells slots Q (F0 m (pc + 3) ls rest)) : W p l e R s m args below meth c H locs cells slots Q (F0 m pc ls (.int x :: .ref (ad (9 + i)) :: rest)) :=
  q_put (own := "JobTerminal$JobProcess") (C := R_JobProcess) (T := F_JobProcess) (N := 10) (ci := 2) hx hb htg i_JobProcess t_JobProcess t_JobProcess_ok n_JobProcess hown hK I (9 + i) (by omega) (a_C_JobProcess hi) rfl 5 (by decide) (htg _ mw333) rfl rfl rfl (Nat.le_of_ble_eq_true rfl) ((a_C_JobProcess hi).trans (by simp [e_C_JobProcess, q_up])) (h2_C_37 hi) hdg kk
theorem P_JobProcess_JobProcess_ignored (hx : p.tables.exec = Jvm.exec) (hb : c.code = cc) (htg : ∀ w ∈ GW, w.before args s = true) (hown : s.vm.findClass R_JobProcess = some m.cls) (hK : va_K D vwCl (tyL cs) s) (hN : ∀ w ∈ NW, va_Nw w s) (I : q_I D vwCl A H0 (q_ws 33 ad (cC ad cs σ)) H locs) {i : Nat} (hi : i < 8) {x : Int32} (hdg : decode cc pc = .ok (.putfield 37, 3)) (kk : ∀ (H : Heap) (locs : List Loc), q_I D vwCl A H0 (q_ws 33 ad (cC ad cs (q_up σ 40 i x))) H locs → W p l e R s m args below meth c H locs cells slots Q (F0 m (pc + 3) ls rest)) : W p l e R s m args below meth c H locs cells slots Q (F0 m pc ls (.int x :: .ref (ad (9 + i)) :: rest)) :=
  q_put (own := "JobTerminal$JobProcess") (C := R_JobProcess) (T := F_JobProcess) (N := 10) (ci := 2) hx hb htg i_JobProcess t_JobProcess t_JobProcess_ok n_JobProcess hown hK I (9 + i) (by omega) (a_C_JobProcess hi) rfl 8 (by decide) (htg _ mw334) rfl rfl rfl (Nat.le_of_ble_eq_true rfl) ((a_C_JobProcess hi).trans (by simp [e_C_JobProcess, q_up])) (h2_C_40 hi) hdg kk
theorem P_JobProcess_JobProcess_line (hx : p.tables.exec = Jvm.exec) (hb : c.code = cc) (htg : ∀ w ∈ GW, w.before args s = true) (hown : s.vm.findClass R_JobProcess = some m.cls) (hK : va_K D vwCl (tyL cs) s) (hN : ∀ w ∈ NW, va_Nw w s) (I : q_I D vwCl A H0 (q_ws 33 ad (cC ad cs σ)) H locs) {i : Nat} (hi : i < 8) {x : Int32} (hdg : decode cc pc = .ok (.putfield 22, 3)) (kk : ∀ (H : Heap) (locs : List Loc), q_I D vwCl A H0 (q_ws 33 ad (cC ad cs (q_up σ 35 i x))) H locs → W p l e R s m args below meth c H locs cells slots Q (F0 m (pc + 3) ls rest)) : W p l e R s m args below meth c H locs cells slots Q (F0 m pc ls (.int x :: .ref (ad (9 + i)) :: rest)) :=
  q_put (own := "JobTerminal$JobProcess") (C := R_JobProcess) (T := F_JobProcess) (N := 10) (ci := 2) hx hb htg i_JobProcess t_JobProcess t_JobProcess_ok n_JobProcess hown hK I (9 + i) (by omega) (a_C_JobProcess hi) rfl 3 (by decide) (htg _ mw335) rfl rfl rfl (Nat.le_of_ble_eq_true rfl) ((a_C_JobProcess hi).trans (by simp [e_C_JobProcess, q_up])) (h2_C_35 hi) hdg kk
theorem P_JobProcess_JobProcess_nap (hx : p.tables.exec = Jvm.exec) (hb : c.code = cc) (htg : ∀ w ∈ GW, w.before args s = true) (hown : s.vm.findClass R_JobProcess = some m.cls) (hK : va_K D vwCl (tyL cs) s) (hN : ∀ w ∈ NW, va_Nw w s) (I : q_I D vwCl A H0 (q_ws 33 ad (cC ad cs σ)) H locs) {i : Nat} (hi : i < 8) {x : Int32} (hdg : decode cc pc = .ok (.putfield 40, 3)) (kk : ∀ (H : Heap) (locs : List Loc), q_I D vwCl A H0 (q_ws 33 ad (cC ad cs (q_up σ 41 i x))) H locs → W p l e R s m args below meth c H locs cells slots Q (F0 m (pc + 3) ls rest)) : W p l e R s m args below meth c H locs cells slots Q (F0 m pc ls (.int x :: .ref (ad (9 + i)) :: rest)) :=
  q_put (own := "JobTerminal$JobProcess") (C := R_JobProcess) (T := F_JobProcess) (N := 10) (ci := 2) hx hb htg i_JobProcess t_JobProcess t_JobProcess_ok n_JobProcess hown hK I (9 + i) (by omega) (a_C_JobProcess hi) rfl 9 (by decide) (htg _ mw336) rfl rfl rfl (Nat.le_of_ble_eq_true rfl) ((a_C_JobProcess hi).trans (by simp [e_C_JobProcess, q_up])) (h2_C_41 hi) hdg kk
theorem P_JobProcess_JobProcess_owner (hx : p.tables.exec = Jvm.exec) (hb : c.code = cc) (htg : ∀ w ∈ GW, w.before args s = true) (hown : s.vm.findClass R_JobProcess = some m.cls) (hK : va_K D vwCl (tyL cs) s) (hN : ∀ w ∈ NW, va_Nw w s) (I : q_I D vwCl A H0 (q_ws 33 ad (cC ad cs σ)) H locs) {i : Nat} (hi : i < 8) {x : Int32} (hdg : decode cc pc = .ok (.putfield 9, 3)) (kk : ∀ (H : Heap) (locs : List Loc), q_I D vwCl A H0 (q_ws 33 ad (cC ad cs (q_up σ 32 i x))) H locs → W p l e R s m args below meth c H locs cells slots Q (F0 m (pc + 3) ls rest)) : W p l e R s m args below meth c H locs cells slots Q (F0 m pc ls (q_rv ad 17 x :: .ref (ad (9 + i)) :: rest)) :=
  q_put (own := "JobTerminal$JobProcess") (C := R_JobProcess) (T := F_JobProcess) (N := 10) (ci := 2) hx hb htg i_JobProcess t_JobProcess t_JobProcess_ok n_JobProcess hown hK I (9 + i) (by omega) (a_C_JobProcess hi) rfl 0 (by decide) (htg _ mw337) rfl q_narR q_fitR (Nat.le_of_ble_eq_true rfl) ((a_C_JobProcess hi).trans (by simp [e_C_JobProcess, q_up])) (h2_C_32 hi) hdg kk
theorem P_JobProcess_JobProcess_pending (hx : p.tables.exec = Jvm.exec) (hb : c.code = cc) (htg : ∀ w ∈ GW, w.before args s = true) (hown : s.vm.findClass R_JobProcess = some m.cls) (hK : va_K D vwCl (tyL cs) s) (hN : ∀ w ∈ NW, va_Nw w s) (I : q_I D vwCl A H0 (q_ws 33 ad (cC ad cs σ)) H locs) {i : Nat} (hi : i < 8) {x : Int32} (hdg : decode cc pc = .ok (.putfield 31, 3)) (kk : ∀ (H : Heap) (locs : List Loc), q_I D vwCl A H0 (q_ws 33 ad (cC ad cs (q_up σ 38 i x))) H locs → W p l e R s m args below meth c H locs cells slots Q (F0 m (pc + 3) ls rest)) : W p l e R s m args below meth c H locs cells slots Q (F0 m pc ls (.int x :: .ref (ad (9 + i)) :: rest)) :=
  q_put (own := "JobTerminal$JobProcess") (C := R_JobProcess) (T := F_JobProcess) (N := 10) (ci := 2) hx hb htg i_JobProcess t_JobProcess t_JobProcess_ok n_JobProcess hown hK I (9 + i) (by omega) (a_C_JobProcess hi) rfl 6 (by decide) (htg _ mw338) rfl rfl rfl (Nat.le_of_ble_eq_true rfl) ((a_C_JobProcess hi).trans (by simp [e_C_JobProcess, q_up])) (h2_C_38 hi) hdg kk
theorem P_JobProcess_JobProcess_program (hx : p.tables.exec = Jvm.exec) (hb : c.code = cc) (htg : ∀ w ∈ GW, w.before args s = true) (hown : s.vm.findClass R_JobProcess = some m.cls) (hK : va_K D vwCl (tyL cs) s) (hN : ∀ w ∈ NW, va_Nw w s) (I : q_I D vwCl A H0 (q_ws 33 ad (cC ad cs σ)) H locs) {i : Nat} (hi : i < 8) {x : Int32} (hdg : decode cc pc = .ok (.putfield 19, 3)) (kk : ∀ (H : Heap) (locs : List Loc), q_I D vwCl A H0 (q_ws 33 ad (cC ad cs (q_up σ 34 i x))) H locs → W p l e R s m args below meth c H locs cells slots Q (F0 m (pc + 3) ls rest)) : W p l e R s m args below meth c H locs cells slots Q (F0 m pc ls (.int x :: .ref (ad (9 + i)) :: rest)) :=
  q_put (own := "JobTerminal$JobProcess") (C := R_JobProcess) (T := F_JobProcess) (N := 10) (ci := 2) hx hb htg i_JobProcess t_JobProcess t_JobProcess_ok n_JobProcess hown hK I (9 + i) (by omega) (a_C_JobProcess hi) rfl 2 (by decide) (htg _ mw352) rfl rfl rfl (Nat.le_of_ble_eq_true rfl) ((a_C_JobProcess hi).trans (by simp [e_C_JobProcess, q_up])) (h2_C_34 hi) hdg kk
theorem P_JobProcess_JobProcess_register (hx : p.tables.exec = Jvm.exec) (hb : c.code = cc) (htg : ∀ w ∈ GW, w.before args s = true) (hown : s.vm.findClass R_JobProcess = some m.cls) (hK : va_K D vwCl (tyL cs) s) (hN : ∀ w ∈ NW, va_Nw w s) (I : q_I D vwCl A H0 (q_ws 33 ad (cC ad cs σ)) H locs) {i : Nat} (hi : i < 8) {x : Int32} (hdg : decode cc pc = .ok (.putfield 25, 3)) (kk : ∀ (H : Heap) (locs : List Loc), q_I D vwCl A H0 (q_ws 33 ad (cC ad cs (q_up σ 36 i x))) H locs → W p l e R s m args below meth c H locs cells slots Q (F0 m (pc + 3) ls rest)) : W p l e R s m args below meth c H locs cells slots Q (F0 m pc ls (.int x :: .ref (ad (9 + i)) :: rest)) :=
  q_put (own := "JobTerminal$JobProcess") (C := R_JobProcess) (T := F_JobProcess) (N := 10) (ci := 2) hx hb htg i_JobProcess t_JobProcess t_JobProcess_ok n_JobProcess hown hK I (9 + i) (by omega) (a_C_JobProcess hi) rfl 4 (by decide) (htg _ mw339) rfl rfl rfl (Nat.le_of_ble_eq_true rfl) ((a_C_JobProcess hi).trans (by simp [e_C_JobProcess, q_up])) (h2_C_36 hi) hdg kk
theorem P_JobProcess_JobProcess_state (hx : p.tables.exec = Jvm.exec) (hb : c.code = cc) (htg : ∀ w ∈ GW, w.before args s = true) (hown : s.vm.findClass R_JobProcess = some m.cls) (hK : va_K D vwCl (tyL cs) s) (hN : ∀ w ∈ NW, va_Nw w s) (I : q_I D vwCl A H0 (q_ws 33 ad (cC ad cs σ)) H locs) {i : Nat} (hi : i < 8) {x : Int32} (hdg : decode cc pc = .ok (.putfield 15, 3)) (kk : ∀ (H : Heap) (locs : List Loc), q_I D vwCl A H0 (q_ws 33 ad (cC ad cs (q_up σ 33 i x))) H locs → W p l e R s m args below meth c H locs cells slots Q (F0 m (pc + 3) ls rest)) : W p l e R s m args below meth c H locs cells slots Q (F0 m pc ls (.int x :: .ref (ad (9 + i)) :: rest)) :=
  q_put (own := "JobTerminal$JobProcess") (C := R_JobProcess) (T := F_JobProcess) (N := 10) (ci := 2) hx hb htg i_JobProcess t_JobProcess t_JobProcess_ok n_JobProcess hown hK I (9 + i) (by omega) (a_C_JobProcess hi) rfl 1 (by decide) (htg _ mw340) rfl rfl rfl (Nat.le_of_ble_eq_true rfl) ((a_C_JobProcess hi).trans (by simp [e_C_JobProcess, q_up])) (h2_C_33 hi) hdg kk
theorem P_NumberRow_NumberRow_count (hx : p.tables.exec = Jvm.exec) (hb : c.code = cc) (htg : ∀ w ∈ GW, w.before args s = true) (hown : s.vm.findClass R_NumberRow = some m.cls) (hK : va_K D vwCl (tyL cs) s) (hN : ∀ w ∈ NW, va_Nw w s) (I : q_I D vwCl A H0 (q_ws 33 ad (cC ad cs σ)) H locs) {i : Nat} (hi : i < 6) {x : Int32} (hdg : decode cc pc = .ok (.putfield 21, 3)) (kk : ∀ (H : Heap) (locs : List Loc), q_I D vwCl A H0 (q_ws 33 ad (cC ad cs (q_up σ 27 i x))) H locs → W p l e R s m args below meth c H locs cells slots Q (F0 m (pc + 3) ls rest)) : W p l e R s m args below meth c H locs cells slots Q (F0 m pc ls (.int x :: .ref (ad (21 + i)) :: rest)) :=
  q_put (own := "JobTerminal$NumberRow") (C := R_NumberRow) (T := F_NumberRow) (N := 3) (ci := 3) hx hb htg i_NumberRow t_NumberRow t_NumberRow_ok n_NumberRow hown hK I (21 + i) (by omega) (a_C_NumberRow hi) rfl 2 (by decide) (htg _ mw341) rfl rfl rfl (Nat.le_of_ble_eq_true rfl) ((a_C_NumberRow hi).trans (by simp [e_C_NumberRow, q_up])) (h2_C_27 hi) hdg kk
theorem P_NumberRow_NumberRow_oldest (hx : p.tables.exec = Jvm.exec) (hb : c.code = cc) (htg : ∀ w ∈ GW, w.before args s = true) (hown : s.vm.findClass R_NumberRow = some m.cls) (hK : va_K D vwCl (tyL cs) s) (hN : ∀ w ∈ NW, va_Nw w s) (I : q_I D vwCl A H0 (q_ws 33 ad (cC ad cs σ)) H locs) {i : Nat} (hi : i < 6) {x : Int32} (hdg : decode cc pc = .ok (.putfield 29, 3)) (kk : ∀ (H : Heap) (locs : List Loc), q_I D vwCl A H0 (q_ws 33 ad (cC ad cs (q_up σ 26 i x))) H locs → W p l e R s m args below meth c H locs cells slots Q (F0 m (pc + 3) ls rest)) : W p l e R s m args below meth c H locs cells slots Q (F0 m pc ls (.int x :: .ref (ad (21 + i)) :: rest)) :=
  q_put (own := "JobTerminal$NumberRow") (C := R_NumberRow) (T := F_NumberRow) (N := 3) (ci := 3) hx hb htg i_NumberRow t_NumberRow t_NumberRow_ok n_NumberRow hown hK I (21 + i) (by omega) (a_C_NumberRow hi) rfl 1 (by decide) (htg _ mw343) rfl rfl rfl (Nat.le_of_ble_eq_true rfl) ((a_C_NumberRow hi).trans (by simp [e_C_NumberRow, q_up])) (h2_C_26 hi) hdg kk
theorem P_Terminal_Terminal_hangs (hx : p.tables.exec = Jvm.exec) (hb : c.code = cc) (htg : ∀ w ∈ GW, w.before args s = true) (hown : s.vm.findClass R_Terminal = some m.cls) (hK : va_K D vwCl (tyL cs) s) (hN : ∀ w ∈ NW, va_Nw w s) (I : q_I D vwCl A H0 (q_ws 33 ad (cC ad cs σ)) H locs) {x : Int32} (hB : q_isB x = true) (hdg : decode cc pc = .ok (.putfield 34, 3)) (kk : ∀ (H : Heap) (locs : List Loc), q_I D vwCl A H0 (q_ws 33 ad (cC ad cs (q_up σ 23 0 x))) H locs → W p l e R s m args below meth c H locs cells slots Q (F0 m (pc + 3) ls rest)) : W p l e R s m args below meth c H locs cells slots Q (F0 m pc ls (.int x :: .ref (ad 6) :: rest)) :=
  q_put (own := "JobTerminal$Terminal") (C := R_Terminal) (T := F_Terminal) (N := 5) (ci := 5) hx hb htg i_Terminal t_Terminal t_Terminal_ok n_Terminal hown hK I 6 (by decide) a_C_Terminal rfl 4 (by decide) (htg _ mw353) rfl (q_narB hB) (q_fitB hB) (Nat.le_of_ble_eq_true rfl) (a_C_Terminal.trans (by simp [e_C_Terminal, q_up])) (h2_C_23) hdg kk
theorem L_C_ops (hx : p.tables.exec = Jvm.exec) (hb : c.code = cc) (hK : va_K D vwCl (tyL cs) s) (I : q_I D vwCl A H0 (q_ws 33 ad (cC ad cs σ)) H locs) (hdg : decode cc pc = .ok (.arraylength, 1)) (kk : W p l e R s m args below meth c H locs cells slots Q (F0 m (pc + 1) ls (.int (64) :: rest))) : W p l e R s m args below meth c H locs cells slots Q (F0 m pc ls (.ref (ad 2) :: rest)) :=
  q_alen hx hb hK I 2 0 (by decide) a_C_ops rfl rfl hdg kk
theorem A_C_ops (hx : p.tables.exec = Jvm.exec) (hb : c.code = cc) (hK : va_K D vwCl (tyL cs) s) (I : q_I D vwCl A H0 (q_ws 33 ad (cC ad cs σ)) H locs) {i0 : Int32} (ho : q_in i0 64 = true) (hdg : decode cc pc = .ok (.iaload, 1)) (kk : W p l e R s m args below meth c H locs cells slots Q (F0 m (pc + 1) ls (.int (σ 0 i0.toNatClampNeg) :: rest))) : W p l e R s m args below meth c H locs cells slots Q (F0 m pc ls (.int i0 :: .ref (ad 2) :: rest)) :=
  q_iald hx hb hK I 2 0 (by decide) a_C_ops rfl ho hdg kk
theorem T_C_ops (hx : p.tables.exec = Jvm.exec) (hb : c.code = cc) (hK : va_K D vwCl (tyL cs) s) (I : q_I D vwCl A H0 (q_ws 33 ad (cC ad cs σ)) H locs) {i0 x : Int32} (ho : q_in i0 64 = true) (hdg : decode cc pc = .ok (.iastore, 1)) (kk : ∀ (H : Heap) (locs : List Loc), q_I D vwCl A H0 (q_ws 33 ad (cC ad cs (q_up σ 0 i0.toNatClampNeg x))) H locs → W p l e R s m args below meth c H locs cells slots Q (F0 m (pc + 1) ls rest)) : W p l e R s m args below meth c H locs cells slots Q (F0 m pc ls (.int x :: .int i0 :: .ref (ad 2) :: rest)) :=
  q_iast hx hb hK I 2 0 (by decide) a_C_ops rfl ho (a_C_ops.trans (by simp only [e_C_ops, q_up_row])) (h2_C_ops) hdg kk
theorem L_C_nums (hx : p.tables.exec = Jvm.exec) (hb : c.code = cc) (hK : va_K D vwCl (tyL cs) s) (I : q_I D vwCl A H0 (q_ws 33 ad (cC ad cs σ)) H locs) (hdg : decode cc pc = .ok (.arraylength, 1)) (kk : W p l e R s m args below meth c H locs cells slots Q (F0 m (pc + 1) ls (.int (64) :: rest))) : W p l e R s m args below meth c H locs cells slots Q (F0 m pc ls (.ref (ad 3) :: rest)) :=
  q_alen hx hb hK I 3 0 (by decide) a_C_nums rfl rfl hdg kk
theorem A_C_nums (hx : p.tables.exec = Jvm.exec) (hb : c.code = cc) (hK : va_K D vwCl (tyL cs) s) (I : q_I D vwCl A H0 (q_ws 33 ad (cC ad cs σ)) H locs) {i0 : Int32} (ho : q_in i0 64 = true) (hdg : decode cc pc = .ok (.iaload, 1)) (kk : W p l e R s m args below meth c H locs cells slots Q (F0 m (pc + 1) ls (.int (σ 1 i0.toNatClampNeg) :: rest))) : W p l e R s m args below meth c H locs cells slots Q (F0 m pc ls (.int i0 :: .ref (ad 3) :: rest)) :=
  q_iald hx hb hK I 3 0 (by decide) a_C_nums rfl ho hdg kk
theorem T_C_nums (hx : p.tables.exec = Jvm.exec) (hb : c.code = cc) (hK : va_K D vwCl (tyL cs) s) (I : q_I D vwCl A H0 (q_ws 33 ad (cC ad cs σ)) H locs) {i0 x : Int32} (ho : q_in i0 64 = true) (hdg : decode cc pc = .ok (.iastore, 1)) (kk : ∀ (H : Heap) (locs : List Loc), q_I D vwCl A H0 (q_ws 33 ad (cC ad cs (q_up σ 1 i0.toNatClampNeg x))) H locs → W p l e R s m args below meth c H locs cells slots Q (F0 m (pc + 1) ls rest)) : W p l e R s m args below meth c H locs cells slots Q (F0 m pc ls (.int x :: .int i0 :: .ref (ad 3) :: rest)) :=
  q_iast hx hb hK I 3 0 (by decide) a_C_nums rfl ho (a_C_nums.trans (by simp only [e_C_nums, q_up_row])) (h2_C_nums) hdg kk
theorem L_C_codes (hx : p.tables.exec = Jvm.exec) (hb : c.code = cc) (hK : va_K D vwCl (tyL cs) s) (I : q_I D vwCl A H0 (q_ws 33 ad (cC ad cs σ)) H locs) (hdg : decode cc pc = .ok (.arraylength, 1)) (kk : W p l e R s m args below meth c H locs cells slots Q (F0 m (pc + 1) ls (.int (100) :: rest))) : W p l e R s m args below meth c H locs cells slots Q (F0 m pc ls (.ref (ad 8) :: rest)) :=
  q_alen hx hb hK I 8 0 (by decide) a_C_codes rfl rfl hdg kk
theorem A_C_codes (hx : p.tables.exec = Jvm.exec) (hb : c.code = cc) (hK : va_K D vwCl (tyL cs) s) (I : q_I D vwCl A H0 (q_ws 33 ad (cC ad cs σ)) H locs) {i0 : Int32} (ho : q_in i0 100 = true) (hdg : decode cc pc = .ok (.iaload, 1)) (kk : W p l e R s m args below meth c H locs cells slots Q (F0 m (pc + 1) ls (.int (σ 2 i0.toNatClampNeg) :: rest))) : W p l e R s m args below meth c H locs cells slots Q (F0 m pc ls (.int i0 :: .ref (ad 8) :: rest)) :=
  q_iald hx hb hK I 8 0 (by decide) a_C_codes rfl ho hdg kk
theorem T_C_codes (hx : p.tables.exec = Jvm.exec) (hb : c.code = cc) (hK : va_K D vwCl (tyL cs) s) (I : q_I D vwCl A H0 (q_ws 33 ad (cC ad cs σ)) H locs) {i0 x : Int32} (ho : q_in i0 100 = true) (hdg : decode cc pc = .ok (.iastore, 1)) (kk : ∀ (H : Heap) (locs : List Loc), q_I D vwCl A H0 (q_ws 33 ad (cC ad cs (q_up σ 2 i0.toNatClampNeg x))) H locs → W p l e R s m args below meth c H locs cells slots Q (F0 m (pc + 1) ls rest)) : W p l e R s m args below meth c H locs cells slots Q (F0 m pc ls (.int x :: .int i0 :: .ref (ad 8) :: rest)) :=
  q_iast hx hb hK I 8 0 (by decide) a_C_codes rfl ho (a_C_codes.trans (by simp only [e_C_codes, q_up_row])) (h2_C_codes) hdg kk
theorem L_C_rowarr (hx : p.tables.exec = Jvm.exec) (hb : c.code = cc) (hK : va_K D vwCl (tyL cs) s) (I : q_I D vwCl A H0 (q_ws 33 ad (cC ad cs σ)) H locs) {i : Nat} (hi : i < 6) (hdg : decode cc pc = .ok (.arraylength, 1)) (kk : W p l e R s m args below meth c H locs cells slots Q (F0 m (pc + 1) ls (.int (nI (q_rl i)) :: rest))) : W p l e R s m args below meth c H locs cells slots Q (F0 m pc ls (.ref (ad (27 + i)) :: rest)) :=
  q_alen hx hb hK I (27 + i) 0 (by omega) (a_C_rowarr hi) rfl rfl hdg kk
theorem A_C_rowarr (hx : p.tables.exec = Jvm.exec) (hb : c.code = cc) (hK : va_K D vwCl (tyL cs) s) (I : q_I D vwCl A H0 (q_ws 33 ad (cC ad cs σ)) H locs) {i : Nat} (hi : i < 6) {i0 : Int32} (ho : q_in i0 (q_rl i) = true) (hdg : decode cc pc = .ok (.iaload, 1)) (kk : W p l e R s m args below meth c H locs cells slots Q (F0 m (pc + 1) ls (.int (σ (10 + i) i0.toNatClampNeg) :: rest))) : W p l e R s m args below meth c H locs cells slots Q (F0 m pc ls (.int i0 :: .ref (ad (27 + i)) :: rest)) :=
  q_iald hx hb hK I (27 + i) 0 (by omega) (a_C_rowarr hi) rfl ho hdg kk
theorem T_C_rowarr (hx : p.tables.exec = Jvm.exec) (hb : c.code = cc) (hK : va_K D vwCl (tyL cs) s) (I : q_I D vwCl A H0 (q_ws 33 ad (cC ad cs σ)) H locs) {i : Nat} (hi : i < 6) {i0 x : Int32} (ho : q_in i0 (q_rl i) = true) (hdg : decode cc pc = .ok (.iastore, 1)) (kk : ∀ (H : Heap) (locs : List Loc), q_I D vwCl A H0 (q_ws 33 ad (cC ad cs (q_up σ (10 + i) i0.toNatClampNeg x))) H locs → W p l e R s m args below meth c H locs cells slots Q (F0 m (pc + 1) ls rest)) : W p l e R s m args below meth c H locs cells slots Q (F0 m pc ls (.int x :: .int i0 :: .ref (ad (27 + i)) :: rest)) :=
  q_iast hx hb hK I (27 + i) 0 (by omega) (a_C_rowarr hi) rfl ho ((a_C_rowarr hi).trans (by simp only [e_C_rowarr, q_up_row])) (h2_C_rowarr hi) hdg kk
theorem L_C_procs (hx : p.tables.exec = Jvm.exec) (hb : c.code = cc) (hK : va_K D vwCl (tyL cs) s) (I : q_I D vwCl A H0 (q_ws 33 ad (cC ad cs σ)) H locs) (hdg : decode cc pc = .ok (.arraylength, 1)) (kk : W p l e R s m args below meth c H locs cells slots Q (F0 m (pc + 1) ls (.int (8) :: rest))) : W p l e R s m args below meth c H locs cells slots Q (F0 m pc ls (.ref (ad 4) :: rest)) :=
  q_alen hx hb hK I 4 2 (by decide) a_C_procs rfl rfl hdg kk
theorem A_C_procs (hx : p.tables.exec = Jvm.exec) (hb : c.code = cc) (hK : va_K D vwCl (tyL cs) s) (I : q_I D vwCl A H0 (q_ws 33 ad (cC ad cs σ)) H locs) {i0 : Int32} (ho : q_in i0 8 = true) (hdg : decode cc pc = .ok (.aaload, 1)) (kk : W p l e R s m args below meth c H locs cells slots Q (F0 m (pc + 1) ls (q_rv ad 9 i0 :: rest))) : W p l e R s m args below meth c H locs cells slots Q (F0 m pc ls (.int i0 :: .ref (ad 4) :: rest)) :=
  q_aald hx hb hK I 4 2 9 (by decide) a_C_procs rfl ho hdg kk
theorem L_C_jobs (hx : p.tables.exec = Jvm.exec) (hb : c.code = cc) (hK : va_K D vwCl (tyL cs) s) (I : q_I D vwCl A H0 (q_ws 33 ad (cC ad cs σ)) H locs) (hdg : decode cc pc = .ok (.arraylength, 1)) (kk : W p l e R s m args below meth c H locs cells slots Q (F0 m (pc + 1) ls (.int (4) :: rest))) : W p l e R s m args below meth c H locs cells slots Q (F0 m pc ls (.ref (ad 5) :: rest)) :=
  q_alen hx hb hK I 5 3 (by decide) a_C_jobs rfl rfl hdg kk
theorem A_C_jobs (hx : p.tables.exec = Jvm.exec) (hb : c.code = cc) (hK : va_K D vwCl (tyL cs) s) (I : q_I D vwCl A H0 (q_ws 33 ad (cC ad cs σ)) H locs) {i0 : Int32} (ho : q_in i0 4 = true) (hdg : decode cc pc = .ok (.aaload, 1)) (kk : W p l e R s m args below meth c H locs cells slots Q (F0 m (pc + 1) ls (q_rv ad 17 i0 :: rest))) : W p l e R s m args below meth c H locs cells slots Q (F0 m pc ls (.int i0 :: .ref (ad 5) :: rest)) :=
  q_aald hx hb hK I 5 3 17 (by decide) a_C_jobs rfl ho hdg kk
end ROWSC
end
section
/-! CONSTRUCTORS -/
def q_Qc (D : va_G) (cl : List vw_C) (post : (Nat → Nat) → va_W) (A : Nat → Prop) : Array Value → State → Outcome → State → Prop := va_Qv (fun (_ : Nat → Nat) => True) (fun u t => va_P D cl (post u) t.heap ∧ va_D A (post u)) A
theorem q_goodI {a b : Cond} (hb : b ∈ GW) : GoodIn (a :: GW) (b :: GW) := by
  intro w hw
  have k : w ∈ GW := by
    rcases List.mem_cons.mp hw with rfl | hw <;> assumption
  exact ⟨List.mem_cons_of_mem _ k, (q_gw k).2⟩
theorem q_cA_int {D : va_G} {cs : Nat → ClassId} {cA : ClassId} {s : State} (h : va_K D vwCl (tyL cs ++ [(cA, .int)]) s) : cA = cs 0 := by
  have h1 := (h.2 5 (cA, .int) rfl).2
  have h2 := (h.2 0 (cs 0, .int) rfl).2
  exact Option.some.inj ((show s.vm.findClass _ = some cA from h1).symm.trans h2)
theorem q_cA_boolean {D : va_G} {cs : Nat → ClassId} {cA : ClassId} {s : State} (h : va_K D vwCl (tyL cs ++ [(cA, .boolean)]) s) : cA = cs 1 := by
  have h1 := (h.2 5 (cA, .boolean) rfl).2
  have h2 := (h.2 1 (cs 1, .boolean) rfl).2
  exact Option.some.inj ((show s.vm.findClass _ = some cA from h1).symm.trans h2)
theorem q_cA_2 {D : va_G} {cs : Nat → ClassId} {cA : ClassId} {s : State} (h : va_K D vwCl (tyL cs ++ [(cA, .object "JobTerminal$JobProcess")]) s) : cA = cs 2 := by
  obtain ⟨_, _, _, _, _, h1⟩ := (h.2 5 _ rfl).2
  obtain ⟨_, _, _, _, _, h2⟩ := (h.2 2 _ rfl).2
  exact Option.some.inj (h1.symm.trans h2)
theorem q_cA_3 {D : va_G} {cs : Nat → ClassId} {cA : ClassId} {s : State} (h : va_K D vwCl (tyL cs ++ [(cA, .object "JobTerminal$Job")]) s) : cA = cs 3 := by
  obtain ⟨_, _, _, _, _, h1⟩ := (h.2 5 _ rfl).2
  obtain ⟨_, _, _, _, _, h2⟩ := (h.2 3 _ rfl).2
  exact Option.some.inj (h1.symm.trans h2)
-- JobTerminal$Programs <init>
set_option maxHeartbeats 4000000 in
set_option maxRecDepth 100000 in
theorem c_Programs_init {l : Launch} {D : va_G} {cs : Nat → ClassId} {sz h0 : Nat} : Met l y_Programs_init w_Programs_init ({ frames := 1, cells := 2, slots := 128, locals := 12 } : Room) (q_Pre D vwCl (tyL cs) NW [.ref h0] [(h0, .inr (4, [.null, .null]))] sz) (q_Qc D vwCl (fun u => [(h0, .inr (4, [.ref (u 0), .ref (u 1)])), (u 0, .inl (cs 0, 64, .inl (fun _ => 0))), (u 1, .inl (cs 0, 64, .inl (fun _ => 0)))]) (va_A [(h0, .inr (4, [.null, .null]))] sz)) 2 128 (va_A [(h0, .inr (4, [.null, .null]))] sz) := by
  refine Met.ofW (cc := b_Programs_init) (maxL := 1) (ret := none) (by decide) rfl ?_
  intro p e s m args below meth c s₁ B hml hv
  obtain ⟨hargs, hsz, hP, hK, hD0, hN⟩ := hv
  have hx := B.exec
  have hb := B.bytes
  have hr := B.returns
  have hts := atoms_spec (ws := w_Programs_init) B.pre
  have hown : s.vm.findClass "JobTerminal$Programs" = some m.cls := findClass_of_methodNamed B.named
  have hlocks := B.notSynchronized
  have hin : meth.name = "<init>" := (name_of_methodNamed B.named B.method).1
  have htg : ∀ w ∈ GW, w.before args s = true := fun w h => hts w (List.mem_cons_of_mem _ h)
  subst hsz
  have hD := hD0.self (sz := s.heap.size)
  generalize hAe : va_A [(h0, .inr (4, [.null, .null]))] s.heap.size = A at hD ⊢
  have hA : ∀ q : Nat, s.heap.size ≤ q → A q := fun q h => by rw [← hAe]; exact Or.inr h
  have hS : va_S A s.heap s.heap [] := va_S.rf
  obtain ⟨ls, hen, hl⟩ := q_entry (vs := [.ref h0]) (n := 1) (lv := [(0, .ref h0)]) (by intro v hv; simp only [List.mem_cons, List.not_mem_nil, or_false] at hv; rcases hv with rfl <;> first | rfl | exact q_cat) (Nat.le_of_ble_eq_true rfl) rfl
  rw [show entryFrame m args 1 = F0 m 0 ls [] from by rw [hargs]; exact hen m]
  refine lv_aload_n hx hb d_Programs_init_0 rfl (q_at hl 0 rfl) ?_
  refine W.objInit hx hb hown (htg _ mw497) (htg _ mw498) (htg _ mw499) rfl (by rw [hml]; exact q_sz hl) rfl d_Programs_init_1 (Nat.le_of_ble_eq_true rfl) (Nat.le_of_ble_eq_true rfl) ?_
  refine W.eq (g2 := F0 m 4 ls []) rfl ?_
  refine lv_aload_n hx hb d_Programs_init_4 rfl (q_at hl 0 rfl) ?_
  refine lv_bipush (v := 64) hx hb d_Programs_init_5 (by decide) ?_
  refine va_newa (atype := .int) (ty := .int) (N' := 64) (a0 := (64, .inl (fun _ => 0))) hx hb (htg _ mw500) rfl hK hP hD hS hA (fun _ => rfl) (by decide) (by decide) (by decide) (Nat.le_of_ble_eq_true rfl) (Nat.le_of_ble_eq_true rfl) d_Programs_init_7 (fun q1 cA H hK9 hP hD hS => ?_)
  obtain rfl : cA = cs 0 := q_cA_int hK9
  have hP : va_P D vwCl [(h0, .inr (4, [.null, .null])), (q1, .inl (cs 0, 64, .inl (fun _ => 0)))] H := hP
  have hD : va_D A [(h0, .inr (4, [.null, .null])), (q1, .inl (cs 0, 64, .inl (fun _ => 0)))] := hD
  refine va_putF (D := D) (ci := 4) (v := .ref q1) (ty := .array .int) (C := R_Programs) (T := F_Programs) (N := 2) hx hb htg i_Programs t_Programs t_Programs_ok n_Programs hown hK hP hD hS 0 rfl rfl 0 (by decide) (htg _ mw345) (fun _ h9 => h9) rfl hin rfl (by decide +kernel) rfl rfl (Nat.le_of_ble_eq_true rfl) d_Programs_init_9 (fun H locs hP hD hS => ?_)
  have hP : va_P D vwCl [(h0, .inr (4, [.ref q1, .null])), (q1, .inl (cs 0, 64, .inl (fun _ => 0)))] H := hP
  have hD : va_D A [(h0, .inr (4, [.ref q1, .null])), (q1, .inl (cs 0, 64, .inl (fun _ => 0)))] := hD
  refine lv_aload_n hx hb d_Programs_init_12 rfl (q_at hl 0 rfl) ?_
  refine lv_bipush (v := 64) hx hb d_Programs_init_13 (by decide) ?_
  refine va_newa (atype := .int) (ty := .int) (N' := 64) (a0 := (64, .inl (fun _ => 0))) hx hb (htg _ mw500) rfl hK hP hD hS hA (fun _ => rfl) (by decide) (by decide) (by decide) (Nat.le_of_ble_eq_true rfl) (Nat.le_of_ble_eq_true rfl) d_Programs_init_15 (fun q2 cA H hK9 hP hD hS => ?_)
  obtain rfl : cA = cs 0 := q_cA_int hK9
  have hP : va_P D vwCl [(h0, .inr (4, [.ref q1, .null])), (q1, .inl (cs 0, 64, .inl (fun _ => 0))), (q2, .inl (cs 0, 64, .inl (fun _ => 0)))] H := hP
  have hD : va_D A [(h0, .inr (4, [.ref q1, .null])), (q1, .inl (cs 0, 64, .inl (fun _ => 0))), (q2, .inl (cs 0, 64, .inl (fun _ => 0)))] := hD
  refine va_putF (D := D) (ci := 4) (v := .ref q2) (ty := .array .int) (C := R_Programs) (T := F_Programs) (N := 2) hx hb htg i_Programs t_Programs t_Programs_ok n_Programs hown hK hP hD hS 0 rfl rfl 1 (by decide) (htg _ mw344) (fun _ h9 => h9) rfl hin rfl (by decide +kernel) rfl rfl (Nat.le_of_ble_eq_true rfl) d_Programs_init_17 (fun H locs hP hD hS => ?_)
  have hP : va_P D vwCl [(h0, .inr (4, [.ref q1, .ref q2])), (q1, .inl (cs 0, 64, .inl (fun _ => 0))), (q2, .inl (cs 0, 64, .inl (fun _ => 0)))] H := hP
  have hD : va_D A [(h0, .inr (4, [.ref q1, .ref q2])), (q1, .inl (cs 0, 64, .inl (fun _ => 0))), (q2, .inl (cs 0, 64, .inl (fun _ => 0)))] := hD
  refine W.widen (k := 2) (n := 128) (Nat.le_of_ble_eq_true rfl) (Nat.le_of_ble_eq_true rfl) ?_
  exact W.vret hx hb hr (fun t ht hW => ⟨⟨(fun k => [q1, q2].getD k 0), rfl, trivial, by rw [ht]; exact hP, hD⟩, hS.F ht⟩) hS.2.2 d_Programs_init_20
-- JobTerminal$Display <init>
set_option maxHeartbeats 4000000 in
set_option maxRecDepth 100000 in
theorem c_Display_init {l : Launch} {D : va_G} {cs : Nat → ClassId} {sz h0 : Nat} : Met l y_Display_init w_Display_init ({ frames := 1, cells := 1, slots := 100, locals := 12 } : Room) (q_Pre D vwCl (tyL cs) NW [.ref h0] [(h0, .inr (0, [.null, .int 0, .int 0]))] sz) (q_Qc D vwCl (fun u => [(h0, .inr (0, [.ref (u 0), .int 0, .int 0])), (u 0, .inl (cs 0, 100, .inl (fun _ => 0)))]) (va_A [(h0, .inr (0, [.null, .int 0, .int 0]))] sz)) 1 100 (va_A [(h0, .inr (0, [.null, .int 0, .int 0]))] sz) := by
  refine Met.ofW (cc := b_Display_init) (maxL := 1) (ret := none) (by decide) rfl ?_
  intro p e s m args below meth c s₁ B hml hv
  obtain ⟨hargs, hsz, hP, hK, hD0, hN⟩ := hv
  have hx := B.exec
  have hb := B.bytes
  have hr := B.returns
  have hts := atoms_spec (ws := w_Display_init) B.pre
  have hown : s.vm.findClass "JobTerminal$Display" = some m.cls := findClass_of_methodNamed B.named
  have hlocks := B.notSynchronized
  have hin : meth.name = "<init>" := (name_of_methodNamed B.named B.method).1
  have htg : ∀ w ∈ GW, w.before args s = true := fun w h => hts w (List.mem_cons_of_mem _ h)
  subst hsz
  have hD := hD0.self (sz := s.heap.size)
  generalize hAe : va_A [(h0, .inr (0, [.null, .int 0, .int 0]))] s.heap.size = A at hD ⊢
  have hA : ∀ q : Nat, s.heap.size ≤ q → A q := fun q h => by rw [← hAe]; exact Or.inr h
  have hS : va_S A s.heap s.heap [] := va_S.rf
  obtain ⟨ls, hen, hl⟩ := q_entry (vs := [.ref h0]) (n := 1) (lv := [(0, .ref h0)]) (by intro v hv; simp only [List.mem_cons, List.not_mem_nil, or_false] at hv; rcases hv with rfl <;> first | rfl | exact q_cat) (Nat.le_of_ble_eq_true rfl) rfl
  rw [show entryFrame m args 1 = F0 m 0 ls [] from by rw [hargs]; exact hen m]
  refine lv_aload_n hx hb d_Display_init_0 rfl (q_at hl 0 rfl) ?_
  refine W.objInit hx hb hown (htg _ mw501) (htg _ mw498) (htg _ mw499) rfl (by rw [hml]; exact q_sz hl) rfl d_Display_init_1 (Nat.le_of_ble_eq_true rfl) (Nat.le_of_ble_eq_true rfl) ?_
  refine W.eq (g2 := F0 m 4 ls []) rfl ?_
  refine lv_aload_n hx hb d_Display_init_4 rfl (q_at hl 0 rfl) ?_
  refine lv_bipush (v := 100) hx hb d_Display_init_5 (by decide) ?_
  refine va_newa (atype := .int) (ty := .int) (N' := 100) (a0 := (100, .inl (fun _ => 0))) hx hb (htg _ mw500) rfl hK hP hD hS hA (fun _ => rfl) (by decide) (by decide) (by decide) (Nat.le_of_ble_eq_true rfl) (Nat.le_of_ble_eq_true rfl) d_Display_init_7 (fun q1 cA H hK9 hP hD hS => ?_)
  obtain rfl : cA = cs 0 := q_cA_int hK9
  have hP : va_P D vwCl [(h0, .inr (0, [.null, .int 0, .int 0])), (q1, .inl (cs 0, 100, .inl (fun _ => 0)))] H := hP
  have hD : va_D A [(h0, .inr (0, [.null, .int 0, .int 0])), (q1, .inl (cs 0, 100, .inl (fun _ => 0)))] := hD
  refine va_putF (D := D) (ci := 0) (v := .ref q1) (ty := .array .int) (C := R_Display) (T := F_Display) (N := 3) hx hb htg i_Display t_Display t_Display_ok n_Display hown hK hP hD hS 0 rfl rfl 0 (by decide) (htg _ mw326) (fun _ h9 => h9) rfl hin rfl (by decide +kernel) rfl rfl (Nat.le_of_ble_eq_true rfl) d_Display_init_9 (fun H locs hP hD hS => ?_)
  have hP : va_P D vwCl [(h0, .inr (0, [.ref q1, .int 0, .int 0])), (q1, .inl (cs 0, 100, .inl (fun _ => 0)))] H := hP
  have hD : va_D A [(h0, .inr (0, [.ref q1, .int 0, .int 0])), (q1, .inl (cs 0, 100, .inl (fun _ => 0)))] := hD
  refine W.widen (k := 1) (n := 100) (Nat.le_of_ble_eq_true rfl) (Nat.le_of_ble_eq_true rfl) ?_
  exact W.vret hx hb hr (fun t ht hW => ⟨⟨(fun k => [q1].getD k 0), rfl, trivial, by rw [ht]; exact hP, hD⟩, hS.F ht⟩) hS.2.2 d_Display_init_12
-- JobTerminal$JobProcess <init>
set_option maxHeartbeats 4000000 in
set_option maxRecDepth 100000 in
theorem c_JobProcess_init {l : Launch} {D : va_G} {cs : Nat → ClassId} {sz h0 : Nat} : Met l y_JobProcess_init w_JobProcess_init ({ frames := 1, cells := 0, slots := 0, locals := 12 } : Room) (q_Pre D vwCl (tyL cs) NW [.ref h0] [(h0, .inr (2, [.null, .int 0, .int 0, .int 0, .int 0, .int 0, .int 0, .int 0, .int 0, .int 0]))] sz) (q_Qc D vwCl (fun u => [(h0, .inr (2, [.null, .int 0, .int 0, .int 0, .int 0, .int 0, .int 0, .int 0, .int 0, .int 0]))]) (va_A [(h0, .inr (2, [.null, .int 0, .int 0, .int 0, .int 0, .int 0, .int 0, .int 0, .int 0, .int 0]))] sz)) 0 0 (va_A [(h0, .inr (2, [.null, .int 0, .int 0, .int 0, .int 0, .int 0, .int 0, .int 0, .int 0, .int 0]))] sz) := by
  refine Met.ofW (cc := b_JobProcess_init) (maxL := 1) (ret := none) (by decide) rfl ?_
  intro p e s m args below meth c s₁ B hml hv
  obtain ⟨hargs, hsz, hP, hK, hD0, hN⟩ := hv
  have hx := B.exec
  have hb := B.bytes
  have hr := B.returns
  have hts := atoms_spec (ws := w_JobProcess_init) B.pre
  have hown : s.vm.findClass "JobTerminal$JobProcess" = some m.cls := findClass_of_methodNamed B.named
  have hlocks := B.notSynchronized
  have hin : meth.name = "<init>" := (name_of_methodNamed B.named B.method).1
  have htg : ∀ w ∈ GW, w.before args s = true := fun w h => hts w (List.mem_cons_of_mem _ h)
  subst hsz
  have hD := hD0.self (sz := s.heap.size)
  generalize hAe : va_A [(h0, .inr (2, [.null, .int 0, .int 0, .int 0, .int 0, .int 0, .int 0, .int 0, .int 0, .int 0]))] s.heap.size = A at hD ⊢
  have hA : ∀ q : Nat, s.heap.size ≤ q → A q := fun q h => by rw [← hAe]; exact Or.inr h
  have hS : va_S A s.heap s.heap [] := va_S.rf
  obtain ⟨ls, hen, hl⟩ := q_entry (vs := [.ref h0]) (n := 1) (lv := [(0, .ref h0)]) (by intro v hv; simp only [List.mem_cons, List.not_mem_nil, or_false] at hv; rcases hv with rfl <;> first | rfl | exact q_cat) (Nat.le_of_ble_eq_true rfl) rfl
  rw [show entryFrame m args 1 = F0 m 0 ls [] from by rw [hargs]; exact hen m]
  refine lv_aload_n hx hb d_JobProcess_init_0 rfl (q_at hl 0 rfl) ?_
  refine W.objInit hx hb hown (htg _ mw502) (htg _ mw498) (htg _ mw499) rfl (by rw [hml]; exact q_sz hl) rfl d_JobProcess_init_1 (Nat.le_of_ble_eq_true rfl) (Nat.le_of_ble_eq_true rfl) ?_
  refine W.eq (g2 := F0 m 4 ls []) rfl ?_
  refine W.widen (k := 0) (n := 0) (Nat.le_of_ble_eq_true rfl) (Nat.le_of_ble_eq_true rfl) ?_
  exact W.vret hx hb hr (fun t ht hW => ⟨⟨(fun k => [].getD k 0), rfl, trivial, by rw [ht]; exact hP, hD⟩, hS.F ht⟩) hS.2.2 d_JobProcess_init_4
-- JobTerminal$NumberRow <init>
set_option maxHeartbeats 4000000 in
set_option maxRecDepth 100000 in
theorem c_NumberRow_init {l : Launch} {D : va_G} {cs : Nat → ClassId} {sz h0 : Nat} {N : Nat} (hN0 : N ≤ 40) : Met l y_NumberRow_init w_NumberRow_init ({ frames := 1, cells := 1, slots := 40, locals := 21 } : Room) (q_Pre D vwCl (tyL cs) NW [.ref h0, .int (nI N)] [(h0, .inr (3, [.null, .int 0, .int 0]))] sz) (q_Qc D vwCl (fun u => [(h0, .inr (3, [.ref (u 0), .int 0, .int 0])), (u 0, .inl (cs 0, N, .inl (fun _ => 0)))]) (va_A [(h0, .inr (3, [.null, .int 0, .int 0]))] sz)) 1 40 (va_A [(h0, .inr (3, [.null, .int 0, .int 0]))] sz) := by
  refine Met.ofW (cc := b_NumberRow_init) (maxL := 2) (ret := none) (by decide) rfl ?_
  intro p e s m args below meth c s₁ B hml hv
  obtain ⟨hargs, hsz, hP, hK, hD0, hN⟩ := hv
  have hx := B.exec
  have hb := B.bytes
  have hr := B.returns
  have hts := atoms_spec (ws := w_NumberRow_init) B.pre
  have hown : s.vm.findClass "JobTerminal$NumberRow" = some m.cls := findClass_of_methodNamed B.named
  have hlocks := B.notSynchronized
  have hin : meth.name = "<init>" := (name_of_methodNamed B.named B.method).1
  have htg : ∀ w ∈ GW, w.before args s = true := fun w h => hts w (List.mem_cons_of_mem _ h)
  subst hsz
  have hD := hD0.self (sz := s.heap.size)
  generalize hAe : va_A [(h0, .inr (3, [.null, .int 0, .int 0]))] s.heap.size = A at hD ⊢
  have hA : ∀ q : Nat, s.heap.size ≤ q → A q := fun q h => by rw [← hAe]; exact Or.inr h
  have hS : va_S A s.heap s.heap [] := va_S.rf
  obtain ⟨ls, hen, hl⟩ := q_entry (vs := [.ref h0, .int (nI N)]) (n := 2) (lv := [(0, .ref h0), (1, .int (nI N))]) (by intro v hv; simp only [List.mem_cons, List.not_mem_nil, or_false] at hv; rcases hv with rfl | rfl <;> first | rfl | exact q_cat) (Nat.le_of_ble_eq_true rfl) rfl
  rw [show entryFrame m args 2 = F0 m 0 ls [] from by rw [hargs]; exact hen m]
  refine lv_aload_n hx hb d_NumberRow_init_0 rfl (q_at hl 0 rfl) ?_
  refine W.objInit hx hb hown (htg _ mw503) (htg _ mw498) (htg _ mw499) rfl (by rw [hml]; exact q_sz hl) rfl d_NumberRow_init_1 (Nat.le_of_ble_eq_true rfl) (Nat.le_of_ble_eq_true rfl) ?_
  refine W.eq (g2 := F0 m 4 ls []) rfl ?_
  refine lv_aload_n hx hb d_NumberRow_init_4 rfl (q_at hl 0 rfl) ?_
  refine lv_iload_n hx hb d_NumberRow_init_5 rfl (q_at hl 1 rfl) ?_
  refine lv_iconst (v := 0) hx hb d_NumberRow_init_6 (by decide) ?_
  refine va_mmax hx hb (hml.trans (q_sz hl).symm) hown (htg _ mw504) (htg _ mw505) (htg _ mw165) (htg _ mw506) (Nat.le_of_ble_eq_true rfl) (Nat.le_of_ble_eq_true rfl) (Nat.le_of_ble_eq_true rfl) (Nat.le_of_ble_eq_true rfl) d_NumberRow_init_7 ?_
  rw [if_neg (nI_pos (show N < 2 ^ 31 by omega))]
  refine va_newa (atype := .int) (ty := .int) (N' := N) (a0 := (N, .inl (fun _ => 0))) hx hb (htg _ mw500) rfl hK hP hD hS hA (fun _ => rfl) (nI_pos (show N < 2 ^ 31 by omega)) (nI_clamp (show N < 2 ^ 31 by omega)) (show N * 4 ≤ 536870912 by omega) (Nat.le_of_ble_eq_true rfl) (show 0 + N ≤ 40 by omega) d_NumberRow_init_10 (fun q1 cA H hK9 hP hD hS => ?_)
  obtain rfl : cA = cs 0 := q_cA_int hK9
  have hP : va_P D vwCl [(h0, .inr (3, [.null, .int 0, .int 0])), (q1, .inl (cs 0, N, .inl (fun _ => 0)))] H := hP
  have hD : va_D A [(h0, .inr (3, [.null, .int 0, .int 0])), (q1, .inl (cs 0, N, .inl (fun _ => 0)))] := hD
  refine W.widen (k := 1) (n := 40) (by omega) (by omega) ?_
  refine va_putF (D := D) (ci := 3) (v := .ref q1) (ty := .array .int) (C := R_NumberRow) (T := F_NumberRow) (N := 3) hx hb htg i_NumberRow t_NumberRow t_NumberRow_ok n_NumberRow hown hK hP hD hS 0 rfl rfl 0 (by decide) (htg _ mw342) (fun _ h9 => h9) rfl hin rfl (by decide +kernel) rfl rfl (Nat.le_of_ble_eq_true rfl) d_NumberRow_init_12 (fun H locs hP hD hS => ?_)
  have hP : va_P D vwCl [(h0, .inr (3, [.ref q1, .int 0, .int 0])), (q1, .inl (cs 0, N, .inl (fun _ => 0)))] H := hP
  have hD : va_D A [(h0, .inr (3, [.ref q1, .int 0, .int 0])), (q1, .inl (cs 0, N, .inl (fun _ => 0)))] := hD
  refine W.widen (k := 1) (n := 40) (Nat.le_of_ble_eq_true rfl) (Nat.le_of_ble_eq_true rfl) ?_
  exact W.vret hx hb hr (fun t ht hW => ⟨⟨(fun k => [q1].getD k 0), rfl, trivial, by rw [ht]; exact hP, hD⟩, hS.F ht⟩) hS.2.2 d_NumberRow_init_15
-- JobTerminal$Job <init>
set_option maxHeartbeats 4000000 in
set_option maxRecDepth 100000 in
theorem c_Job_init {l : Launch} {D : va_G} {cs : Nat → ClassId} {sz h0 : Nat} {p1 : Int32} : Met l y_Job_init w_Job_init ({ frames := 2, cells := 2, slots := 43, locals := 42 } : Room) (q_Pre D vwCl (tyL cs) NW [.ref h0, .int p1] [(h0, .inr (1, [.int 0, .null, .null, .null, .int 0, .int 0]))] sz) (q_Qc D vwCl (fun u => [(h0, .inr (1, [.int p1, .ref (u 0), .null, .null, .int 0, .int (-1)])), (u 0, .inr (3, [.ref (u 1), .int 0, .int 0])), (u 1, .inl (cs 0, 4, .inl (fun _ => 0)))]) (va_A [(h0, .inr (1, [.int 0, .null, .null, .null, .int 0, .int 0]))] sz)) 2 43 (va_A [(h0, .inr (1, [.int 0, .null, .null, .null, .int 0, .int 0]))] sz) := by
  refine Met.ofW (cc := b_Job_init) (maxL := 2) (ret := none) (by decide) rfl ?_
  intro p e s m args below meth c s₁ B hml hv
  obtain ⟨hargs, hsz, hP, hK, hD0, hN⟩ := hv
  have hx := B.exec
  have hb := B.bytes
  have hr := B.returns
  have hts := atoms_spec (ws := w_Job_init) B.pre
  have hown : s.vm.findClass "JobTerminal$Job" = some m.cls := findClass_of_methodNamed B.named
  have hlocks := B.notSynchronized
  have hin : meth.name = "<init>" := (name_of_methodNamed B.named B.method).1
  have htg : ∀ w ∈ GW, w.before args s = true := fun w h => hts w (List.mem_cons_of_mem _ h)
  subst hsz
  have hD := hD0.self (sz := s.heap.size)
  generalize hAe : va_A [(h0, .inr (1, [.int 0, .null, .null, .null, .int 0, .int 0]))] s.heap.size = A at hD ⊢
  have hA : ∀ q : Nat, s.heap.size ≤ q → A q := fun q h => by rw [← hAe]; exact Or.inr h
  have hS : va_S A s.heap s.heap [] := va_S.rf
  obtain ⟨ls, hen, hl⟩ := q_entry (vs := [.ref h0, .int p1]) (n := 2) (lv := [(0, .ref h0), (1, .int p1)]) (by intro v hv; simp only [List.mem_cons, List.not_mem_nil, or_false] at hv; rcases hv with rfl | rfl <;> first | rfl | exact q_cat) (Nat.le_of_ble_eq_true rfl) rfl
  rw [show entryFrame m args 2 = F0 m 0 ls [] from by rw [hargs]; exact hen m]
  refine lv_aload_n hx hb d_Job_init_0 rfl (q_at hl 0 rfl) ?_
  refine W.objInit hx hb hown (htg _ mw507) (htg _ mw498) (htg _ mw499) rfl (by rw [hml]; exact q_sz hl) rfl d_Job_init_1 (Nat.le_of_ble_eq_true rfl) (Nat.le_of_ble_eq_true rfl) ?_
  refine W.eq (g2 := F0 m 4 ls []) rfl ?_
  refine lv_aload_n hx hb d_Job_init_4 rfl (q_at hl 0 rfl) ?_
  refine lv_iload_n hx hb d_Job_init_5 rfl (q_at hl 1 rfl) ?_
  refine va_putF (D := D) (ci := 1) (v := .int p1) (ty := .int) (C := R_Job) (T := F_Job) (N := 6) hx hb htg i_Job t_Job t_Job_ok n_Job hown hK hP hD hS 0 rfl rfl 0 (by decide) (htg _ mw508) (fun _ h9 => h9) rfl hin rfl (by decide +kernel) rfl rfl (Nat.le_of_ble_eq_true rfl) d_Job_init_6 (fun H locs hP hD hS => ?_)
  have hP : va_P D vwCl [(h0, .inr (1, [.int p1, .null, .null, .null, .int 0, .int 0]))] H := hP
  have hD : va_D A [(h0, .inr (1, [.int p1, .null, .null, .null, .int 0, .int 0]))] := hD
  refine lv_aload_n hx hb d_Job_init_9 rfl (q_at hl 0 rfl) ?_
  refine va_new (ci := 3) (fs := [.null, .int 0, .int 0]) (C := R_NumberRow) (T := F_NumberRow) (N := 3) hx hb htg i_NumberRow t_NumberRow t_NumberRow_ok hown (htg _ mw509) (htg _ mw510) (htg _ mw88) hK hP hD hS hA rfl (fun j hj => by match j, hj with | 0, _ => rfl | 1, _ => rfl | 2, _ => rfl | j + 3, hj => exact absurd hj (by omega)) (Nat.le_of_ble_eq_true rfl) (Nat.le_of_ble_eq_true rfl) d_Job_init_10 (fun q1 H hP hD hS => ?_)
  have hP : va_P D vwCl [(h0, .inr (1, [.int p1, .null, .null, .null, .int 0, .int 0])), (q1, .inr (3, [.null, .int 0, .int 0]))] H := hP
  have hD : va_D A [(h0, .inr (1, [.int p1, .null, .null, .null, .int 0, .int 0])), (q1, .inr (3, [.null, .int 0, .int 0]))] := hD
  refine lv_dup hx hb d_Job_init_13 rfl ?_
  refine lv_iconst (v := 4) hx hb d_Job_init_14 (by decide) ?_
  have hPc := hP.sub (ws' := [(q1, .inr (3, [.null, .int 0, .int 0]))]) [1] rfl
  have hDc := hD.sub (ws' := [(q1, .inr (3, [.null, .int 0, .int 0]))]) [1] (by decide) rfl
  have hFc := va_free (wc := [(q1, .inr (3, [.null, .int 0, .int 0]))]) hD hS hA [1] rfl
  refine va_callv (va_runI (As := [.int 4]) (rest := [.ref q1, .ref h0]) ⟨hx, hb, hml, hown, hts⟩ (c_NumberRow_init (l := l) (D := D) (cs := cs) (h0 := q1) (sz := H.size) (N := 4) (by decide)) (cwI 1 hts (q_goodI mw511) rfl rfl rfl (htg _ mw88) (htg _ mw512) (htg _ mw513) rfl (by decide +kernel) ⟨(Nat.le_of_ble_eq_true rfl), (Nat.le_of_ble_eq_true rfl)⟩) ⟨q_Pre_blind NW_ok, fun U hU hW => q_Pre_at NW_ok hK hN hPc hDc hU hW⟩ rfl rfl (q_sz hl) rfl (lv_room (Nat.le_of_ble_eq_true rfl)) d_Job_init_15 ⟨(Nat.le_of_ble_eq_true rfl), (Nat.le_of_ble_eq_true rfl)⟩) hS (fun q _ h => hFc q h) hFc (fun u2 t H1 locs ht hvm hw hB hz1 hk1 hS => ?_)
  obtain ⟨hP1, hD1⟩ := hB
  rw [ht] at hP1
  obtain ⟨hP, hD⟩ := va_join (wr := [(h0, .inr (1, [.int p1, .null, .null, .null, .int 0, .int 0]))]) (w1 := [(q1, .inr (3, [.ref (u2 0), .int 0, .int 0])), (u2 0, .inl (cs 0, 4, .inl (fun _ => 0)))]) hP hD [1] [0] rfl rfl (by decide) (by decide) hk1 hFc hP1 hD1
  clear hPc hDc hFc hk1 hP1 hD1 ht hvm hw hz1
  generalize H1 = H at hP hS ⊢
  have hP : va_P D vwCl [(h0, .inr (1, [.int p1, .null, .null, .null, .int 0, .int 0])), (q1, .inr (3, [.ref (u2 0), .int 0, .int 0])), (u2 0, .inl (cs 0, 4, .inl (fun _ => 0)))] H := hP
  have hD : va_D A [(h0, .inr (1, [.int p1, .null, .null, .null, .int 0, .int 0])), (q1, .inr (3, [.ref (u2 0), .int 0, .int 0])), (u2 0, .inl (cs 0, 4, .inl (fun _ => 0)))] := hD
  refine va_putF (D := D) (ci := 1) (v := .ref q1) (ty := .object "JobTerminal$NumberRow") (C := R_Job) (T := F_Job) (N := 6) hx hb htg i_Job t_Job t_Job_ok n_Job hown hK hP hD hS 0 rfl rfl 1 (by decide) (htg _ mw330) (fun _ h9 => h9) rfl hin rfl (by decide +kernel) rfl rfl (Nat.le_of_ble_eq_true rfl) d_Job_init_18 (fun H locs hP hD hS => ?_)
  have hP : va_P D vwCl [(h0, .inr (1, [.int p1, .ref q1, .null, .null, .int 0, .int 0])), (q1, .inr (3, [.ref (u2 0), .int 0, .int 0])), (u2 0, .inl (cs 0, 4, .inl (fun _ => 0)))] H := hP
  have hD : va_D A [(h0, .inr (1, [.int p1, .ref q1, .null, .null, .int 0, .int 0])), (q1, .inr (3, [.ref (u2 0), .int 0, .int 0])), (u2 0, .inl (cs 0, 4, .inl (fun _ => 0)))] := hD
  refine lv_aload_n hx hb d_Job_init_21 rfl (q_at hl 0 rfl) ?_
  refine lv_iconst (v := -1) hx hb d_Job_init_22 (by decide) ?_
  refine va_put (D := D) (ci := 1) (v := .int (-1)) (ty := .int) (C := R_Job) (T := F_Job) (N := 6) hx hb htg i_Job t_Job t_Job_ok n_Job hown hK hP hD hS 0 rfl rfl 5 (by decide) (htg _ mw350) (fun _ h9 => h9) rfl (by decide +kernel) rfl rfl (Nat.le_of_ble_eq_true rfl) d_Job_init_23 (fun H locs hP hD hS => ?_)
  have hP : va_P D vwCl [(h0, .inr (1, [.int p1, .ref q1, .null, .null, .int 0, .int (-1)])), (q1, .inr (3, [.ref (u2 0), .int 0, .int 0])), (u2 0, .inl (cs 0, 4, .inl (fun _ => 0)))] H := hP
  have hD : va_D A [(h0, .inr (1, [.int p1, .ref q1, .null, .null, .int 0, .int (-1)])), (q1, .inr (3, [.ref (u2 0), .int 0, .int 0])), (u2 0, .inl (cs 0, 4, .inl (fun _ => 0)))] := hD
  refine W.widen (k := 2) (n := 43) (Nat.le_of_ble_eq_true rfl) (Nat.le_of_ble_eq_true rfl) ?_
  exact W.vret hx hb hr (fun t ht hW => ⟨⟨(fun k => [q1, u2 0].getD k 0), rfl, trivial, by rw [ht]; exact hP, hD⟩, hS.F ht⟩) hS.2.2 d_Job_init_26
-- JobTerminal$Terminal <init>
set_option maxHeartbeats 4000000 in
set_option maxRecDepth 100000 in
theorem c_Terminal_init {l : Launch} {D : va_G} {cs : Nat → ClassId} {sz h0 : Nat} : Met l y_Terminal_init w_Terminal_init ({ frames := 2, cells := 6, slots := 189, locals := 42 } : Room) (q_Pre D vwCl (tyL cs) NW [.ref h0] [(h0, .inr (5, [.null, .null, .null, .int 0, .int 0]))] sz) (q_Qc D vwCl (fun u => [(h0, .inr (5, [.ref (u 0), .ref (u 2), .ref (u 4), .int 47, .int 0])), (u 0, .inr (3, [.ref (u 1), .int 0, .int 0])), (u 1, .inl (cs 0, 20, .inl (fun _ => 0))), (u 2, .inr (3, [.ref (u 3), .int 0, .int 0])), (u 3, .inl (cs 0, 40, .inl (fun _ => 0))), (u 4, .inr (0, [.ref (u 5), .int 0, .int 0])), (u 5, .inl (cs 0, 100, .inl (fun _ => 0)))]) (va_A [(h0, .inr (5, [.null, .null, .null, .int 0, .int 0]))] sz)) 6 189 (va_A [(h0, .inr (5, [.null, .null, .null, .int 0, .int 0]))] sz) := by
  refine Met.ofW (cc := b_Terminal_init) (maxL := 1) (ret := none) (by decide) rfl ?_
  intro p e s m args below meth c s₁ B hml hv
  obtain ⟨hargs, hsz, hP, hK, hD0, hN⟩ := hv
  have hx := B.exec
  have hb := B.bytes
  have hr := B.returns
  have hts := atoms_spec (ws := w_Terminal_init) B.pre
  have hown : s.vm.findClass "JobTerminal$Terminal" = some m.cls := findClass_of_methodNamed B.named
  have hlocks := B.notSynchronized
  have hin : meth.name = "<init>" := (name_of_methodNamed B.named B.method).1
  have htg : ∀ w ∈ GW, w.before args s = true := fun w h => hts w (List.mem_cons_of_mem _ h)
  subst hsz
  have hD := hD0.self (sz := s.heap.size)
  generalize hAe : va_A [(h0, .inr (5, [.null, .null, .null, .int 0, .int 0]))] s.heap.size = A at hD ⊢
  have hA : ∀ q : Nat, s.heap.size ≤ q → A q := fun q h => by rw [← hAe]; exact Or.inr h
  have hS : va_S A s.heap s.heap [] := va_S.rf
  obtain ⟨ls, hen, hl⟩ := q_entry (vs := [.ref h0]) (n := 1) (lv := [(0, .ref h0)]) (by intro v hv; simp only [List.mem_cons, List.not_mem_nil, or_false] at hv; rcases hv with rfl <;> first | rfl | exact q_cat) (Nat.le_of_ble_eq_true rfl) rfl
  rw [show entryFrame m args 1 = F0 m 0 ls [] from by rw [hargs]; exact hen m]
  refine lv_aload_n hx hb d_Terminal_init_0 rfl (q_at hl 0 rfl) ?_
  refine W.objInit hx hb hown (htg _ mw514) (htg _ mw498) (htg _ mw499) rfl (by rw [hml]; exact q_sz hl) rfl d_Terminal_init_1 (Nat.le_of_ble_eq_true rfl) (Nat.le_of_ble_eq_true rfl) ?_
  refine W.eq (g2 := F0 m 4 ls []) rfl ?_
  refine lv_aload_n hx hb d_Terminal_init_4 rfl (q_at hl 0 rfl) ?_
  refine va_new (ci := 3) (fs := [.null, .int 0, .int 0]) (C := R_NumberRow) (T := F_NumberRow) (N := 3) hx hb htg i_NumberRow t_NumberRow t_NumberRow_ok hown (htg _ mw515) (htg _ mw510) (htg _ mw88) hK hP hD hS hA rfl (fun j hj => by match j, hj with | 0, _ => rfl | 1, _ => rfl | 2, _ => rfl | j + 3, hj => exact absurd hj (by omega)) (Nat.le_of_ble_eq_true rfl) (Nat.le_of_ble_eq_true rfl) d_Terminal_init_5 (fun q1 H hP hD hS => ?_)
  have hP : va_P D vwCl [(h0, .inr (5, [.null, .null, .null, .int 0, .int 0])), (q1, .inr (3, [.null, .int 0, .int 0]))] H := hP
  have hD : va_D A [(h0, .inr (5, [.null, .null, .null, .int 0, .int 0])), (q1, .inr (3, [.null, .int 0, .int 0]))] := hD
  refine lv_dup hx hb d_Terminal_init_8 rfl ?_
  refine lv_bipush (v := 20) hx hb d_Terminal_init_9 (by decide) ?_
  have hPc := hP.sub (ws' := [(q1, .inr (3, [.null, .int 0, .int 0]))]) [1] rfl
  have hDc := hD.sub (ws' := [(q1, .inr (3, [.null, .int 0, .int 0]))]) [1] (by decide) rfl
  have hFc := va_free (wc := [(q1, .inr (3, [.null, .int 0, .int 0]))]) hD hS hA [1] rfl
  refine va_callv (va_runI (As := [.int 20]) (rest := [.ref q1, .ref h0]) ⟨hx, hb, hml, hown, hts⟩ (c_NumberRow_init (l := l) (D := D) (cs := cs) (h0 := q1) (sz := H.size) (N := 20) (by decide)) (cwI 1 hts (q_goodI mw511) rfl rfl rfl (htg _ mw88) (htg _ mw516) (htg _ mw513) rfl (by decide +kernel) ⟨(Nat.le_of_ble_eq_true rfl), (Nat.le_of_ble_eq_true rfl)⟩) ⟨q_Pre_blind NW_ok, fun U hU hW => q_Pre_at NW_ok hK hN hPc hDc hU hW⟩ rfl rfl (q_sz hl) rfl (lv_room (Nat.le_of_ble_eq_true rfl)) d_Terminal_init_11 ⟨(Nat.le_of_ble_eq_true rfl), (Nat.le_of_ble_eq_true rfl)⟩) hS (fun q _ h => hFc q h) hFc (fun u2 t H1 locs ht hvm hw hB hz1 hk1 hS => ?_)
  obtain ⟨hP1, hD1⟩ := hB
  rw [ht] at hP1
  obtain ⟨hP, hD⟩ := va_join (wr := [(h0, .inr (5, [.null, .null, .null, .int 0, .int 0]))]) (w1 := [(q1, .inr (3, [.ref (u2 0), .int 0, .int 0])), (u2 0, .inl (cs 0, 20, .inl (fun _ => 0)))]) hP hD [1] [0] rfl rfl (by decide) (by decide) hk1 hFc hP1 hD1
  clear hPc hDc hFc hk1 hP1 hD1 ht hvm hw hz1
  generalize H1 = H at hP hS ⊢
  have hP : va_P D vwCl [(h0, .inr (5, [.null, .null, .null, .int 0, .int 0])), (q1, .inr (3, [.ref (u2 0), .int 0, .int 0])), (u2 0, .inl (cs 0, 20, .inl (fun _ => 0)))] H := hP
  have hD : va_D A [(h0, .inr (5, [.null, .null, .null, .int 0, .int 0])), (q1, .inr (3, [.ref (u2 0), .int 0, .int 0])), (u2 0, .inl (cs 0, 20, .inl (fun _ => 0)))] := hD
  refine va_putF (D := D) (ci := 5) (v := .ref q1) (ty := .object "JobTerminal$NumberRow") (C := R_Terminal) (T := F_Terminal) (N := 5) hx hb htg i_Terminal t_Terminal t_Terminal_ok n_Terminal hown hK hP hD hS 0 rfl rfl 0 (by decide) (htg _ mw347) (fun _ h9 => h9) rfl hin rfl (by decide +kernel) rfl rfl (Nat.le_of_ble_eq_true rfl) d_Terminal_init_14 (fun H locs hP hD hS => ?_)
  have hP : va_P D vwCl [(h0, .inr (5, [.ref q1, .null, .null, .int 0, .int 0])), (q1, .inr (3, [.ref (u2 0), .int 0, .int 0])), (u2 0, .inl (cs 0, 20, .inl (fun _ => 0)))] H := hP
  have hD : va_D A [(h0, .inr (5, [.ref q1, .null, .null, .int 0, .int 0])), (q1, .inr (3, [.ref (u2 0), .int 0, .int 0])), (u2 0, .inl (cs 0, 20, .inl (fun _ => 0)))] := hD
  refine lv_aload_n hx hb d_Terminal_init_17 rfl (q_at hl 0 rfl) ?_
  refine va_new (ci := 3) (fs := [.null, .int 0, .int 0]) (C := R_NumberRow) (T := F_NumberRow) (N := 3) hx hb htg i_NumberRow t_NumberRow t_NumberRow_ok hown (htg _ mw515) (htg _ mw510) (htg _ mw88) hK hP hD hS hA rfl (fun j hj => by match j, hj with | 0, _ => rfl | 1, _ => rfl | 2, _ => rfl | j + 3, hj => exact absurd hj (by omega)) (Nat.le_of_ble_eq_true rfl) (Nat.le_of_ble_eq_true rfl) d_Terminal_init_18 (fun q3 H hP hD hS => ?_)
  have hP : va_P D vwCl [(h0, .inr (5, [.ref q1, .null, .null, .int 0, .int 0])), (q1, .inr (3, [.ref (u2 0), .int 0, .int 0])), (u2 0, .inl (cs 0, 20, .inl (fun _ => 0))), (q3, .inr (3, [.null, .int 0, .int 0]))] H := hP
  have hD : va_D A [(h0, .inr (5, [.ref q1, .null, .null, .int 0, .int 0])), (q1, .inr (3, [.ref (u2 0), .int 0, .int 0])), (u2 0, .inl (cs 0, 20, .inl (fun _ => 0))), (q3, .inr (3, [.null, .int 0, .int 0]))] := hD
  refine lv_dup hx hb d_Terminal_init_21 rfl ?_
  refine lv_bipush (v := 40) hx hb d_Terminal_init_22 (by decide) ?_
  have hPc := hP.sub (ws' := [(q3, .inr (3, [.null, .int 0, .int 0]))]) [3] rfl
  have hDc := hD.sub (ws' := [(q3, .inr (3, [.null, .int 0, .int 0]))]) [3] (by decide) rfl
  have hFc := va_free (wc := [(q3, .inr (3, [.null, .int 0, .int 0]))]) hD hS hA [3] rfl
  refine va_callv (va_runI (As := [.int 40]) (rest := [.ref q3, .ref h0]) ⟨hx, hb, hml, hown, hts⟩ (c_NumberRow_init (l := l) (D := D) (cs := cs) (h0 := q3) (sz := H.size) (N := 40) (by decide)) (cwI 1 hts (q_goodI mw511) rfl rfl rfl (htg _ mw88) (htg _ mw516) (htg _ mw513) rfl (by decide +kernel) ⟨(Nat.le_of_ble_eq_true rfl), (Nat.le_of_ble_eq_true rfl)⟩) ⟨q_Pre_blind NW_ok, fun U hU hW => q_Pre_at NW_ok hK hN hPc hDc hU hW⟩ rfl rfl (q_sz hl) rfl (lv_room (Nat.le_of_ble_eq_true rfl)) d_Terminal_init_24 ⟨(Nat.le_of_ble_eq_true rfl), (Nat.le_of_ble_eq_true rfl)⟩) hS (fun q _ h => hFc q h) hFc (fun u4 t H1 locs ht hvm hw hB hz1 hk1 hS => ?_)
  obtain ⟨hP1, hD1⟩ := hB
  rw [ht] at hP1
  obtain ⟨hP, hD⟩ := va_join (wr := [(h0, .inr (5, [.ref q1, .null, .null, .int 0, .int 0])), (q1, .inr (3, [.ref (u2 0), .int 0, .int 0])), (u2 0, .inl (cs 0, 20, .inl (fun _ => 0)))]) (w1 := [(q3, .inr (3, [.ref (u4 0), .int 0, .int 0])), (u4 0, .inl (cs 0, 40, .inl (fun _ => 0)))]) hP hD [3] [0, 1, 2] rfl rfl (by decide) (by decide) hk1 hFc hP1 hD1
  clear hPc hDc hFc hk1 hP1 hD1 ht hvm hw hz1
  generalize H1 = H at hP hS ⊢
  have hP : va_P D vwCl [(h0, .inr (5, [.ref q1, .null, .null, .int 0, .int 0])), (q1, .inr (3, [.ref (u2 0), .int 0, .int 0])), (u2 0, .inl (cs 0, 20, .inl (fun _ => 0))), (q3, .inr (3, [.ref (u4 0), .int 0, .int 0])), (u4 0, .inl (cs 0, 40, .inl (fun _ => 0)))] H := hP
  have hD : va_D A [(h0, .inr (5, [.ref q1, .null, .null, .int 0, .int 0])), (q1, .inr (3, [.ref (u2 0), .int 0, .int 0])), (u2 0, .inl (cs 0, 20, .inl (fun _ => 0))), (q3, .inr (3, [.ref (u4 0), .int 0, .int 0])), (u4 0, .inl (cs 0, 40, .inl (fun _ => 0)))] := hD
  refine va_putF (D := D) (ci := 5) (v := .ref q3) (ty := .object "JobTerminal$NumberRow") (C := R_Terminal) (T := F_Terminal) (N := 5) hx hb htg i_Terminal t_Terminal t_Terminal_ok n_Terminal hown hK hP hD hS 0 rfl rfl 1 (by decide) (htg _ mw349) (fun _ h9 => h9) rfl hin rfl (by decide +kernel) rfl rfl (Nat.le_of_ble_eq_true rfl) d_Terminal_init_27 (fun H locs hP hD hS => ?_)
  have hP : va_P D vwCl [(h0, .inr (5, [.ref q1, .ref q3, .null, .int 0, .int 0])), (q1, .inr (3, [.ref (u2 0), .int 0, .int 0])), (u2 0, .inl (cs 0, 20, .inl (fun _ => 0))), (q3, .inr (3, [.ref (u4 0), .int 0, .int 0])), (u4 0, .inl (cs 0, 40, .inl (fun _ => 0)))] H := hP
  have hD : va_D A [(h0, .inr (5, [.ref q1, .ref q3, .null, .int 0, .int 0])), (q1, .inr (3, [.ref (u2 0), .int 0, .int 0])), (u2 0, .inl (cs 0, 20, .inl (fun _ => 0))), (q3, .inr (3, [.ref (u4 0), .int 0, .int 0])), (u4 0, .inl (cs 0, 40, .inl (fun _ => 0)))] := hD
  refine lv_aload_n hx hb d_Terminal_init_30 rfl (q_at hl 0 rfl) ?_
  refine va_new (ci := 0) (fs := [.null, .int 0, .int 0]) (C := R_Display) (T := F_Display) (N := 3) hx hb htg i_Display t_Display t_Display_ok hown (htg _ mw517) (htg _ mw518) (htg _ mw93) hK hP hD hS hA rfl (fun j hj => by match j, hj with | 0, _ => rfl | 1, _ => rfl | 2, _ => rfl | j + 3, hj => exact absurd hj (by omega)) (Nat.le_of_ble_eq_true rfl) (Nat.le_of_ble_eq_true rfl) d_Terminal_init_31 (fun q5 H hP hD hS => ?_)
  have hP : va_P D vwCl [(h0, .inr (5, [.ref q1, .ref q3, .null, .int 0, .int 0])), (q1, .inr (3, [.ref (u2 0), .int 0, .int 0])), (u2 0, .inl (cs 0, 20, .inl (fun _ => 0))), (q3, .inr (3, [.ref (u4 0), .int 0, .int 0])), (u4 0, .inl (cs 0, 40, .inl (fun _ => 0))), (q5, .inr (0, [.null, .int 0, .int 0]))] H := hP
  have hD : va_D A [(h0, .inr (5, [.ref q1, .ref q3, .null, .int 0, .int 0])), (q1, .inr (3, [.ref (u2 0), .int 0, .int 0])), (u2 0, .inl (cs 0, 20, .inl (fun _ => 0))), (q3, .inr (3, [.ref (u4 0), .int 0, .int 0])), (u4 0, .inl (cs 0, 40, .inl (fun _ => 0))), (q5, .inr (0, [.null, .int 0, .int 0]))] := hD
  refine lv_dup hx hb d_Terminal_init_34 rfl ?_
  have hPc := hP.sub (ws' := [(q5, .inr (0, [.null, .int 0, .int 0]))]) [5] rfl
  have hDc := hD.sub (ws' := [(q5, .inr (0, [.null, .int 0, .int 0]))]) [5] (by decide) rfl
  have hFc := va_free (wc := [(q5, .inr (0, [.null, .int 0, .int 0]))]) hD hS hA [5] rfl
  refine va_callv (va_runI (As := []) (rest := [.ref q5, .ref h0]) ⟨hx, hb, hml, hown, hts⟩ (c_Display_init (l := l) (D := D) (cs := cs) (h0 := q5) (sz := H.size)) (cwI 0 hts (q_goodI mw519) rfl rfl rfl (htg _ mw93) (htg _ mw520) (htg _ mw521) rfl (by decide +kernel) ⟨(Nat.le_of_ble_eq_true rfl), (Nat.le_of_ble_eq_true rfl)⟩) ⟨q_Pre_blind NW_ok, fun U hU hW => q_Pre_at NW_ok hK hN hPc hDc hU hW⟩ rfl rfl (q_sz hl) rfl (lv_room (Nat.le_of_ble_eq_true rfl)) d_Terminal_init_35 ⟨(Nat.le_of_ble_eq_true rfl), (Nat.le_of_ble_eq_true rfl)⟩) hS (fun q _ h => hFc q h) hFc (fun u6 t H1 locs ht hvm hw hB hz1 hk1 hS => ?_)
  obtain ⟨hP1, hD1⟩ := hB
  rw [ht] at hP1
  obtain ⟨hP, hD⟩ := va_join (wr := [(h0, .inr (5, [.ref q1, .ref q3, .null, .int 0, .int 0])), (q1, .inr (3, [.ref (u2 0), .int 0, .int 0])), (u2 0, .inl (cs 0, 20, .inl (fun _ => 0))), (q3, .inr (3, [.ref (u4 0), .int 0, .int 0])), (u4 0, .inl (cs 0, 40, .inl (fun _ => 0)))]) (w1 := [(q5, .inr (0, [.ref (u6 0), .int 0, .int 0])), (u6 0, .inl (cs 0, 100, .inl (fun _ => 0)))]) hP hD [5] [0, 1, 2, 3, 4] rfl rfl (by decide) (by decide) hk1 hFc hP1 hD1
  clear hPc hDc hFc hk1 hP1 hD1 ht hvm hw hz1
  generalize H1 = H at hP hS ⊢
  have hP : va_P D vwCl [(h0, .inr (5, [.ref q1, .ref q3, .null, .int 0, .int 0])), (q1, .inr (3, [.ref (u2 0), .int 0, .int 0])), (u2 0, .inl (cs 0, 20, .inl (fun _ => 0))), (q3, .inr (3, [.ref (u4 0), .int 0, .int 0])), (u4 0, .inl (cs 0, 40, .inl (fun _ => 0))), (q5, .inr (0, [.ref (u6 0), .int 0, .int 0])), (u6 0, .inl (cs 0, 100, .inl (fun _ => 0)))] H := hP
  have hD : va_D A [(h0, .inr (5, [.ref q1, .ref q3, .null, .int 0, .int 0])), (q1, .inr (3, [.ref (u2 0), .int 0, .int 0])), (u2 0, .inl (cs 0, 20, .inl (fun _ => 0))), (q3, .inr (3, [.ref (u4 0), .int 0, .int 0])), (u4 0, .inl (cs 0, 40, .inl (fun _ => 0))), (q5, .inr (0, [.ref (u6 0), .int 0, .int 0])), (u6 0, .inl (cs 0, 100, .inl (fun _ => 0)))] := hD
  refine va_putF (D := D) (ci := 5) (v := .ref q5) (ty := .object "JobTerminal$Display") (C := R_Terminal) (T := F_Terminal) (N := 5) hx hb htg i_Terminal t_Terminal t_Terminal_ok n_Terminal hown hK hP hD hS 0 rfl rfl 2 (by decide) (htg _ mw346) (fun _ h9 => h9) rfl hin rfl (by decide +kernel) rfl rfl (Nat.le_of_ble_eq_true rfl) d_Terminal_init_38 (fun H locs hP hD hS => ?_)
  have hP : va_P D vwCl [(h0, .inr (5, [.ref q1, .ref q3, .ref q5, .int 0, .int 0])), (q1, .inr (3, [.ref (u2 0), .int 0, .int 0])), (u2 0, .inl (cs 0, 20, .inl (fun _ => 0))), (q3, .inr (3, [.ref (u4 0), .int 0, .int 0])), (u4 0, .inl (cs 0, 40, .inl (fun _ => 0))), (q5, .inr (0, [.ref (u6 0), .int 0, .int 0])), (u6 0, .inl (cs 0, 100, .inl (fun _ => 0)))] H := hP
  have hD : va_D A [(h0, .inr (5, [.ref q1, .ref q3, .ref q5, .int 0, .int 0])), (q1, .inr (3, [.ref (u2 0), .int 0, .int 0])), (u2 0, .inl (cs 0, 20, .inl (fun _ => 0))), (q3, .inr (3, [.ref (u4 0), .int 0, .int 0])), (u4 0, .inl (cs 0, 40, .inl (fun _ => 0))), (q5, .inr (0, [.ref (u6 0), .int 0, .int 0])), (u6 0, .inl (cs 0, 100, .inl (fun _ => 0)))] := hD
  refine lv_aload_n hx hb d_Terminal_init_41 rfl (q_at hl 0 rfl) ?_
  refine lv_bipush (v := 47) hx hb d_Terminal_init_42 (by decide) ?_
  refine va_put (D := D) (ci := 5) (v := .int 47) (ty := .int) (C := R_Terminal) (T := F_Terminal) (N := 5) hx hb htg i_Terminal t_Terminal t_Terminal_ok n_Terminal hown hK hP hD hS 0 rfl rfl 3 (by decide) (htg _ mw348) (fun _ h9 => h9) rfl (by decide +kernel) rfl rfl (Nat.le_of_ble_eq_true rfl) d_Terminal_init_44 (fun H locs hP hD hS => ?_)
  have hP : va_P D vwCl [(h0, .inr (5, [.ref q1, .ref q3, .ref q5, .int 47, .int 0])), (q1, .inr (3, [.ref (u2 0), .int 0, .int 0])), (u2 0, .inl (cs 0, 20, .inl (fun _ => 0))), (q3, .inr (3, [.ref (u4 0), .int 0, .int 0])), (u4 0, .inl (cs 0, 40, .inl (fun _ => 0))), (q5, .inr (0, [.ref (u6 0), .int 0, .int 0])), (u6 0, .inl (cs 0, 100, .inl (fun _ => 0)))] H := hP
  have hD : va_D A [(h0, .inr (5, [.ref q1, .ref q3, .ref q5, .int 47, .int 0])), (q1, .inr (3, [.ref (u2 0), .int 0, .int 0])), (u2 0, .inl (cs 0, 20, .inl (fun _ => 0))), (q3, .inr (3, [.ref (u4 0), .int 0, .int 0])), (u4 0, .inl (cs 0, 40, .inl (fun _ => 0))), (q5, .inr (0, [.ref (u6 0), .int 0, .int 0])), (u6 0, .inl (cs 0, 100, .inl (fun _ => 0)))] := hD
  refine lv_aload_n hx hb d_Terminal_init_47 rfl (q_at hl 0 rfl) ?_
  refine lv_iconst (v := 0) hx hb d_Terminal_init_48 (by decide) ?_
  refine va_put (D := D) (ci := 5) (v := .int 0) (ty := .boolean) (C := R_Terminal) (T := F_Terminal) (N := 5) hx hb htg i_Terminal t_Terminal t_Terminal_ok n_Terminal hown hK hP hD hS 0 rfl rfl 4 (by decide) (htg _ mw353) (fun _ h9 => h9) rfl (by decide +kernel) rfl rfl (Nat.le_of_ble_eq_true rfl) d_Terminal_init_49 (fun H locs hP hD hS => ?_)
  have hP : va_P D vwCl [(h0, .inr (5, [.ref q1, .ref q3, .ref q5, .int 47, .int 0])), (q1, .inr (3, [.ref (u2 0), .int 0, .int 0])), (u2 0, .inl (cs 0, 20, .inl (fun _ => 0))), (q3, .inr (3, [.ref (u4 0), .int 0, .int 0])), (u4 0, .inl (cs 0, 40, .inl (fun _ => 0))), (q5, .inr (0, [.ref (u6 0), .int 0, .int 0])), (u6 0, .inl (cs 0, 100, .inl (fun _ => 0)))] H := hP
  have hD : va_D A [(h0, .inr (5, [.ref q1, .ref q3, .ref q5, .int 47, .int 0])), (q1, .inr (3, [.ref (u2 0), .int 0, .int 0])), (u2 0, .inl (cs 0, 20, .inl (fun _ => 0))), (q3, .inr (3, [.ref (u4 0), .int 0, .int 0])), (u4 0, .inl (cs 0, 40, .inl (fun _ => 0))), (q5, .inr (0, [.ref (u6 0), .int 0, .int 0])), (u6 0, .inl (cs 0, 100, .inl (fun _ => 0)))] := hD
  refine W.widen (k := 6) (n := 189) (Nat.le_of_ble_eq_true rfl) (Nat.le_of_ble_eq_true rfl) ?_
  exact W.vret hx hb hr (fun t ht hW => ⟨⟨(fun k => [q1, u2 0, q3, u4 0, q5, u6 0].getD k 0), rfl, trivial, by rw [ht]; exact hP, hD⟩, hS.F ht⟩) hS.2.2 d_Terminal_init_52
end
