section
-- ===== PART A: goes FIRST, ahead of the names: the tables' words, and 'selects' of the private methods out of them =====
/-- a private method of a class that the tables say can be made, by its rows of tables_1 -/
def lw_okq (q : MethodName × Nat) : Prop := (q.1.cls ≠ "java/lang/invoke/MethodHandle" ∧ q.1.cls ≠ "java/lang/invoke/VarHandle") ∧ Cond.instantiable q.1.cls q.2 ∈ tables_1 ∧ Cond.privateMethod q.1 ∈ tables_1 ∧ Cond.instanceMethod q.1 ∈ tables_1
theorem lw_p0 : lw_okq (⟨"ShakenTree$Program", "isSound", "(LShakenTree$Member;II)Z"⟩, 4) := ⟨⟨by decide +kernel, by decide +kernel⟩, List.mem_of_getElem? (i := 27) (by decide +kernel), List.mem_of_getElem? (i := 256) (by decide +kernel), List.mem_of_getElem? (i := 257) (by decide +kernel)⟩
theorem lw_p1 : lw_okq (⟨"java/lang/Throwable", "fillInStackTrace", "(I)Ljava/lang/Throwable;"⟩, 6) := ⟨⟨by decide +kernel, by decide +kernel⟩, List.mem_of_getElem? (i := 344) (by decide +kernel), List.mem_of_getElem? (i := 342) (by decide +kernel), List.mem_of_getElem? (i := 343) (by decide +kernel)⟩
theorem lw_p2 : lw_okq (⟨"ShakenTree$Shaker", "forget", "()V"⟩, 7) := ⟨⟨by decide +kernel, by decide +kernel⟩, List.mem_of_getElem? (i := 145) (by decide +kernel), List.mem_of_getElem? (i := 501) (by decide +kernel), List.mem_of_getElem? (i := 502) (by decide +kernel)⟩
theorem lw_p3 : lw_okq (⟨"ShakenTree$Shaker", "keepEntries", "(LShakenTree$Program;)V"⟩, 7) := ⟨⟨by decide +kernel, by decide +kernel⟩, List.mem_of_getElem? (i := 145) (by decide +kernel), List.mem_of_getElem? (i := 505) (by decide +kernel), List.mem_of_getElem? (i := 506) (by decide +kernel)⟩
theorem lw_p4 : lw_okq (⟨"ShakenTree$Shaker", "keepMember", "(LShakenTree$Program;I)V"⟩, 7) := ⟨⟨by decide +kernel, by decide +kernel⟩, List.mem_of_getElem? (i := 145) (by decide +kernel), List.mem_of_getElem? (i := 509) (by decide +kernel), List.mem_of_getElem? (i := 510) (by decide +kernel)⟩
theorem lw_p5 : lw_okq (⟨"ShakenTree$Shaker", "keepReached", "(LShakenTree$Program;)V"⟩, 7) := ⟨⟨by decide +kernel, by decide +kernel⟩, List.mem_of_getElem? (i := 145) (by decide +kernel), List.mem_of_getElem? (i := 513) (by decide +kernel), List.mem_of_getElem? (i := 514) (by decide +kernel)⟩
theorem lw_p6 : lw_okq (⟨"ShakenTree$Shaker", "keepConstant", "(LShakenTree$Program;II)V"⟩, 7) := ⟨⟨by decide +kernel, by decide +kernel⟩, List.mem_of_getElem? (i := 145) (by decide +kernel), List.mem_of_getElem? (i := 520) (by decide +kernel), List.mem_of_getElem? (i := 521) (by decide +kernel)⟩
theorem lw_p7 : lw_okq (⟨"ShakenTree$Shaker", "closeUpAll", "(LShakenTree$Program;)V"⟩, 7) := ⟨⟨by decide +kernel, by decide +kernel⟩, List.mem_of_getElem? (i := 145) (by decide +kernel), List.mem_of_getElem? (i := 526) (by decide +kernel), List.mem_of_getElem? (i := 527) (by decide +kernel)⟩
theorem lw_p8 : lw_okq (⟨"ShakenTree$Shaker", "lookAtNames", "(LShakenTree$Program;)V"⟩, 7) := ⟨⟨by decide +kernel, by decide +kernel⟩, List.mem_of_getElem? (i := 145) (by decide +kernel), List.mem_of_getElem? (i := 533) (by decide +kernel), List.mem_of_getElem? (i := 534) (by decide +kernel)⟩
theorem lw_p9 : lw_okq (⟨"ShakenTree$Shaker", "giveNames", "()V"⟩, 7) := ⟨⟨by decide +kernel, by decide +kernel⟩, List.mem_of_getElem? (i := 145) (by decide +kernel), List.mem_of_getElem? (i := 538) (by decide +kernel), List.mem_of_getElem? (i := 539) (by decide +kernel)⟩
theorem lw_p10 : lw_okq (⟨"ShakenTree$Shaker", "leastFreeName", "(I)I"⟩, 7) := ⟨⟨by decide +kernel, by decide +kernel⟩, List.mem_of_getElem? (i := 145) (by decide +kernel), List.mem_of_getElem? (i := 542) (by decide +kernel), List.mem_of_getElem? (i := 543) (by decide +kernel)⟩
theorem lw_p11 : lw_okq (⟨"ShakenTree$Shaker", "write", "(LShakenTree$Program;LShakenTree$Program;)V"⟩, 7) := ⟨⟨by decide +kernel, by decide +kernel⟩, List.mem_of_getElem? (i := 145) (by decide +kernel), List.mem_of_getElem? (i := 546) (by decide +kernel), List.mem_of_getElem? (i := 547) (by decide +kernel)⟩
theorem lw_p12 : lw_okq (⟨"ShakenTree$Shaker", "writePool", "(LShakenTree$Pool;[ILShakenTree$Pool;)V"⟩, 7) := ⟨⟨by decide +kernel, by decide +kernel⟩, List.mem_of_getElem? (i := 145) (by decide +kernel), List.mem_of_getElem? (i := 552) (by decide +kernel), List.mem_of_getElem? (i := 553) (by decide +kernel)⟩
theorem lw_p13 : lw_okq (⟨"ShakenTree$Shaker", "newFirst", "(II[I)I"⟩, 7) := ⟨⟨by decide +kernel, by decide +kernel⟩, List.mem_of_getElem? (i := 145) (by decide +kernel), List.mem_of_getElem? (i := 556) (by decide +kernel), List.mem_of_getElem? (i := 557) (by decide +kernel)⟩
theorem lw_p14 : lw_okq (⟨"ShakenTree$Shaker", "writeMember", "(LShakenTree$Member;LShakenTree$Program;)V"⟩, 7) := ⟨⟨by decide +kernel, by decide +kernel⟩, List.mem_of_getElem? (i := 145) (by decide +kernel), List.mem_of_getElem? (i := 561) (by decide +kernel), List.mem_of_getElem? (i := 562) (by decide +kernel)⟩
theorem lw_p15 : lw_okq (⟨"ShakenTree", "chosen", "(Z)LShakenTree$Program;"⟩, 4) := ⟨⟨by decide +kernel, by decide +kernel⟩, List.mem_of_getElem? (i := 19) (by decide +kernel), List.mem_of_getElem? (i := 574) (by decide +kernel), List.mem_of_getElem? (i := 575) (by decide +kernel)⟩
def lw_privs_1 : List (MethodName × Nat) := [(⟨"ShakenTree$Program", "isSound", "(LShakenTree$Member;II)Z"⟩, 4), (⟨"java/lang/Throwable", "fillInStackTrace", "(I)Ljava/lang/Throwable;"⟩, 6), (⟨"ShakenTree$Shaker", "forget", "()V"⟩, 7), (⟨"ShakenTree$Shaker", "keepEntries", "(LShakenTree$Program;)V"⟩, 7), (⟨"ShakenTree$Shaker", "keepMember", "(LShakenTree$Program;I)V"⟩, 7), (⟨"ShakenTree$Shaker", "keepReached", "(LShakenTree$Program;)V"⟩, 7), (⟨"ShakenTree$Shaker", "keepConstant", "(LShakenTree$Program;II)V"⟩, 7), (⟨"ShakenTree$Shaker", "closeUpAll", "(LShakenTree$Program;)V"⟩, 7), (⟨"ShakenTree$Shaker", "lookAtNames", "(LShakenTree$Program;)V"⟩, 7), (⟨"ShakenTree$Shaker", "giveNames", "()V"⟩, 7), (⟨"ShakenTree$Shaker", "leastFreeName", "(I)I"⟩, 7), (⟨"ShakenTree$Shaker", "write", "(LShakenTree$Program;LShakenTree$Program;)V"⟩, 7), (⟨"ShakenTree$Shaker", "writePool", "(LShakenTree$Pool;[ILShakenTree$Pool;)V"⟩, 7), (⟨"ShakenTree$Shaker", "newFirst", "(II[I)I"⟩, 7), (⟨"ShakenTree$Shaker", "writeMember", "(LShakenTree$Member;LShakenTree$Program;)V"⟩, 7), (⟨"ShakenTree", "chosen", "(Z)LShakenTree$Program;"⟩, 4)]
theorem lw_r1 : ∀ q ∈ lw_privs_1, lw_okq q := List.forall_mem_cons.mpr ⟨lw_p0, List.forall_mem_cons.mpr ⟨lw_p1, List.forall_mem_cons.mpr ⟨lw_p2, List.forall_mem_cons.mpr ⟨lw_p3, List.forall_mem_cons.mpr ⟨lw_p4, List.forall_mem_cons.mpr ⟨lw_p5, List.forall_mem_cons.mpr ⟨lw_p6, List.forall_mem_cons.mpr ⟨lw_p7, List.forall_mem_cons.mpr ⟨lw_p8, List.forall_mem_cons.mpr ⟨lw_p9, List.forall_mem_cons.mpr ⟨lw_p10, List.forall_mem_cons.mpr ⟨lw_p11, List.forall_mem_cons.mpr ⟨lw_p12, List.forall_mem_cons.mpr ⟨lw_p13, List.forall_mem_cons.mpr ⟨lw_p14, List.forall_mem_cons.mpr ⟨lw_p15, fun _ h => absurd h List.not_mem_nil⟩⟩⟩⟩⟩⟩⟩⟩⟩⟩⟩⟩⟩⟩⟩⟩
theorem lw_p16 : lw_okq (⟨"ShakenTree$Machine", "begin", "(LShakenTree$Member;II)V"⟩, 4) := ⟨⟨by decide +kernel, by decide +kernel⟩, List.mem_of_getElem? (i := 178) (by decide +kernel), List.mem_of_getElem? (i := 628) (by decide +kernel), List.mem_of_getElem? (i := 629) (by decide +kernel)⟩
theorem lw_p17 : lw_okq (⟨"ShakenTree$Machine", "step", "(LShakenTree$Program;LShakenTree$Frame;)V"⟩, 4) := ⟨⟨by decide +kernel, by decide +kernel⟩, List.mem_of_getElem? (i := 178) (by decide +kernel), List.mem_of_getElem? (i := 639) (by decide +kernel), List.mem_of_getElem? (i := 640) (by decide +kernel)⟩
theorem lw_p18 : lw_okq (⟨"ShakenTree$Machine", "useConstant", "(LShakenTree$Program;LShakenTree$Frame;II)V"⟩, 4) := ⟨⟨by decide +kernel, by decide +kernel⟩, List.mem_of_getElem? (i := 178) (by decide +kernel), List.mem_of_getElem? (i := 645) (by decide +kernel), List.mem_of_getElem? (i := 646) (by decide +kernel)⟩
theorem lw_p19 : lw_okq (⟨"ShakenTree$Machine", "call", "(LShakenTree$Frame;LShakenTree$Member;)V"⟩, 4) := ⟨⟨by decide +kernel, by decide +kernel⟩, List.mem_of_getElem? (i := 178) (by decide +kernel), List.mem_of_getElem? (i := 662) (by decide +kernel), List.mem_of_getElem? (i := 663) (by decide +kernel)⟩
theorem lw_p20 : lw_okq (⟨"ShakenTree$Machine", "steer", "(LShakenTree$Frame;II)V"⟩, 4) := ⟨⟨by decide +kernel, by decide +kernel⟩, List.mem_of_getElem? (i := 178) (by decide +kernel), List.mem_of_getElem? (i := 685) (by decide +kernel), List.mem_of_getElem? (i := 686) (by decide +kernel)⟩
theorem lw_p21 : lw_okq (⟨"ShakenTree$Machine", "end", "(I)V"⟩, 4) := ⟨⟨by decide +kernel, by decide +kernel⟩, List.mem_of_getElem? (i := 178) (by decide +kernel), List.mem_of_getElem? (i := 689) (by decide +kernel), List.mem_of_getElem? (i := 690) (by decide +kernel)⟩
theorem lw_p22 : lw_okq (⟨"ShakenTreeModel", "noClass", "(II)Z"⟩, 30) := ⟨⟨by decide +kernel, by decide +kernel⟩, List.mem_of_getElem? (i := 710) (by decide +kernel), List.mem_of_getElem? (i := 820) (by decide +kernel), List.mem_of_getElem? (i := 821) (by decide +kernel)⟩
theorem lw_p23 : lw_okq (⟨"ShakenTreeModel", "has", "(IIII)Z"⟩, 30) := ⟨⟨by decide +kernel, by decide +kernel⟩, List.mem_of_getElem? (i := 710) (by decide +kernel), List.mem_of_getElem? (i := 824) (by decide +kernel), List.mem_of_getElem? (i := 825) (by decide +kernel)⟩
theorem lw_p24 : lw_okq (⟨"ShakenTreeModel", "find", "(IIZI)I"⟩, 30) := ⟨⟨by decide +kernel, by decide +kernel⟩, List.mem_of_getElem? (i := 710) (by decide +kernel), List.mem_of_getElem? (i := 835) (by decide +kernel), List.mem_of_getElem? (i := 836) (by decide +kernel)⟩
theorem lw_p25 : lw_okq (⟨"ShakenTreeModel", "nameOf", "(II)I"⟩, 30) := ⟨⟨by decide +kernel, by decide +kernel⟩, List.mem_of_getElem? (i := 710) (by decide +kernel), List.mem_of_getElem? (i := 839) (by decide +kernel), List.mem_of_getElem? (i := 840) (by decide +kernel)⟩
theorem lw_p26 : lw_okq (⟨"ShakenTreeModel", "noMethod", "(II)Z"⟩, 30) := ⟨⟨by decide +kernel, by decide +kernel⟩, List.mem_of_getElem? (i := 710) (by decide +kernel), List.mem_of_getElem? (i := 847) (by decide +kernel), List.mem_of_getElem? (i := 848) (by decide +kernel)⟩
theorem lw_p27 : lw_okq (⟨"ShakenTreeModel", "noMember", "(II)Z"⟩, 30) := ⟨⟨by decide +kernel, by decide +kernel⟩, List.mem_of_getElem? (i := 710) (by decide +kernel), List.mem_of_getElem? (i := 851) (by decide +kernel), List.mem_of_getElem? (i := 852) (by decide +kernel)⟩
theorem lw_p28 : lw_okq (⟨"ShakenTreeModel", "firstFault", "()I"⟩, 30) := ⟨⟨by decide +kernel, by decide +kernel⟩, List.mem_of_getElem? (i := 710) (by decide +kernel), List.mem_of_getElem? (i := 867) (by decide +kernel), List.mem_of_getElem? (i := 868) (by decide +kernel)⟩
theorem lw_p29 : lw_okq (⟨"ShakenTreeModel", "isClosed", "(III)Z"⟩, 30) := ⟨⟨by decide +kernel, by decide +kernel⟩, List.mem_of_getElem? (i := 710) (by decide +kernel), List.mem_of_getElem? (i := 871) (by decide +kernel), List.mem_of_getElem? (i := 872) (by decide +kernel)⟩
theorem lw_p30 : lw_okq (⟨"ShakenTreeModel", "meant", "(IIII)I"⟩, 30) := ⟨⟨by decide +kernel, by decide +kernel⟩, List.mem_of_getElem? (i := 710) (by decide +kernel), List.mem_of_getElem? (i := 875) (by decide +kernel), List.mem_of_getElem? (i := 876) (by decide +kernel)⟩
theorem lw_p31 : lw_okq (⟨"ShakenTreeModel", "countEntries", "(I)I"⟩, 30) := ⟨⟨by decide +kernel, by decide +kernel⟩, List.mem_of_getElem? (i := 710) (by decide +kernel), List.mem_of_getElem? (i := 883) (by decide +kernel), List.mem_of_getElem? (i := 884) (by decide +kernel)⟩
def lw_privs_2 : List (MethodName × Nat) := [(⟨"ShakenTree$Machine", "begin", "(LShakenTree$Member;II)V"⟩, 4), (⟨"ShakenTree$Machine", "step", "(LShakenTree$Program;LShakenTree$Frame;)V"⟩, 4), (⟨"ShakenTree$Machine", "useConstant", "(LShakenTree$Program;LShakenTree$Frame;II)V"⟩, 4), (⟨"ShakenTree$Machine", "call", "(LShakenTree$Frame;LShakenTree$Member;)V"⟩, 4), (⟨"ShakenTree$Machine", "steer", "(LShakenTree$Frame;II)V"⟩, 4), (⟨"ShakenTree$Machine", "end", "(I)V"⟩, 4), (⟨"ShakenTreeModel", "noClass", "(II)Z"⟩, 30), (⟨"ShakenTreeModel", "has", "(IIII)Z"⟩, 30), (⟨"ShakenTreeModel", "find", "(IIZI)I"⟩, 30), (⟨"ShakenTreeModel", "nameOf", "(II)I"⟩, 30), (⟨"ShakenTreeModel", "noMethod", "(II)Z"⟩, 30), (⟨"ShakenTreeModel", "noMember", "(II)Z"⟩, 30), (⟨"ShakenTreeModel", "firstFault", "()I"⟩, 30), (⟨"ShakenTreeModel", "isClosed", "(III)Z"⟩, 30), (⟨"ShakenTreeModel", "meant", "(IIII)I"⟩, 30), (⟨"ShakenTreeModel", "countEntries", "(I)I"⟩, 30)]
theorem lw_r2 : ∀ q ∈ lw_privs_2, lw_okq q := List.forall_mem_cons.mpr ⟨lw_p16, List.forall_mem_cons.mpr ⟨lw_p17, List.forall_mem_cons.mpr ⟨lw_p18, List.forall_mem_cons.mpr ⟨lw_p19, List.forall_mem_cons.mpr ⟨lw_p20, List.forall_mem_cons.mpr ⟨lw_p21, List.forall_mem_cons.mpr ⟨lw_p22, List.forall_mem_cons.mpr ⟨lw_p23, List.forall_mem_cons.mpr ⟨lw_p24, List.forall_mem_cons.mpr ⟨lw_p25, List.forall_mem_cons.mpr ⟨lw_p26, List.forall_mem_cons.mpr ⟨lw_p27, List.forall_mem_cons.mpr ⟨lw_p28, List.forall_mem_cons.mpr ⟨lw_p29, List.forall_mem_cons.mpr ⟨lw_p30, List.forall_mem_cons.mpr ⟨lw_p31, fun _ h => absurd h List.not_mem_nil⟩⟩⟩⟩⟩⟩⟩⟩⟩⟩⟩⟩⟩⟩⟩⟩
theorem lw_p32 : lw_okq (⟨"ShakenTreeModel", "reach", "()V"⟩, 30) := ⟨⟨by decide +kernel, by decide +kernel⟩, List.mem_of_getElem? (i := 710) (by decide +kernel), List.mem_of_getElem? (i := 887) (by decide +kernel), List.mem_of_getElem? (i := 888) (by decide +kernel)⟩
theorem lw_p33 : lw_okq (⟨"ShakenTreeModel", "markConstants", "()V"⟩, 30) := ⟨⟨by decide +kernel, by decide +kernel⟩, List.mem_of_getElem? (i := 710) (by decide +kernel), List.mem_of_getElem? (i := 891) (by decide +kernel), List.mem_of_getElem? (i := 892) (by decide +kernel)⟩
theorem lw_p34 : lw_okq (⟨"ShakenTreeModel", "numberAll", "()V"⟩, 30) := ⟨⟨by decide +kernel, by decide +kernel⟩, List.mem_of_getElem? (i := 710) (by decide +kernel), List.mem_of_getElem? (i := 898) (by decide +kernel), List.mem_of_getElem? (i := 899) (by decide +kernel)⟩
theorem lw_p35 : lw_okq (⟨"ShakenTreeModel", "giveNames", "()V"⟩, 30) := ⟨⟨by decide +kernel, by decide +kernel⟩, List.mem_of_getElem? (i := 710) (by decide +kernel), List.mem_of_getElem? (i := 902) (by decide +kernel), List.mem_of_getElem? (i := 903) (by decide +kernel)⟩
theorem lw_p36 : lw_okq (⟨"ShakenTreeModel", "copyKept", "()V"⟩, 30) := ⟨⟨by decide +kernel, by decide +kernel⟩, List.mem_of_getElem? (i := 710) (by decide +kernel), List.mem_of_getElem? (i := 906) (by decide +kernel), List.mem_of_getElem? (i := 907) (by decide +kernel)⟩
theorem lw_p37 : lw_okq (⟨"ShakenTreeModel", "copyPool", "(I)V"⟩, 30) := ⟨⟨by decide +kernel, by decide +kernel⟩, List.mem_of_getElem? (i := 710) (by decide +kernel), List.mem_of_getElem? (i := 910) (by decide +kernel), List.mem_of_getElem? (i := 911) (by decide +kernel)⟩
theorem lw_p38 : lw_okq (⟨"ShakenTreeModel", "copyMember", "(I)V"⟩, 30) := ⟨⟨by decide +kernel, by decide +kernel⟩, List.mem_of_getElem? (i := 710) (by decide +kernel), List.mem_of_getElem? (i := 914) (by decide +kernel), List.mem_of_getElem? (i := 915) (by decide +kernel)⟩
theorem lw_p39 : lw_okq (⟨"ShakenTreeModel", "begin", "(III)V"⟩, 30) := ⟨⟨by decide +kernel, by decide +kernel⟩, List.mem_of_getElem? (i := 710) (by decide +kernel), List.mem_of_getElem? (i := 946) (by decide +kernel), List.mem_of_getElem? (i := 947) (by decide +kernel)⟩
theorem lw_p40 : lw_okq (⟨"ShakenTreeModel", "step", "(I)V"⟩, 30) := ⟨⟨by decide +kernel, by decide +kernel⟩, List.mem_of_getElem? (i := 710) (by decide +kernel), List.mem_of_getElem? (i := 950) (by decide +kernel), List.mem_of_getElem? (i := 951) (by decide +kernel)⟩
theorem lw_p41 : lw_okq (⟨"ShakenTreeModel", "push", "(I)V"⟩, 30) := ⟨⟨by decide +kernel, by decide +kernel⟩, List.mem_of_getElem? (i := 710) (by decide +kernel), List.mem_of_getElem? (i := 954) (by decide +kernel), List.mem_of_getElem? (i := 955) (by decide +kernel)⟩
theorem lw_p42 : lw_okq (⟨"ShakenTreeModel", "pop", "()I"⟩, 30) := ⟨⟨by decide +kernel, by decide +kernel⟩, List.mem_of_getElem? (i := 710) (by decide +kernel), List.mem_of_getElem? (i := 958) (by decide +kernel), List.mem_of_getElem? (i := 959) (by decide +kernel)⟩
theorem lw_p43 : lw_okq (⟨"ShakenTreeModel", "call", "(II)V"⟩, 30) := ⟨⟨by decide +kernel, by decide +kernel⟩, List.mem_of_getElem? (i := 710) (by decide +kernel), List.mem_of_getElem? (i := 962) (by decide +kernel), List.mem_of_getElem? (i := 963) (by decide +kernel)⟩
theorem lw_p44 : lw_okq (⟨"ShakenTreeModel", "arithmetic", "(I)V"⟩, 30) := ⟨⟨by decide +kernel, by decide +kernel⟩, List.mem_of_getElem? (i := 710) (by decide +kernel), List.mem_of_getElem? (i := 966) (by decide +kernel), List.mem_of_getElem? (i := 967) (by decide +kernel)⟩
def lw_privs_3 : List (MethodName × Nat) := [(⟨"ShakenTreeModel", "reach", "()V"⟩, 30), (⟨"ShakenTreeModel", "markConstants", "()V"⟩, 30), (⟨"ShakenTreeModel", "numberAll", "()V"⟩, 30), (⟨"ShakenTreeModel", "giveNames", "()V"⟩, 30), (⟨"ShakenTreeModel", "copyKept", "()V"⟩, 30), (⟨"ShakenTreeModel", "copyPool", "(I)V"⟩, 30), (⟨"ShakenTreeModel", "copyMember", "(I)V"⟩, 30), (⟨"ShakenTreeModel", "begin", "(III)V"⟩, 30), (⟨"ShakenTreeModel", "step", "(I)V"⟩, 30), (⟨"ShakenTreeModel", "push", "(I)V"⟩, 30), (⟨"ShakenTreeModel", "pop", "()I"⟩, 30), (⟨"ShakenTreeModel", "call", "(II)V"⟩, 30), (⟨"ShakenTreeModel", "arithmetic", "(I)V"⟩, 30)]
theorem lw_r3 : ∀ q ∈ lw_privs_3, lw_okq q := List.forall_mem_cons.mpr ⟨lw_p32, List.forall_mem_cons.mpr ⟨lw_p33, List.forall_mem_cons.mpr ⟨lw_p34, List.forall_mem_cons.mpr ⟨lw_p35, List.forall_mem_cons.mpr ⟨lw_p36, List.forall_mem_cons.mpr ⟨lw_p37, List.forall_mem_cons.mpr ⟨lw_p38, List.forall_mem_cons.mpr ⟨lw_p39, List.forall_mem_cons.mpr ⟨lw_p40, List.forall_mem_cons.mpr ⟨lw_p41, List.forall_mem_cons.mpr ⟨lw_p42, List.forall_mem_cons.mpr ⟨lw_p43, List.forall_mem_cons.mpr ⟨lw_p44, fun _ h => absurd h List.not_mem_nil⟩⟩⟩⟩⟩⟩⟩⟩⟩⟩⟩⟩⟩
def lw_privs : List (MethodName × Nat) := lw_privs_1 ++ (lw_privs_2 ++ (lw_privs_3))
def lw_tbl : List Cond := k2_sels lw_privs ++ tables_1
theorem lw_privs_ok : ∀ q ∈ lw_privs, lw_okq q := by
  show ∀ q ∈ lw_privs_1 ++ (lw_privs_2 ++ (lw_privs_3)), lw_okq q
  exact List.forall_mem_append.mpr ⟨lw_r1, List.forall_mem_append.mpr ⟨lw_r2, lw_r3⟩⟩
-- ===== end of PART A; then your names; then what follows =====
end
section
/-! an abstract memory: cells 0 (the script), 1, 2 ..: how many; how many slots; what each is; its ints; its references; its longs -/
abbrev XM : Type := Nat × Nat × (Nat → Nat × Nat) × (Nat → Nat → Int32) × (Nat → Nat → Option Nat) × (Nat → Nat → Int64)
def xz (M : XM) : Nat := M.1
def xu (M : XM) : Nat := M.2.1
def xt (M : XM) : Nat → Nat × Nat := M.2.2.1
def xi (M : XM) : Nat → Nat → Int32 := M.2.2.2.1
def xr (M : XM) : Nat → Nat → Option Nat := M.2.2.2.2.1
def xj (M : XM) : Nat → Nat → Int64 := M.2.2.2.2.2
def xpi (M : XM) (a i : Nat) (v : Int32) : XM := (xz M, xu M, xt M, (fun b j => if b = a ∧ j = i then v else xi M b j), xr M, xj M)
def xpr (M : XM) (a i : Nat) (r : Nat) : XM := (xz M, xu M, xt M, xi M, (fun b j => if b = a ∧ j = i then some r else xr M b j), xj M)
def xpj (M : XM) (a i : Nat) (v : Int64) : XM := (xz M, xu M, xt M, xi M, xr M, (fun b j => if b = a ∧ j = i then v else xj M b j))
def xnw (M : XM) (k n u : Nat) : XM := (xz M + 1, xu M + u, (fun b => if b = xz M then (k, n) else xt M b), (fun b j => if b = xz M then 0 else xi M b j), (fun b j => if b = xz M then none else xr M b j), (fun b j => if b = xz M then 0 else xj M b j))
/-- the launch, the law's start, its last cell, the script's cell -/
abbrev XK : Type := Launch × State × Nat × Nat
abbrev xl (K : XK) : Launch := K.1
abbrev xs (K : XK) : State := K.2.1
abbrev xB (K : XK) : Nat := K.2.2.1
abbrev xS (K : XK) : Nat := K.2.2.2
def xa (K : XK) (a : Nat) : Nat := if a = 0 then xS K else xB K + a
def xv (K : XK) (v : Value) : Value := match v with
  | .ref a => .ref (xa K a)
  | .int x => .int x
  | .long x => .long x
  | .float x => .float x
  | .double x => .double x
  | .null => .null
  | .retAddr x => .retAddr x
theorem xv_cat (K : XK) (v : Value) : (xv K v).category = v.category := by cases v <;> rfl
/-- a method: name, bytes, locals, answer, handlers, frames and words that it wants -/
abbrev YT : Type := MethodName × ByteArray × Nat × Option FieldType × List (Nat × Nat × Nat × Nat) × Nat × Nat
abbrev ym (y : YT) : MethodName := y.1
abbrev yb (y : YT) : ByteArray := y.2.1
abbrev yn (y : YT) : Nat := y.2.2.1
abbrev yr (y : YT) : Option FieldType := y.2.2.2.1
abbrev yh (y : YT) : List (Nat × Nat × Nat × Nat) := y.2.2.2.2.1
abbrev yf (y : YT) : Nat := y.2.2.2.2.2.1
abbrev yl (y : YT) : Nat := y.2.2.2.2.2.2
def yw (y : YT) : Cond := match yh y with
  | [] => .code (ym y) (yb y) (yn y) (yr y)
  | h => .codeWith (ym y) (yb y) (yn y) (yr y) h
theorem yw_spec {y : YT} {args : Array Value} {s : State} {m : MethodId} (hn : s.methodNamed? (ym y) = some m) (h : (yw y).before args s = true) :
    ∃ meth c, s.vm.method? m = some meth ∧ meth.code = some c ∧ c.code = yb y ∧ c.maxLocals = yn y ∧ meth.sig.returnType = yr y ∧ meth.locks = false ∧ c.exceptionTable.toList = tableOf (yh y) ∧ parseMethodDescriptor (ym y).desc = some meth.sig := by
  unfold yw at h
  split at h
  next e =>
    obtain ⟨meth, c, h1, h2, h3, h4, h5, h6, h7, h8⟩ := Cond.code_spec hn h
    have h0 : c.exceptionTable.size = 0 := by simpa [Array.isEmpty] using h7
    have h9 : c.exceptionTable.toList = [] := List.eq_nil_of_length_eq_zero (by simpa using h0)
    exact ⟨meth, c, h1, h2, h3, h4, h5, h6, by rw [h9, e]; rfl, h8⟩
  next h0 e =>
    obtain ⟨m', meth, c, g0, h1, h2, h3, h4, h5, h6, h7, h8⟩ := Cond.codeWith_spec h
    cases hn.symm.trans g0
    exact ⟨meth, c, h1, h2, h3, h4, h6, h7, by rw [← h5, table_eq], h8⟩
theorem yw_named {y : YT} {args : Array Value} {s : State} (h : (yw y).before args s = true) : ∃ m, s.methodNamed? (ym y) = some m := by
  unfold yw at h
  split at h
  next e => exact Cond.code_named h
  next h0 e =>
    obtain ⟨m', meth, c, g0, -⟩ := Cond.codeWith_spec h
    exact ⟨m', g0⟩
theorem yw_word (y : YT) : ((yw y).onTables && (yw y).keeps) = true := by
  unfold yw
  split <;> first | rfl | simp [Cond.onTables, Cond.keeps, Cond.steady]
/-! ### a call by contract, whichever way it ends -/
theorem xm_call {l : Launch} {R : Room} {p : Program} {e : Env} {below : List Frame} {s : State} {sargs : Array Value} {m : MethodId} {meth : Method} {c : Code} {U : State} {locs : List Loc} {cells slots : Nat}
    {y : MethodName} {S : Spec} {P : Array Value → State → Prop} {Q : Array Value → State → Outcome → State → Prop} {a : Array Value} {g : JFrame} {mk : MethodId} {methY : Method} {cY : Code} {kY : Class} {ig : Instr} {len : Nat}
    (X : Stand p l e R s m sargs below meth c U locs cells slots) (hM : MetFree l y S P (fun _ _ _ _ _ => True) Q)
    (hg : g.method = m) (hsize : g.locals.size = c.maxLocals) (hdg : decode c.code g.pc = .ok (ig, len))
    (hn : U.methodNamed? y = some mk) (hmY : U.vm.method? mk = some methY) (hcY : methY.code = some cY) (hkY : U.vm.classes[mk.cls]? = some kY) (hinit : kY.init = .initialized)
    (hframes : S.room.frames + 1 ≤ R.frames) (hlocals : 2 * g.monitorRoom + (g.stack.map fun v => v.category).sum + (cY.maxLocals + 11) + S.room.locals ≤ R.locals)
    (hcells : cells + S.room.cells ≤ R.cells) (hslots : slots + S.room.slots ≤ R.slots)
    (hpre : S.pre.before a U = true) (hP : P a (U.calling g mk a)) {L0 : Outcome → State → List Loc → Nat → Nat → Prop}
    (hQ : ∀ o t, Q a (U.calling g mk a) o t → ∃ L k n, (U.calling g mk a).WarmedH t.vm ∧ (U.calling g mk a).sameButNew ({ t with vm := (U.calling g mk a).vm } : State) L k n ∧ L0 o t L k n) :
    ∃ (o : Outcome) (t : State) (L : List Loc) (k n : Nat) (V : State), Q a (U.calling g mk a) o t ∧ L0 o t L k n ∧ V.heap = t.heap ∧ V.vm = t.vm ∧ Stand p l e R s m sargs below meth c V (locs ++ L) (cells + k) (slots + n) ∧
      (∀ v, o = .returned v → Steps p.tables e below (doInvoke e (U.setTop g) [] mk a).1 (V.setTop { g with pc := g.pc + len, stack := v.toList ++ g.stack })) ∧
      (∀ x, o = .threw x → Steps p.tables e below (doInvoke e (U.setTop g) [] mk a).1 ((V.setTop g).pushFrame (.throwing x))) := by
  have h : At U g.method c below := by rw [hg]; exact X.here
  have happ : S.appliesLoose y e.platform (U.calling g mk a) = true :=
    Spec.appliesLoose_calling (g := g) h hdg hn hkY hinit (X.room_calling (g := g) (R' := S.room) hsize hmY hcY hframes hlocals hcells hslots) hpre
  obtain ⟨mid, hmid⟩ := h.above
  have hfr : (U.setTop g).frames = (.java g :: mid) ++ below := by rw [State.frames_setTop' g h.top, hmid]; rfl
  obtain ⟨o, s₂, hsteps, -, hend, hq⟩ := Steps.callFree hM p X.admits X.cas X.clock (acts := []) hfr happ hP trivial
  have hq' : Q a (U.calling g mk a) o s₂ := hq
  obtain ⟨L, k, n, hW₂, ⟨e2, q2, q3, q4, q5, q6⟩, hE⟩ := hQ _ _ hq'
  rw [State.frames_setTop' g h.top] at hend
  have e3 : s₂ = ({ (U.calling g mk a).setFrames s₂.frames with heap := s₂.heap, slotsUsed := s₂.slotsUsed } : State).setVm s₂.vm := by
    have : s₂ = ({ s₂ with vm := (U.calling g mk a).vm } : State).setVm s₂.vm := rfl
    rw [e2] at this
    exact this
  have hW' : U.WarmedH s₂.vm := hW₂
  obtain ⟨g₀, hg0⟩ := Option.isSome_iff_exists.mp h.top
  obtain ⟨r, hr⟩ := State.topJava?_eq_some.mp hg0
  have hr' : (({ U with heap := s₂.heap, slotsUsed := s₂.slotsUsed } : State).setVm s₂.vm).frames = .java g₀ :: r := hr
  have hsame : U.sameButNew ({ U with heap := s₂.heap, slotsUsed := s₂.slotsUsed } : State) L k n := by
    refine ⟨?_, q2, q3, q4, q5, q6⟩
    obtain ⟨t, ht, -⟩ := State.frames_cons hr
    show ({ U with heap := s₂.heap, slotsUsed := s₂.slotsUsed } : State) = { U.setFrames U.frames with heap := s₂.heap, slotsUsed := s₂.slotsUsed }
    rw [State.setFrames_self ht]
  subst hg
  refine ⟨o, s₂, L, k, n, ({ U with heap := s₂.heap, slotsUsed := s₂.slotsUsed } : State).setVm s₂.vm, hq', hE, rfl, rfl,
    ⟨X.admits, X.cas, X.clock, X.frames, X.room, X.hears, X.method, X.code, (X.here.setHeapUsed s₂.heap s₂.slotsUsed).setVm hW'.alike, X.tail, State.WarmedH.trans X.warmed hW', X.limits, X.bytes, X.same.trans (hsame.setVm s.vm)⟩, ?_, ?_⟩
  · rintro v rfl
    obtain ⟨c₂, i₂, len₂, hc₂, hd₂, hf₂⟩ := hend
    have hcc : c₂ = c := by
      have h1 : s₂.code? g.method = U.code? g.method := by
        rw [State.code?_eq, State.code?_eq, hW'.alike.method?]
      exact Option.some.inj (hc₂.symm.trans (h1.trans h.code))
    subst hcc
    have hlen : len₂ = len := by rw [hdg] at hd₂; cases hd₂; rfl
    subst hlen
    have hs₂ : s₂ = (({ U with heap := s₂.heap, slotsUsed := s₂.slotsUsed } : State).setVm s₂.vm).setTop { g with pc := g.pc + len₂, stack := v.toList ++ g.stack } := by
      refine e3.trans ?_
      rw [hf₂, State.calling_eq h.top, State.setFrames_setFrames, State.setTop_of_frames _ hr', hr]
      rfl
    rw [← hs₂]
    exact hsteps
  · rintro x rfl
    have hf₂ : s₂.frames = .throwing x :: (.java g :: U.frames.tail) := hend
    have hs₂ : s₂ = ((({ U with heap := s₂.heap, slotsUsed := s₂.slotsUsed } : State).setVm s₂.vm).setTop g).pushFrame (.throwing x) := by
      refine e3.trans ?_
      rw [hf₂, State.calling_eq h.top, State.setFrames_setFrames, State.pushFrame, State.frames_setTop _ hr', State.setTop_of_frames _ hr', State.setFrames_setFrames, hr]
      rfl
    rw [← hs₂]
    exact hsteps
end
section
/-! the classes: name; fields: name, descriptor, final, reference -/
abbrev XF : Type := String × String × Bool × Bool
def xcl : List (String × List XF) :=
  [("ShakenTree", [("wholeProgram", "LShakenTree$Program;", true, true), ("shakenProgram", "LShakenTree$Program;", true, true), ("shaker", "LShakenTree$Shaker;", true, true), ("machine", "LShakenTree$Machine;", true, true)]),
   ("ShakenTree$Program", [("pools", "[LShakenTree$Pool;", true, true), ("members", "[LShakenTree$Member;", true, true), ("classes", "I", false, false), ("size", "I", false, false)]),
   ("ShakenTree$Pool", [("kinds", "[I", true, true), ("firsts", "[I", true, true), ("seconds", "[I", true, true), ("size", "I", false, false)]),
   ("ShakenTree$Member", [("owner", "I", false, false), ("namePlace", "I", false, false), ("arguments", "I", false, false), ("isEntry", "Z", false, false), ("length", "I", false, false), ("whats", "[I", true, true), ("numbers", "[I", true, true)]),
   ("ShakenTree$Shaker", [("memberTo", "[I", true, true), ("classTo", "[I", true, true), ("constantTo", "[[I", true, true), ("nameTo", "[I", true, true), ("nameUse", "[I", true, true), ("found", "[I", true, true), ("foundSize", "I", false, false)]),
   ("ShakenTree$Frame", [("stack", "[I", true, true), ("height", "I", false, false), ("method", "LShakenTree$Member;", false, true), ("next", "I", false, false), ("x", "I", false, false), ("y", "I", false, false)]),
   ("ShakenTree$Machine", [("fields", "[I", true, true), ("frames", "[LShakenTree$Frame;", true, true), ("open", "I", false, false), ("result", "I", false, false)]),
   ("ShakenTreeModel", [("code", "I", false, false), ("classes", "[I", true, true), ("members", "[I", true, true), ("pools", "[I", true, true), ("kinds", "[I", true, true), ("firsts", "[I", true, true), ("seconds", "[I", true, true), ("owners", "[I", true, true), ("names", "[I", true, true), ("arguments", "[I", true, true), ("sizes", "[I", true, true), ("entries", "[Z", true, true), ("whats", "[I", true, true), ("numbers", "[I", true, true), ("movedTo", "[I", true, true), ("keep", "[Z", true, true), ("classTo", "[I", true, true), ("keepConstant", "[Z", true, true), ("constantTo", "[I", true, true), ("nameTo", "[I", true, true), ("given", "[Z", true, true), ("values", "[I", true, true), ("depth", "I", false, false), ("method", "[I", true, true), ("at", "[I", true, true), ("given0", "[I", true, true), ("given1", "[I", true, true), ("high", "[I", true, true), ("stack", "[I", true, true), ("popped", "I", false, false)])]
def xex : List String := ["java/lang/IllegalStateException", "java/lang/IndexOutOfBoundsException", "java/lang/IllegalArgumentException", "java/lang/ArithmeticException", "java/lang/UnsupportedOperationException"]
/-- what the kinds of arrays hold; 5: the script, which is only read -/
def xar (k : Nat) : Option FieldType := match k with
  | 0 => some .int
  | 1 => some .boolean
  | 2 => some .long
  | 5 => some .int
  | 10 => some (.object "ShakenTree$Pool")
  | 11 => some (.object "ShakenTree$Member")
  | 12 => some (.object "ShakenTree$Frame")
  | 13 => some (.array .int)
  | _ => none
def xrf (K : XK) (r : Option Nat) : Value := match r with
  | none => .null
  | some a => .ref (xa K a)
def xval (K : XK) (M : XM) (a i : Nat) : Value := if (xt M a).1 < 10 then (if (xt M a).1 = 2 then .long (xj M a i) else .int (xi M a i)) else xrf K (xr M a i)
def xfv (K : XK) (M : XM) (f : XF) (a j : Nat) : Value := if f.2.2.2 = true then xrf K (xr M a j) else .int (xi M a j)
def xisA (s : State) (cell : Cell) (ty : FieldType) : Prop := s.isArrayOf cell ty ∧ ∀ n : String, ty = .object n → ∃ (k : Class) (comp : ClassId), s.vm.classes[cell.cls]? = some k ∧ k.kind = .array comp ty ∧ s.vm.findClass n = some comp
def xcA (K : XK) (M : XM) (H : Heap) (a : Nat) (ty : FieldType) : Prop := ∃ cell, H[xa K a]? = some cell ∧ xisA (xs K) cell ty ∧ cell.vm ≠ .unknown ∧ cell.slots.size = (xt M a).2 ∧ ∀ i, i < (xt M a).2 → cell.slots[i]? = some (xval K M a i)
def xcO (K : XK) (M : XM) (H : Heap) (a : Nat) (q : String × List XF) : Prop := ∃ cell, H[xa K a]? = some cell ∧ (xs K).vm.findClass q.1 = some cell.cls ∧ cell.vm = .none ∧ ∀ (j : Nat) (f : XF), q.2[j]? = some f → ∃ i, SlotIs (xs K) q.1 f.1 f.2.1 i ∧ cell.slots[i]? = some (xfv K M f a j)
def xcE (K : XK) (H : Heap) (a : Nat) (nm : String) : Prop := ∃ cell, H[xa K a]? = some cell ∧ (xs K).vm.findClass nm = some cell.cls ∧ cell.vm.isStatics = false
def xcell (K : XK) (M : XM) (H : Heap) (a : Nat) : Prop :=
  (∀ ty, xar (xt M a).1 = some ty → xcA K M H a ty) ∧ (∀ (c : Nat) (q : String × List XF), (xt M a).1 = 20 + c → xcl[c]? = some q → xcO K M H a q) ∧ (∀ (c : Nat) (nm : String), (xt M a).1 = 40 + c → xex[c]? = some nm → xcE K H a nm)
def xH (K : XK) (M : XM) (H : Heap) : Prop := H.size = xB K + xz M ∧ (∀ q : Nat, q ≤ xB K → H[q]? = (xs K).heap[q]?) ∧ (∀ a, a < xz M → xcell K M H a) ∧ (xt M 0).1 = 5
/-- the room for all that is ever made -/
def ZM : Nat := 601025
def UM : Nat := 7293034
/-- what holds at the law's start -/
def xG (K : XK) : Prop := (xs K).heap.size = xB K + 1 ∧ xS K ≤ xB K ∧ (∀ w ∈ lw_tbl, w.before #[.ref (xS K)] (xs K) = true) ∧ (∀ w ∈ ([.isRef (.static Bundle.tN "UNASSIGNED_STACK" Bundle.steD), .isRef (.static Bundle.tN "SUPPRESSED_SENTINEL" Bundle.listD)] : List Cond), w.before #[.ref (xS K)] (xs K) = true) ∧ (xl K).flags = pinnedFlags ++ [noTraceFlag] ∧ (∀ X ∈ xex, ∀ Y ∈ xex, X ≠ Y → va_Nc X Y (xs K))
theorem xa_pos {K : XK} {a : Nat} (h : a ≠ 0) : xa K a = xB K + a := by unfold xa; rw [if_neg h]
theorem xa_inj {K : XK} (G : xG K) {a b : Nat} (h : xa K a = xa K b) : a = b := by
  have g := G.2.1
  unfold xa at h
  split at h <;> split at h <;> omega
theorem xcell_congr {K : XK} {M N : XM} {H J : Heap} {a : Nat} (ht : xt N a = xt M a) (h1 : ∀ i, xi N a i = xi M a i) (h2 : ∀ i, xr N a i = xr M a i) (h3 : ∀ i, xj N a i = xj M a i) (hq : J[xa K a]? = H[xa K a]?) (h : xcell K M H a) : xcell K N J a := by
  obtain ⟨c1, c2, c3⟩ := h
  have e1 : ∀ i, xval K N a i = xval K M a i := fun i => by unfold xval; rw [ht, h1, h2, h3]
  have e2 : ∀ (f : XF) (j : Nat), xfv K N f a j = xfv K M f a j := fun f j => by unfold xfv; rw [h1, h2]
  refine ⟨fun ty k => ?_, fun c q k kq => ?_, fun c nm k kq => ?_⟩
  · obtain ⟨cell, a1, a2, a3, a4, a5⟩ := c1 ty (by rw [← ht]; exact k)
    exact ⟨cell, hq.trans a1, a2, a3, by rw [ht]; exact a4, fun i hi => by rw [e1]; exact a5 i (by rw [← ht]; exact hi)⟩
  · obtain ⟨cell, a1, a2, a3, a4⟩ := c2 c q (by rw [← ht]; exact k) kq
    refine ⟨cell, hq.trans a1, a2, a3, fun j f hf => ?_⟩
    obtain ⟨i, g1, g2⟩ := a4 j f hf
    exact ⟨i, g1, by rw [e2]; exact g2⟩
  · obtain ⟨cell, a1, a2, a3⟩ := c3 c nm (by rw [← ht]; exact k) kq
    exact ⟨cell, hq.trans a1, a2, a3⟩
theorem xval_congr {K : XK} {M N : XM} {a i : Nat} (ht : xt N a = xt M a) (h1 : xi N a i = xi M a i) (h2 : xr N a i = xr M a i) (h3 : xj N a i = xj M a i) : xval K N a i = xval K M a i := by unfold xval; rw [ht, h1, h2, h3]
/-- one cell has changed -/
theorem xH_put {K : XK} (G : xG K) {M N : XM} {H J : Heap} {a : Nat} (hH : xH K M H) (ha : a ≠ 0) (hz : xz N = xz M) (ht : xt N = xt M) (ho : ∀ b, b ≠ a → (∀ i, xi N b i = xi M b i) ∧ (∀ i, xr N b i = xr M b i) ∧ ∀ i, xj N b i = xj M b i)
    (hs : J.size = H.size) (hq : ∀ q, q ≠ xa K a → J[q]? = H[q]?) (hc : xcell K N J a) : xH K N J := by
  obtain ⟨h1, h2, h3, h5⟩ := hH
  refine ⟨by rw [hs, hz]; exact h1, fun q hqB => ?_, fun b hb => ?_, by rw [ht]; exact h5⟩
  · rw [hq q (by rw [xa_pos ha]; omega)]
    exact h2 q hqB
  · by_cases e : b = a
    · rw [e]; exact hc
    · obtain ⟨o1, o2, o3⟩ := ho b e
      exact xcell_congr (by rw [ht]) o1 o2 o3 (hq _ (fun z => e (xa_inj G z))) (h3 b (by rw [← hz]; exact hb))
/-- one cell is new -/
theorem xH_new {K : XK} (G : xG K) {M : XM} {H J : Heap} {k n u : Nat} (hH : xH K M H) (h0 : xz M ≠ 0) (hs : J.size = H.size + 1) (hq : ∀ q, q < H.size → J[q]? = H[q]?) (hc : xcell K (xnw M k n u) J (xz M)) : xH K (xnw M k n u) J := by
  obtain ⟨h1, h2, h3, h5⟩ := hH
  refine ⟨by rw [hs, h1]; rfl, fun q hqB => ?_, fun b hb => ?_, by simp [xnw, xt, Ne.symm h0]; exact h5⟩
  · rw [hq q (by omega)]
    exact h2 q hqB
  · have hb' : b < xz M + 1 := hb
    by_cases e : b = xz M
    · rw [e]; exact hc
    · have hlt : xa K b < H.size := by
        have g := G.2.1
        unfold xa
        split <;> omega
      have en : (b = xz M) = False := eq_false e
      exact xcell_congr (by simp [xnw, xt, en]) (fun i => by simp [xnw, xi, en]) (fun i => by simp [xnw, xr, en]) (fun i => by simp [xnw, xj, en]) (hq _ hlt) (h3 b (by omega))
/-- the same memory, said otherwise outside of what is there -/
theorem xw {K : XK} (G : xG K) {c : Cond} (hc : (c.onTables && c.keeps) = true) (hm : c ∈ lw_tbl) {U : State} (hW : (xs K).WarmedH U.vm) (args : Array Value) : c.before args U = true := word_at hW (Or.inl hc) (G.2.2.1 c hm)
theorem xwA {K : XK} (G : xG K) {ty : FieldType} (hm : Cond.arrayClass ty ∈ lw_tbl) {U : State} (hW : (xs K).WarmedH U.vm) (args : Array Value) : (Cond.arrayClass ty).before args U = true := word_at hW (Or.inr ⟨ty, rfl⟩) (G.2.2.1 _ hm)
theorem xwF {K : XK} (G : xG K) {c : Cond} (hc : c.onTables = true) (hf : c.faceAtom = true) (hm : c ∈ lw_tbl) {U : State} (hW : (xs K).WarmedH U.vm) (args : Array Value) : c.before args U = true := va_tabs hc (rfl : ((xs K).setVm U.vm).vm = U.vm) (Cond.faceAtom_setVm hW.alike c hf (G.2.2.1 c hm))
theorem xwN {K : XK} (G : xG K) {a h : String} {i : Nat} {x : MethodName} (hm : Cond.methodLinkNest a i x h ∈ lw_tbl) {U : State} (hW : (xs K).WarmedH U.vm) (args : Array Value) : (Cond.methodLinkNest a i x h).before args U = true := va_Nw.use rfl (va_Nw.warmM hW (va_Nw.of rfl (G.2.2.1 _ hm)))
/-- the two statics of Throwable -/
theorem xstat {K : XK} (G : xG K) {C n d : String} (hl : Cond.laysStatic C n d ∈ lw_tbl) (hini : Cond.initialized C ∈ lw_tbl) (h : (Cond.isRef (.static C n d)).before #[.ref (xS K)] (xs K) = true) {U : State} (hW : (xs K).WarmedH U.vm) (hq : ∀ q : Nat, q ≤ xB K → U.heap[q]? = (xs K).heap[q]?) (args : Array Value) : (Cond.isRef (.static C n d)).before args U = true := by
  have h1 : va_Zq C n d (fun _ => False) (xs K) (xs K).heap := va_Zqof (G.2.2.1 _ hl) (G.2.2.1 _ hini) h (fun _ _ z => z)
  have h2 := (h1.moved hW.alike).kept (H1 := U.heap) (fun a ha _ => hq a (by have := G.1; omega))
  rcases h2 with ⟨cf, kf, fi, f, a, cell, g1, g2, g3, g4, g5, g6, g7, -⟩ | ⟨t, cf, kf, fi, f, a, cell, g1, g2, g3, g4, g5, g6, g7, -⟩
  · simp [Cond.before, Cond.holds, Cond.value, Term.static_eval (args := args) (first := U) (o := none) (idx := []) g1 g2 g4 g5 g6 g7]
  · simp [Cond.before, Cond.holds, Cond.value, Term.static_eval (args := args) (first := U) (o := none) (idx := []) g1 g2 g4 g5 g6 g7]
end
section
abbrev XO : Type := Option Value ⊕ Nat
def xo (K : XK) (o : XO) : Outcome := match o with
  | .inl v => .returned (v.map (xv K))
  | .inr a => .threw (xa K a)
abbrev XL : Type := List (Nat × Value)
def xLm (K : XK) (L : XL) : XL := L.map fun q => (q.1, xv K q.2)
def xL (K : XK) (y : YT) (ls : Array Slot) (L : XL) : Prop := lv_has ls (yn y) (xLm K L) ∧ ∀ q ∈ L, q.2.category = 1
/-- the invocation -/
def cC (K : XK) (y : YT) (p : Program) (e : Env) (R : Room) (s : State) (m : MethodId) (meth : Method) (c : Code) (locs : List Loc) (z0 u0 : Nat) : Prop :=
  p.tables.exec = Jvm.exec ∧ c.code = yb y ∧ c.maxLocals = yn y ∧ meth.sig.returnType = yr y ∧ meth.locks = false ∧ c.exceptionTable.toList = tableOf (yh y) ∧ meth.name = (ym y).name ∧ s.vm.findClass (ym y).cls = some m.cls ∧ (xs K).WarmedH s.vm ∧
    yf y ≤ R.frames ∧ yl y ≤ R.locals ∧ z0 + R.cells = ZM ∧ u0 + R.slots = UM ∧ s.heap.size = xB K + z0 ∧ z0 ≠ 0 ∧ ∀ q ∈ locs, xB K < q.base
/-- the invocation's end -/
def xQ (K : XK) (below : List Frame) (s : State) (z0 u0 : Nat) (o : XO) (N : XM) : State → Prop := fun t =>
  t.status = .running ∧ Ended t below (xo K o) ∧ xH K N t.heap ∧ s.WarmedH t.vm ∧ (z0 ≤ xz N ∧ u0 ≤ xu N ∧ xz N ≤ ZM ∧ xu N ≤ UM) ∧ ∃ L, s.sameButNew ({ t with vm := s.vm } : State) L (xz N - z0) (xu N - u0) ∧ ∀ q ∈ L, xB K < q.base
/-- from the frame at pc with these locals, operands and this memory the method ends so, with that memory -/
def cA (K : XK) (y : YT) (pc : Nat) (L : XL) (S : List Value) (M : XM) (o : XO) (N : XM) : Prop :=
  ∀ (p : Program) (e : Env) (R : Room) (s : State) (m : MethodId) (args : Array Value) (below : List Frame) (meth : Method) (c : Code) (H : Heap) (locs : List Loc) (cells slots : Nat) (ls : Array Slot) (z0 u0 : Nat),
    cC K y p e R s m meth c locs z0 u0 → xH K M H → (cells + z0 = xz M ∧ xz M ≤ ZM) → (slots + u0 = xu M ∧ xu M ≤ UM) → xL K y ls L →
    W p (xl K) e R s m args below meth c H locs cells slots (xQ K below s z0 u0 o N) (F0 m pc ls (S.map (xv K)))
def xPc (K : XK) (A : List Value) (M : XM) : Array Value → State → Prop := fun a s => a = (A.map (xv K)).toArray ∧ (xs K).WarmedH s.vm ∧ xH K M s.heap ∧ xz M ≤ ZM ∧ xu M ≤ UM ∧ xz M ≠ 0
def xQc (K : XK) (M : XM) (o : XO) (N : XM) : Array Value → State → Outcome → State → Prop := fun _ s oc t =>
  oc = xo K o ∧ xH K N t.heap ∧ s.WarmedH t.vm ∧ (xz M ≤ xz N ∧ xu M ≤ xu N ∧ xz N ≤ ZM ∧ xu N ≤ UM) ∧ ∃ L, s.sameButNew ({ t with vm := s.vm } : State) L (xz N - xz M) (xu N - xu M) ∧ ∀ q ∈ L, xB K < q.base
def xRoom (y : YT) (M : XM) : Room := { frames := yf y, cells := ZM - xz M, slots := UM - xu M, locals := yl y }
/-- the method's contract -/
def Ct (K : XK) (y : YT) (A : List Value) (M : XM) (o : XO) (N : XM) : Prop :=
  MetFree (xl K) (ym y) (headSpec [yw y] (xRoom y M)) (xPc K A M) (fun _ _ _ _ _ => True) (xQc K M o N)
theorem ct_of {K : XK} {y : YT} {A : List Value} {M N : XM} {o : XO} (hy : plainName (ym y).cls = true) (hcat : ∀ v ∈ A, v.category = 1) (hn : A.length ≤ yn y) (k : cA K y 0 (lv_args 0 A) [] M o N) : Ct K y A M o N := by
  refine MetFree.of_bodyS (code := yb y) (maxLocals := yn y) (ret := yr y) hy ?_ ?_
  · intro args s m h hn
    obtain ⟨meth, c, h1, h2, h3, h4, h5, h6, -, -⟩ := yw_spec hn (atoms_spec (ws := [yw y]) h _ List.mem_cons_self)
    exact ⟨meth, c, h1, h2, h3, h4, h5, h6⟩
  · intro p e s m args below meth c s₁ B hml hP _
    obtain ⟨rfl, hW, hH, hz, hu, h0⟩ := hP
    have hword := atoms_spec (ws := [yw y]) B.pre _ List.mem_cons_self
    obtain ⟨meth', c', h1, h2, h3, h4, h5, h6, h7, h8⟩ := yw_spec B.named hword
    cases B.method.symm.trans h1
    cases (Stand.of_body B).code.symm.trans h2
    have hname : meth.name = (ym y).name := (name_of_methodNamed B.named B.method).1
    have hh0 : s₁.heap = s.heap := by rw [B.state]; rfl
    have hlen : ∀ l : List Value, (∀ v ∈ l, v.category = 1) → (lg_sl (l.map (xv K))).length = l.length := by
      intro l
      induction l with
      | nil => intro _; rfl
      | cons v t ih =>
        intro hv
        have hc : ¬ (xv K v).category = 2 := by rw [xv_cat, hv v List.mem_cons_self]; decide
        simp only [List.map_cons, lg_sl, List.flatMap_cons, if_neg hc, List.length_append, List.length_cons, List.length_nil]
        have := ih (fun w hw => hv w (List.mem_cons_of_mem _ hw))
        simp only [lg_sl] at this
        omega
    have hargs : ∀ (l : List Value) (i : Nat), lv_args i (l.map (xv K)) = xLm K (lv_args i l) := by
      intro l
      induction l with
      | nil => intro i; rfl
      | cons v t ih =>
        intro i
        simp only [List.map_cons, lv_args, xv_cat, ih, xLm, List.map_cons]
    have hcats : ∀ (l : List Value) (i : Nat), (∀ v ∈ l, v.category = 1) → ∀ q ∈ lv_args i l, q.2.category = 1 := by
      intro l
      induction l with
      | nil => intro i _ q hq; cases hq
      | cons v t ih =>
        intro i hv q hq
        rcases List.mem_cons.mp hq with rfl | hq
        · exact hv v List.mem_cons_self
        · exact ih _ (fun w hw => hv w (List.mem_cons_of_mem _ hw)) q hq
    have hl := lv_entry (A.map (xv K)) (n := yn y) (by rw [hlen A hcat]; exact hn)
    rw [hargs] at hl
    have K0 := k p e (headSpec [yw y] (xRoom y M)).room s m (A.map (xv K)).toArray below meth c s₁.heap [] 0 0 _ (xz M) (xu M)
      ⟨B.exec, B.bytes, hml, B.returns, B.notSynchronized, h7, hname, findClass_of_methodNamed B.named, hW, Nat.le_refl _, Nat.le_refl _, Nat.add_sub_cancel' hz, Nat.add_sub_cancel' hu, hH.1, h0, fun q hq => by cases hq⟩
      (by rw [hh0]; exact hH) ⟨Nat.zero_add _, hz⟩ ⟨Nat.zero_add _, hu⟩ ⟨hl, hcats A 0 hcat⟩
    obtain ⟨t, a1, b1, b2, b3, b4, b5⟩ := K0 s₁ rfl (Stand.of_body B)
    refine ⟨t, xo K o, ?_, b1, b2, rfl, b3, b4, b5⟩
    rw [lg_entry_eq]
    exact a1
section XR
variable {K : XK} {y : YT} {pc : Nat} {L : XL} {S : List Value} {M N : XM} {o : XO}
theorem xL_at {ls : Array Slot} (h : xL K y ls L) (k : Nat) {i : Nat} {v : Value} (hk : L[k]? = some (i, v)) : ls[i]? = some (.val (xv K v)) :=
  lv_at h.1 k (v := xv K v) (by simp [xLm, hk])
def xset : XL → Nat → Value → XL
  | [], i, v => [(i, v)]
  | (j, w) :: t, i, v => bif Nat.blt i j then (i, v) :: (j, w) :: t else bif Nat.beq i j then (i, v) :: t else (j, w) :: xset t i v
theorem xset_mem : ∀ (L : XL) (i : Nat) (v : Value) (q : Nat × Value), q ∈ xset L i v → q = (i, v) ∨ q ∈ L
  | [], i, v, q, h => by
    left
    simpa [xset] using h
  | (j, w) :: t, i, v, q, h => by
    unfold xset at h
    cases h1 : Nat.blt i j with
    | true =>
      simp only [h1, cond_true, List.mem_cons] at h
      rcases h with h | h | h
      · exact Or.inl h
      · exact Or.inr (by rw [h]; exact List.mem_cons_self)
      · exact Or.inr (List.mem_cons_of_mem _ h)
    | false =>
      cases h2 : Nat.beq i j with
      | true =>
        simp only [h1, h2, cond_true, cond_false, List.mem_cons] at h
        rcases h with h | h
        · exact Or.inl h
        · exact Or.inr (List.mem_cons_of_mem _ h)
      | false =>
        simp only [h1, h2, cond_false, List.mem_cons] at h
        rcases h with h | h
        · exact Or.inr (by rw [h]; exact List.mem_cons_self)
        · rcases xset_mem t i v q h with h | h
          · exact Or.inl h
          · exact Or.inr (List.mem_cons_of_mem _ h)
/-- the listed locals, less the one that is stored -/
def xdrop (L : XL) (i : Nat) : XL := L.filter fun q => !(Nat.beq q.1 i)
theorem xL_set {ls ls' : Array Slot} {i : Nat} {v : Value} {L' : XL} (h : xL K y ls L) (hc : v.category = 1) (hL : xset (xdrop L i) i v = L')
    (h' : lv_has ls' (yn y) ((i, xv K v) :: (xLm K L).filter (fun q => !(q.1 == i) && !(q.1 + 1 == i && q.2.category == 2)))) : xL K y ls' L' := by
  subst hL
  refine ⟨⟨h'.1, h'.2.1, fun q hq => ?_⟩, fun q hq => ?_⟩
  · obtain ⟨r, hr, rfl⟩ := List.mem_map.mp hq
    rcases xset_mem _ _ _ _ hr with rfl | hr
    · exact h'.2.2 _ List.mem_cons_self
    · obtain ⟨hr1, hr2⟩ := List.mem_filter.mp hr
      have hne : ¬ r.1 = i := fun e => by rw [e] at hr2; simp at hr2
      refine h'.2.2 (r.1, xv K r.2) (List.mem_cons_of_mem _ (List.mem_filter.mpr ⟨List.mem_map.mpr ⟨r, hr1, rfl⟩, ?_⟩))
      have hc1 : (xv K r.2).category = 1 := by rw [xv_cat]; exact h.2 r hr1
      simp [hne, hc1]
  · rcases xset_mem _ _ _ _ hq with rfl | hr
    · exact hc
    · exact h.2 q (List.mem_filter.mp hr).1
/-- fewer locals -/
theorem x_weak {L' : XL} (ks : List Nat) (hL : lv_pick L ks = L') (k : cA K y pc L' S M o N) : cA K y pc L S M o N := by
  intro p e R s m args below meth c H locs cells slots ls z0 u0 C hH hz hu hl
  refine k p e R s m args below meth c H locs cells slots ls z0 u0 C hH hz hu ⟨⟨hl.1.1, hl.1.2.1, fun q hq => ?_⟩, fun q hq => ?_⟩
  · obtain ⟨r, hr, rfl⟩ := List.mem_map.mp hq
    rw [← hL] at hr
    obtain ⟨k0, -, hk⟩ := List.mem_filterMap.mp hr
    exact hl.1.2.2 _ (List.mem_map.mpr ⟨r, List.mem_of_getElem? hk, rfl⟩)
  · rw [← hL] at hq
    obtain ⟨k0, -, hk⟩ := List.mem_filterMap.mp hq
    exact hl.2 q (List.mem_of_getElem? hk)
theorem x_iconst {n : Int} {v : Int32} (hd : decode (yb y) pc = .ok (.iconst n, 1)) (hv : Int32.ofInt n = v) (k : cA K y (pc + 1) L (.int v :: S) M o N) : cA K y pc L S M o N := by
  intro p e R s m args below meth c H locs cells slots ls z0 u0 C hH hz hu hl
  exact lv_iconst C.1 C.2.1 hd hv (k p e R s m args below meth c H locs cells slots ls z0 u0 C hH hz hu hl)
theorem x_bipush {n : Int} {v : Int32} (hd : decode (yb y) pc = .ok (.bipush n, 2)) (hv : (Int8.ofInt n).toInt32 = v) (k : cA K y (pc + 2) L (.int v :: S) M o N) : cA K y pc L S M o N := by
  intro p e R s m args below meth c H locs cells slots ls z0 u0 C hH hz hu hl
  exact lv_bipush C.1 C.2.1 hd hv (k p e R s m args below meth c H locs cells slots ls z0 u0 C hH hz hu hl)
theorem x_sipush {n : Int} {v : Int32} (hd : decode (yb y) pc = .ok (.sipush n, 3)) (hv : (Int16.ofInt n).toInt32 = v) (k : cA K y (pc + 3) L (.int v :: S) M o N) : cA K y pc L S M o N := by
  intro p e R s m args below meth c H locs cells slots ls z0 u0 C hH hz hu hl
  exact lv_sipush C.1 C.2.1 hd hv (k p e R s m args below meth c H locs cells slots ls z0 u0 C hH hz hu hl)
theorem x_iload_n {j : Fin 4} {i : Nat} {x : Int32} (hd : decode (yb y) pc = .ok (.iload_n j, 1)) (hi : (j : Nat) = i) (n : Nat) (hk : L[n]? = some (i, .int x)) (k : cA K y (pc + 1) L (.int x :: S) M o N) : cA K y pc L S M o N := by
  intro p e R s m args below meth c H locs cells slots ls z0 u0 C hH hz hu hl
  exact lv_iload_n C.1 C.2.1 hd hi (xL_at hl n hk) (k p e R s m args below meth c H locs cells slots ls z0 u0 C hH hz hu hl)
theorem x_iload {i : Nat} {x : Int32} (hd : decode (yb y) pc = .ok (.iload i, 2)) (n : Nat) (hk : L[n]? = some (i, .int x)) (k : cA K y (pc + 2) L (.int x :: S) M o N) : cA K y pc L S M o N := by
  intro p e R s m args below meth c H locs cells slots ls z0 u0 C hH hz hu hl
  exact lv_iload C.1 C.2.1 hd (xL_at hl n hk) (k p e R s m args below meth c H locs cells slots ls z0 u0 C hH hz hu hl)
theorem x_aload_n {j : Fin 4} {i : Nat} {a : Nat} (hd : decode (yb y) pc = .ok (.aload_n j, 1)) (hi : (j : Nat) = i) (n : Nat) (hk : L[n]? = some (i, .ref a)) (k : cA K y (pc + 1) L (.ref a :: S) M o N) : cA K y pc L S M o N := by
  intro p e R s m args below meth c H locs cells slots ls z0 u0 C hH hz hu hl
  exact lv_aload_n C.1 C.2.1 hd hi (xL_at hl n hk) (k p e R s m args below meth c H locs cells slots ls z0 u0 C hH hz hu hl)
theorem x_aload {i : Nat} {a : Nat} (hd : decode (yb y) pc = .ok (.aload i, 2)) (n : Nat) (hk : L[n]? = some (i, .ref a)) (k : cA K y (pc + 2) L (.ref a :: S) M o N) : cA K y pc L S M o N := by
  intro p e R s m args below meth c H locs cells slots ls z0 u0 C hH hz hu hl
  exact lv_aload C.1 C.2.1 hd (xL_at hl n hk) (k p e R s m args below meth c H locs cells slots ls z0 u0 C hH hz hu hl)
theorem x_istore_n {j : Fin 4} {i : Nat} {x : Int32} {L' : XL} (hd : decode (yb y) pc = .ok (.istore_n j, 1)) (hi : (j : Nat) = i) (hn : i < yn y) (hL : xset (xdrop L i) i (.int x) = L') (k : cA K y (pc + 1) L' S M o N) : cA K y pc L (.int x :: S) M o N := by
  intro p e R s m args below meth c H locs cells slots ls z0 u0 C hH hz hu hl
  exact lv_istore_n C.1 C.2.1 hd hi hl.1 hn rfl fun ls' h' => k p e R s m args below meth c H locs cells slots ls' z0 u0 C hH hz hu (xL_set (v := .int x) hl rfl hL h')
theorem x_istore {i : Nat} {x : Int32} {L' : XL} (hd : decode (yb y) pc = .ok (.istore i, 2)) (hn : i < yn y) (hL : xset (xdrop L i) i (.int x) = L') (k : cA K y (pc + 2) L' S M o N) : cA K y pc L (.int x :: S) M o N := by
  intro p e R s m args below meth c H locs cells slots ls z0 u0 C hH hz hu hl
  exact lv_istore C.1 C.2.1 hd hl.1 hn rfl fun ls' h' => k p e R s m args below meth c H locs cells slots ls' z0 u0 C hH hz hu (xL_set (v := .int x) hl rfl hL h')
theorem x_astore_n {j : Fin 4} {i : Nat} {a : Nat} {L' : XL} (hd : decode (yb y) pc = .ok (.astore_n j, 1)) (hi : (j : Nat) = i) (hn : i < yn y) (hL : xset (xdrop L i) i (.ref a) = L') (k : cA K y (pc + 1) L' S M o N) : cA K y pc L (.ref a :: S) M o N := by
  intro p e R s m args below meth c H locs cells slots ls z0 u0 C hH hz hu hl
  exact lv_astore_n C.1 C.2.1 hd hi hl.1 hn rfl fun ls' h' => k p e R s m args below meth c H locs cells slots ls' z0 u0 C hH hz hu (xL_set (v := .ref a) hl rfl hL h')
theorem x_astore {i : Nat} {a : Nat} {L' : XL} (hd : decode (yb y) pc = .ok (.astore i, 2)) (hn : i < yn y) (hL : xset (xdrop L i) i (.ref a) = L') (k : cA K y (pc + 2) L' S M o N) : cA K y pc L (.ref a :: S) M o N := by
  intro p e R s m args below meth c H locs cells slots ls z0 u0 C hH hz hu hl
  exact lv_astore C.1 C.2.1 hd hl.1 hn rfl fun ls' h' => k p e R s m args below meth c H locs cells slots ls' z0 u0 C hH hz hu (xL_set (v := .ref a) hl rfl hL h')
theorem x_iinc {i n : Nat} {d : Int} {x : Int32} {L' : XL} (hd : decode (yb y) pc = .ok (.iinc i d, 3)) (hn : i < yn y) (hk : L[n]? = some (i, .int x)) (hL : xset (xdrop L i) i (.int (x + Int32.ofInt d)) = L') (k : cA K y (pc + 3) L' S M o N) : cA K y pc L S M o N := by
  intro p e R s m args below meth c H locs cells slots ls z0 u0 C hH hz hu hl
  exact lv_iinc (k := n) C.1 C.2.1 hd hl.1 (x := x) (by simp [xLm, hk, xv]) rfl hn rfl fun ls' h' => k p e R s m args below meth c H locs cells slots ls' z0 u0 C hH hz hu (xL_set (v := .int (x + Int32.ofInt d)) hl rfl hL h')
theorem x_iadd {x z : Int32} (hd : decode (yb y) pc = .ok (.iadd, 1)) (k : cA K y (pc + 1) L (.int (x + z) :: S) M o N) : cA K y pc L (.int z :: .int x :: S) M o N := by
  intro p e R s m args below meth c H locs cells slots ls z0 u0 C hH hz hu hl
  exact lv_iadd C.1 C.2.1 hd (k p e R s m args below meth c H locs cells slots ls z0 u0 C hH hz hu hl)
theorem x_isub {x z : Int32} (hd : decode (yb y) pc = .ok (.isub, 1)) (k : cA K y (pc + 1) L (.int (x - z) :: S) M o N) : cA K y pc L (.int z :: .int x :: S) M o N := by
  intro p e R s m args below meth c H locs cells slots ls z0 u0 C hH hz hu hl
  exact lv_isub C.1 C.2.1 hd (k p e R s m args below meth c H locs cells slots ls z0 u0 C hH hz hu hl)
theorem x_imul {x z : Int32} (hd : decode (yb y) pc = .ok (.imul, 1)) (k : cA K y (pc + 1) L (.int (x * z) :: S) M o N) : cA K y pc L (.int z :: .int x :: S) M o N := by
  intro p e R s m args below meth c H locs cells slots ls z0 u0 C hH hz hu hl
  exact lv_imul C.1 C.2.1 hd (k p e R s m args below meth c H locs cells slots ls z0 u0 C hH hz hu hl)
theorem x_iand {x z : Int32} (hd : decode (yb y) pc = .ok (.iand, 1)) (k : cA K y (pc + 1) L (.int (x &&& z) :: S) M o N) : cA K y pc L (.int z :: .int x :: S) M o N := by
  intro p e R s m args below meth c H locs cells slots ls z0 u0 C hH hz hu hl
  exact lv_iand C.1 C.2.1 hd (k p e R s m args below meth c H locs cells slots ls z0 u0 C hH hz hu hl)
theorem x_idiv {x z : Int32} (hd : decode (yb y) pc = .ok (.idiv, 1)) (hne : ¬ z = 0) (k : cA K y (pc + 1) L (.int (x / z) :: S) M o N) : cA K y pc L (.int z :: .int x :: S) M o N := by
  intro p e R s m args below meth c H locs cells slots ls z0 u0 C hH hz hu hl
  exact lv_idiv C.1 C.2.1 hd hne (k p e R s m args below meth c H locs cells slots ls z0 u0 C hH hz hu hl)
theorem x_i2l {x : Int32} (hd : decode (yb y) pc = .ok (.i2l, 1)) (k : cA K y (pc + 1) L (.long x.toInt64 :: S) M o N) : cA K y pc L (.int x :: S) M o N := by
  intro p e R s m args below meth c H locs cells slots ls z0 u0 C hH hz hu hl
  exact lv_i2l C.1 C.2.1 hd rfl (k p e R s m args below meth c H locs cells slots ls z0 u0 C hH hz hu hl)
theorem x_lcmp {x z : Int64} (hd : decode (yb y) pc = .ok (.lcmp, 1)) (k : cA K y (pc + 1) L (.int (lg_cmp x z) :: S) M o N) : cA K y pc L (.long z :: .long x :: S) M o N := by
  intro p e R s m args below meth c H locs cells slots ls z0 u0 C hH hz hu hl
  exact W.lcmp C.1 C.2.1 hd (k p e R s m args below meth c H locs cells slots ls z0 u0 C hH hz hu hl)
theorem x_dup {v : Value} (hd : decode (yb y) pc = .ok (.dup, 1)) (hv : v.category = 1) (k : cA K y (pc + 1) L (v :: v :: S) M o N) : cA K y pc L (v :: S) M o N := by
  intro p e R s m args below meth c H locs cells slots ls z0 u0 C hH hz hu hl
  exact lv_dup C.1 C.2.1 hd (by rw [xv_cat]; exact hv) (k p e R s m args below meth c H locs cells slots ls z0 u0 C hH hz hu hl)
theorem x_pop {v : Value} (hd : decode (yb y) pc = .ok (.pop, 1)) (hv : v.category = 1) (k : cA K y (pc + 1) L S M o N) : cA K y pc L (v :: S) M o N := by
  intro p e R s m args below meth c H locs cells slots ls z0 u0 C hH hz hu hl
  exact lv_pop C.1 C.2.1 hd (by rw [xv_cat]; exact hv) (k p e R s m args below meth c H locs cells slots ls z0 u0 C hH hz hu hl)
theorem x_dup_x1 {v w : Value} (hd : decode (yb y) pc = .ok (.dup_x1, 1)) (hv : v.category = 1) (hw : w.category = 1) (k : cA K y (pc + 1) L (v :: w :: v :: S) M o N) : cA K y pc L (v :: w :: S) M o N := by
  intro p e R s m args below meth c H locs cells slots ls z0 u0 C hH hz hu hl
  exact lv_dup_x1 C.1 C.2.1 hd (by rw [xv_cat]; exact hv) (by rw [xv_cat]; exact hw) (k p e R s m args below meth c H locs cells slots ls z0 u0 C hH hz hu hl)
theorem x_dup2 {v w : Value} (hd : decode (yb y) pc = .ok (.dup2, 1)) (hv : v.category = 1) (hw : w.category = 1) (k : cA K y (pc + 1) L (v :: w :: v :: w :: S) M o N) : cA K y pc L (v :: w :: S) M o N := by
  intro p e R s m args below meth c H locs cells slots ls z0 u0 C hH hz hu hl
  exact lv_dup2_11 C.1 C.2.1 hd (by rw [xv_cat]; exact hv) (by rw [xv_cat]; exact hw) (k p e R s m args below meth c H locs cells slots ls z0 u0 C hH hz hu hl)
theorem x_goto {off : Int} (tgt : Nat) (hd : decode (yb y) pc = .ok (.goto off, 3)) (ht : (pc : Int) + off = (tgt : Int)) (k : cA K y tgt L S M o N) : cA K y pc L S M o N := by
  intro p e R s m args below meth c H locs cells slots ls z0 u0 C hH hz hu hl
  exact lv_goto C.1 C.2.1 hd ht (k p e R s m args below meth c H locs cells slots ls z0 u0 C hH hz hu hl)
theorem x_if_eq {x : Int32} {off : Int} (tgt : Nat) (hd : decode (yb y) pc = .ok (.ifCond .eq off, 3)) (ht : (pc : Int) + off = (tgt : Int)) (kt : x = 0 → cA K y tgt L S M o N) (kf : ¬ x = 0 → cA K y (pc + 3) L S M o N) : cA K y pc L (.int x :: S) M o N := by
  intro p e R s m args below meth c H locs cells slots ls z0 u0 C hH hz hu hl
  exact lv_if_eq C.1 C.2.1 hd ht (fun h => kt h p e R s m args below meth c H locs cells slots ls z0 u0 C hH hz hu hl) (fun h => kf h p e R s m args below meth c H locs cells slots ls z0 u0 C hH hz hu hl)
theorem x_if_ne {x : Int32} {off : Int} (tgt : Nat) (hd : decode (yb y) pc = .ok (.ifCond .ne off, 3)) (ht : (pc : Int) + off = (tgt : Int)) (kt : ¬ x = 0 → cA K y tgt L S M o N) (kf : x = 0 → cA K y (pc + 3) L S M o N) : cA K y pc L (.int x :: S) M o N := by
  intro p e R s m args below meth c H locs cells slots ls z0 u0 C hH hz hu hl
  exact lv_if_ne C.1 C.2.1 hd ht (fun h => kt h p e R s m args below meth c H locs cells slots ls z0 u0 C hH hz hu hl) (fun h => kf h p e R s m args below meth c H locs cells slots ls z0 u0 C hH hz hu hl)
theorem x_if_lt {x : Int32} {off : Int} (tgt : Nat) (hd : decode (yb y) pc = .ok (.ifCond .lt off, 3)) (ht : (pc : Int) + off = (tgt : Int)) (kt : x < 0 → cA K y tgt L S M o N) (kf : ¬ x < 0 → cA K y (pc + 3) L S M o N) : cA K y pc L (.int x :: S) M o N := by
  intro p e R s m args below meth c H locs cells slots ls z0 u0 C hH hz hu hl
  exact lv_if_lt C.1 C.2.1 hd ht (fun h => kt h p e R s m args below meth c H locs cells slots ls z0 u0 C hH hz hu hl) (fun h => kf h p e R s m args below meth c H locs cells slots ls z0 u0 C hH hz hu hl)
theorem x_if_ge {x : Int32} {off : Int} (tgt : Nat) (hd : decode (yb y) pc = .ok (.ifCond .ge off, 3)) (ht : (pc : Int) + off = (tgt : Int)) (kt : 0 ≤ x → cA K y tgt L S M o N) (kf : ¬ 0 ≤ x → cA K y (pc + 3) L S M o N) : cA K y pc L (.int x :: S) M o N := by
  intro p e R s m args below meth c H locs cells slots ls z0 u0 C hH hz hu hl
  exact lv_if_ge C.1 C.2.1 hd ht (fun h => kt h p e R s m args below meth c H locs cells slots ls z0 u0 C hH hz hu hl) (fun h => kf h p e R s m args below meth c H locs cells slots ls z0 u0 C hH hz hu hl)
theorem x_if_gt {x : Int32} {off : Int} (tgt : Nat) (hd : decode (yb y) pc = .ok (.ifCond .gt off, 3)) (ht : (pc : Int) + off = (tgt : Int)) (kt : 0 < x → cA K y tgt L S M o N) (kf : ¬ 0 < x → cA K y (pc + 3) L S M o N) : cA K y pc L (.int x :: S) M o N := by
  intro p e R s m args below meth c H locs cells slots ls z0 u0 C hH hz hu hl
  exact lv_if_gt C.1 C.2.1 hd ht (fun h => kt h p e R s m args below meth c H locs cells slots ls z0 u0 C hH hz hu hl) (fun h => kf h p e R s m args below meth c H locs cells slots ls z0 u0 C hH hz hu hl)
theorem x_if_le {x : Int32} {off : Int} (tgt : Nat) (hd : decode (yb y) pc = .ok (.ifCond .le off, 3)) (ht : (pc : Int) + off = (tgt : Int)) (kt : x ≤ 0 → cA K y tgt L S M o N) (kf : ¬ x ≤ 0 → cA K y (pc + 3) L S M o N) : cA K y pc L (.int x :: S) M o N := by
  intro p e R s m args below meth c H locs cells slots ls z0 u0 C hH hz hu hl
  exact lv_if_le C.1 C.2.1 hd ht (fun h => kt h p e R s m args below meth c H locs cells slots ls z0 u0 C hH hz hu hl) (fun h => kf h p e R s m args below meth c H locs cells slots ls z0 u0 C hH hz hu hl)
theorem x_icmp_eq {x z : Int32} {off : Int} (tgt : Nat) (hd : decode (yb y) pc = .ok (.if_icmp .eq off, 3)) (ht : (pc : Int) + off = (tgt : Int)) (kt : x = z → cA K y tgt L S M o N) (kf : ¬ x = z → cA K y (pc + 3) L S M o N) : cA K y pc L (.int z :: .int x :: S) M o N := by
  intro p e R s m args below meth c H locs cells slots ls z0 u0 C hH hz hu hl
  exact lv_icmp_eq C.1 C.2.1 hd ht (fun h => kt h p e R s m args below meth c H locs cells slots ls z0 u0 C hH hz hu hl) (fun h => kf h p e R s m args below meth c H locs cells slots ls z0 u0 C hH hz hu hl)
theorem x_icmp_ne {x z : Int32} {off : Int} (tgt : Nat) (hd : decode (yb y) pc = .ok (.if_icmp .ne off, 3)) (ht : (pc : Int) + off = (tgt : Int)) (kt : ¬ x = z → cA K y tgt L S M o N) (kf : x = z → cA K y (pc + 3) L S M o N) : cA K y pc L (.int z :: .int x :: S) M o N := by
  intro p e R s m args below meth c H locs cells slots ls z0 u0 C hH hz hu hl
  exact lv_icmp_ne C.1 C.2.1 hd ht (fun h => kt h p e R s m args below meth c H locs cells slots ls z0 u0 C hH hz hu hl) (fun h => kf h p e R s m args below meth c H locs cells slots ls z0 u0 C hH hz hu hl)
theorem x_icmp_lt {x z : Int32} {off : Int} (tgt : Nat) (hd : decode (yb y) pc = .ok (.if_icmp .lt off, 3)) (ht : (pc : Int) + off = (tgt : Int)) (kt : x < z → cA K y tgt L S M o N) (kf : ¬ x < z → cA K y (pc + 3) L S M o N) : cA K y pc L (.int z :: .int x :: S) M o N := by
  intro p e R s m args below meth c H locs cells slots ls z0 u0 C hH hz hu hl
  exact lv_icmp_lt C.1 C.2.1 hd ht (fun h => kt h p e R s m args below meth c H locs cells slots ls z0 u0 C hH hz hu hl) (fun h => kf h p e R s m args below meth c H locs cells slots ls z0 u0 C hH hz hu hl)
theorem x_icmp_ge {x z : Int32} {off : Int} (tgt : Nat) (hd : decode (yb y) pc = .ok (.if_icmp .ge off, 3)) (ht : (pc : Int) + off = (tgt : Int)) (kt : z ≤ x → cA K y tgt L S M o N) (kf : ¬ z ≤ x → cA K y (pc + 3) L S M o N) : cA K y pc L (.int z :: .int x :: S) M o N := by
  intro p e R s m args below meth c H locs cells slots ls z0 u0 C hH hz hu hl
  exact lv_icmp_ge C.1 C.2.1 hd ht (fun h => kt h p e R s m args below meth c H locs cells slots ls z0 u0 C hH hz hu hl) (fun h => kf h p e R s m args below meth c H locs cells slots ls z0 u0 C hH hz hu hl)
theorem x_icmp_gt {x z : Int32} {off : Int} (tgt : Nat) (hd : decode (yb y) pc = .ok (.if_icmp .gt off, 3)) (ht : (pc : Int) + off = (tgt : Int)) (kt : z < x → cA K y tgt L S M o N) (kf : ¬ z < x → cA K y (pc + 3) L S M o N) : cA K y pc L (.int z :: .int x :: S) M o N := by
  intro p e R s m args below meth c H locs cells slots ls z0 u0 C hH hz hu hl
  exact lv_icmp_gt C.1 C.2.1 hd ht (fun h => kt h p e R s m args below meth c H locs cells slots ls z0 u0 C hH hz hu hl) (fun h => kf h p e R s m args below meth c H locs cells slots ls z0 u0 C hH hz hu hl)
theorem x_icmp_le {x z : Int32} {off : Int} (tgt : Nat) (hd : decode (yb y) pc = .ok (.if_icmp .le off, 3)) (ht : (pc : Int) + off = (tgt : Int)) (kt : x ≤ z → cA K y tgt L S M o N) (kf : ¬ x ≤ z → cA K y (pc + 3) L S M o N) : cA K y pc L (.int z :: .int x :: S) M o N := by
  intro p e R s m args below meth c H locs cells slots ls z0 u0 C hH hz hu hl
  exact lv_icmp_le C.1 C.2.1 hd ht (fun h => kt h p e R s m args below meth c H locs cells slots ls z0 u0 C hH hz hu hl) (fun h => kf h p e R s m args below meth c H locs cells slots ls z0 u0 C hH hz hu hl)
theorem x_tableOut {x : Int32} {dflt lo hi : Int} {offs : Array Int} {len : Nat} (tgt : Nat) (hd : decode (yb y) pc = .ok (.tableswitch dflt lo hi offs, len)) (h : x.toInt < lo ∨ hi < x.toInt) (ht : (pc : Int) + dflt = (tgt : Int)) (k : cA K y tgt L S M o N) : cA K y pc L (.int x :: S) M o N := by
  intro p e R s m args below meth c H locs cells slots ls z0 u0 C hH hz hu hl
  exact lv_tableOut C.1 C.2.1 hd h ht (k p e R s m args below meth c H locs cells slots ls z0 u0 C hH hz hu hl)
theorem x_tableIn {x : Int32} {dflt lo hi off : Int} {offs : Array Int} {len : Nat} (tgt : Nat) (hd : decode (yb y) pc = .ok (.tableswitch dflt lo hi offs, len)) (h1 : ¬ x.toInt < lo) (h2 : ¬ hi < x.toInt) (ho : offs[(x.toInt - lo).toNat]? = some off) (ht : (pc : Int) + off = (tgt : Int)) (k : cA K y tgt L S M o N) : cA K y pc L (.int x :: S) M o N := by
  intro p e R s m args below meth c H locs cells slots ls z0 u0 C hH hz hu hl
  exact lv_tableIn C.1 C.2.1 hd h1 h2 ho ht (k p e R s m args below meth c H locs cells slots ls z0 u0 C hH hz hu hl)
theorem x_lookup {x : Int32} {dflt off : Int} {ps : Array (Int × Int)} {len : Nat} (tgt : Nat) (hd : decode (yb y) pc = .ok (.lookupswitch dflt ps, len)) (hp : (ps.toList.zip (ps.toList.drop 1)).all (fun (a, next) => a.1 < next.1) = true) (ho : Op.lookupswitch.offset ps.toList dflt x.toInt = off) (ht : (pc : Int) + off = (tgt : Int)) (k : cA K y tgt L S M o N) : cA K y pc L (.int x :: S) M o N := by
  intro p e R s m args below meth c H locs cells slots ls z0 u0 C hH hz hu hl
  exact lv_lookup C.1 C.2.1 hd hp ho ht (k p e R s m args below meth c H locs cells slots ls z0 u0 C hH hz hu hl)
theorem x_ireturn {v : Int32} (hd : decode (yb y) pc = .ok (.ireturn, 1)) (hret : yr y = some .int) : cA K y pc L [.int v] M (.inl (some (.int v))) M := by
  intro p e R s m args below meth c H locs cells slots ls z0 u0 C hH hz hu hl
  intro T hT X
  have hlocks : meth.locks = false := C.2.2.2.2.1
  have hr : meth.sig.returnType = _ := C.2.2.2.1.trans hret
  obtain ⟨fs, hr2, hrun, hended, hW, hframe⟩ := X.leave (v := some (.int v)) (fun h => by rw [hr] at h; cases h)
  have hmeth' : T.vm.method? m = some meth := X.method'
  refine ⟨T.setFrames fs, ?_, hrun, hended, hT ▸ hH, hW, ⟨by omega, by omega, hz.2, hu.2⟩, locs, ?_, C.2.2.2.2.2.2.2.2.2.2.2.2.2.2.2⟩
  · show Steps p.tables e below (T.setTop (F0 m pc ls [.int v])) (T.setFrames fs)
    have hexec := C.1
    have hb := C.2.1
    jvm_step X.here [X.here.top, hexec, hb, hd, hmeth', hr, narrow]
    (try refine ⟨rfl, ?_⟩); (try refine ⟨rfl, ?_⟩)
    first | (intro acts; rw [hr2 _ acts rfl rfl rfl]) | rw [hr2 _ _ rfl rfl rfl]
    exact Steps.refl _
  · rw [show xz M - z0 = cells by omega, show xu M - u0 = slots by omega]
    exact hframe
theorem x_zreturn {v : Int32} (hd : decode (yb y) pc = .ok (.ireturn, 1)) (hret : yr y = some .boolean) (hn : narrow .boolean (.int v) = .int v) : cA K y pc L [.int v] M (.inl (some (.int v))) M := by
  intro p e R s m args below meth c H locs cells slots ls z0 u0 C hH hz hu hl
  intro T hT X
  have hlocks : meth.locks = false := C.2.2.2.2.1
  have hr : meth.sig.returnType = _ := C.2.2.2.1.trans hret
  obtain ⟨fs, hr2, hrun, hended, hW, hframe⟩ := X.leave (v := some (.int v)) (fun h => by rw [hr] at h; cases h)
  have hmeth' : T.vm.method? m = some meth := X.method'
  refine ⟨T.setFrames fs, ?_, hrun, hended, hT ▸ hH, hW, ⟨by omega, by omega, hz.2, hu.2⟩, locs, ?_, C.2.2.2.2.2.2.2.2.2.2.2.2.2.2.2⟩
  · show Steps p.tables e below (T.setTop (F0 m pc ls [.int v])) (T.setFrames fs)
    have hexec := C.1
    have hb := C.2.1
    jvm_step X.here [X.here.top, hexec, hb, hd, hmeth', hr, hn]
    (try refine ⟨rfl, ?_⟩); (try refine ⟨rfl, ?_⟩)
    first | (intro acts; rw [hr2 _ acts rfl rfl rfl]) | rw [hr2 _ _ rfl rfl rfl]
    exact Steps.refl _
  · rw [show xz M - z0 = cells by omega, show xu M - u0 = slots by omega]
    exact hframe
theorem x_areturn {a : Nat} {n : String} (hd : decode (yb y) pc = .ok (.areturn, 1)) (hret : yr y = some (.object n)) : cA K y pc L [.ref a] M (.inl (some (.ref a))) M := by
  intro p e R s m args below meth c H locs cells slots ls z0 u0 C hH hz hu hl
  intro T hT X
  have hlocks : meth.locks = false := C.2.2.2.2.1
  have hr : meth.sig.returnType = _ := C.2.2.2.1.trans hret
  obtain ⟨fs, hr2, hrun, hended, hW, hframe⟩ := X.leave (v := some (.ref (xa K a))) (fun h => by rw [hr] at h; cases h)
  have hmeth' : T.vm.method? m = some meth := X.method'
  refine ⟨T.setFrames fs, ?_, hrun, hended, hT ▸ hH, hW, ⟨by omega, by omega, hz.2, hu.2⟩, locs, ?_, C.2.2.2.2.2.2.2.2.2.2.2.2.2.2.2⟩
  · show Steps p.tables e below (T.setTop (F0 m pc ls [.ref (xa K a)])) (T.setFrames fs)
    have hexec := C.1
    have hb := C.2.1
    jvm_step X.here [X.here.top, hexec, hb, hd, hmeth', hr, narrow]
    (try refine ⟨rfl, ?_⟩); (try refine ⟨rfl, ?_⟩)
    first | (intro acts; rw [hr2 _ acts rfl rfl rfl]) | rw [hr2 _ _ rfl rfl rfl]
    exact Steps.refl _
  · rw [show xz M - z0 = cells by omega, show xu M - u0 = slots by omega]
    exact hframe
theorem x_return (hd : decode (yb y) pc = .ok (.return_, 1)) (hret : yr y = none) : cA K y pc L [] M (.inl none) M := by
  intro p e R s m args below meth c H locs cells slots ls z0 u0 C hH hz hu hl
  intro T hT X
  have hlocks : meth.locks = false := C.2.2.2.2.1
  have hr : meth.sig.returnType = _ := C.2.2.2.1.trans hret
  obtain ⟨fs, hr2, hrun, hended, hW, hframe⟩ := X.leave (v := none) (fun _ => rfl)
  have hmeth' : T.vm.method? m = some meth := X.method'
  refine ⟨T.setFrames fs, ?_, hrun, hended, hT ▸ hH, hW, ⟨by omega, by omega, hz.2, hu.2⟩, locs, ?_, C.2.2.2.2.2.2.2.2.2.2.2.2.2.2.2⟩
  · show Steps p.tables e below (T.setTop (F0 m pc ls [])) (T.setFrames fs)
    have hexec := C.1
    have hb := C.2.1
    jvm_step X.here [X.here.top, hexec, hb, hd, hmeth', hr, narrow]
    (try refine ⟨rfl, ?_⟩); (try refine ⟨rfl, ?_⟩)
    first | (intro acts; rw [hr2 _ acts rfl rfl rfl]) | rw [hr2 _ _ rfl rfl rfl]
    exact Steps.refl _
  · rw [show xz M - z0 = cells by omega, show xu M - u0 = slots by omega]
    exact hframe
end XR
end
section
/-! what the tables say of the classes -/
theorem xcl_w : ∀ q ∈ xcl, ∀ f ∈ q.2, (if f.2.2.1 = true then Cond.laysFinal q.1 q.1 f.1 f.2.1 else Cond.lays q.1 q.1 f.1 f.2.1) ∈ lw_tbl := by decide +kernel
def xfty (f : XF) : FieldType := (parseFieldDescriptor f.2.1).getD .int
theorem xcl_t : ∀ q ∈ xcl, ∀ f ∈ q.2, parseFieldDescriptor f.2.1 = some (xfty f) ∧ defaultValue (xfty f) = if f.2.2.2 = true then .null else .int 0 := by decide +kernel
theorem xcl_n : ∀ q ∈ xcl, ∀ i, i < q.2.length → ∀ j, j < q.2.length → i ≠ j → (q.2[i]?.map fun f => f.1) ≠ (q.2[j]?.map fun f => f.1) := by decide +kernel
theorem xcl_i : ∀ q ∈ xcl, Cond.instantiable q.1 q.2.length ∈ lw_tbl := by decide +kernel
theorem xcl_lay {K : XK} (G : xG K) {q : String × List XF} {f : XF} (hq : q ∈ xcl) (hf : f ∈ q.2) {U : State} (hW : (xs K).WarmedH U.vm) (args : Array Value) : (Cond.lays q.1 q.1 f.1 f.2.1).before args U = true ∧ f.2.2.1 = false ∨ (Cond.laysFinal q.1 q.1 f.1 f.2.1).before args U = true ∧ f.2.2.1 = true := by
  have h := xcl_w q hq f hf
  cases hb : f.2.2.1 with
  | true =>
    rw [if_pos hb] at h
    exact Or.inr ⟨xw G rfl h hW args, rfl⟩
  | false =>
    rw [if_neg (by rw [hb]; decide)] at h
    exact Or.inl ⟨xw G rfl h hW args, rfl⟩
theorem xcl_lay' {K : XK} (G : xG K) {q : String × List XF} {f : XF} (hq : q ∈ xcl) (hf : f ∈ q.2) {U : State} (hW : (xs K).WarmedH U.vm) (args : Array Value) : (Cond.lays q.1 q.1 f.1 f.2.1).before args U = true ∨ (Cond.laysFinal q.1 q.1 f.1 f.2.1).before args U = true := by
  rcases xcl_lay G hq hf hW args with h | h
  · exact Or.inl h.1
  · exact Or.inr h.1
theorem xcl_apart {K : XK} (G : xG K) {q : String × List XF} {f g : XF} {i j a b : Nat} (hq : q ∈ xcl) (hf : q.2[i]? = some f) (hg : q.2[j]? = some g) (hne : i ≠ j) (h1 : SlotIs (xs K) q.1 f.1 f.2.1 a) (h2 : SlotIs (xs K) q.1 g.1 g.2.1 b) : a ≠ b := by
  obtain ⟨_, _, _, fa, hia, ea⟩ := h1
  obtain ⟨_, _, _, fb, hib, eb⟩ := h2
  have hf' := List.mem_of_getElem? hf
  have hg' := List.mem_of_getElem? hg
  rw [← ea, ← eb]
  refine u_apart (xcl_lay' G hq hf' (State.WarmedH.refl _) #[]) (xcl_lay' G hq hg' (State.WarmedH.refl _) #[]) hia hib ?_
  rw [(State.fieldFound?_type hia (xcl_t q hq f hf').1).1, (State.fieldFound?_type hib (xcl_t q hq g hg').1).1]
  have h := xcl_n q hq i (List.getElem?_eq_some_iff.mp hf).1 j (List.getElem?_eq_some_iff.mp hg).1 hne
  rw [hf, hg] at h
  intro e
  exact h (by simp [e])
theorem xnz {x : Int32} (hx : x = 0 ∨ x = 1) : narrow .boolean (.int x) = .int x ∧ fits .boolean (.int x) = true := by rcases hx with rfl | rfl <;> decide
theorem xrf_v (K : XK) (a : Nat) : xrf K (some a) = xv K (.ref a) := rfl
section XR
variable {K : XK} {y : YT} {pc : Nat} {L : XL} {S : List Value} {M N : XM} {o : XO}
/-- a field's value -/
theorem x_getV (G : xG K) {ci j index a : Nat} {q : String × List XF} {f : XF} {v : Value} (hd : decode (yb y) pc = .ok (.getfield index, 3)) (hq : xcl[ci]? = some q) (hf : q.2[j]? = some f) (hk : Cond.fieldLink (ym y).cls index q.1 f.1 f.2.1 ∈ lw_tbl)
    (ha : a < xz M) (ht : (xt M a).1 = 20 + ci) (hv : xfv K M f a j = xv K v) (k : cA K y (pc + 3) L (v :: S) M o N) : cA K y pc L (.ref a :: S) M o N := by
  intro p e R s m args below meth c H locs cells slots ls z0 u0 C hH hz hu hl
  have hW := C.2.2.2.2.2.2.2.2.1
  obtain ⟨cell, a1, a2, a3, a4⟩ := (hH.2.2.1 a ha).2.1 ci q ht hq
  obtain ⟨i, b1, b2⟩ := a4 j f hf
  obtain ⟨cf, kf, fi, fd, hi, hsl⟩ := slotIs_moved hW.alike b1
  have hfc : s.vm.findClass q.1 = some cell.cls := by rw [hW.alike.findClass]; exact a2
  obtain ⟨kC, hkC⟩ := Vm.classAt_of_findClass hfc
  have hst := (u_facts hfc hkC (xcl_lay' G (List.mem_of_getElem? hq) (List.mem_of_getElem? hf) hW args) hi).1
  refine W.getf C.1 C.2.1 C.2.2.2.2.2.2.2.1 (xw G rfl hk hW args) hi hst a1 (by rw [a3]; exact fun h => by cases h) (v := xv K v) (by rw [hsl, b2, hv]) rfl rfl hd (k p e R s m args below meth c H locs cells slots ls z0 u0 C hH hz hu hl)
theorem x_getI (G : xG K) {ci j index a : Nat} {q : String × List XF} {f : XF} (hd : decode (yb y) pc = .ok (.getfield index, 3)) (hq : xcl[ci]? = some q) (hf : q.2[j]? = some f) (hr : f.2.2.2 = false) (hk : Cond.fieldLink (ym y).cls index q.1 f.1 f.2.1 ∈ lw_tbl)
    (ha : a < xz M) (ht : (xt M a).1 = 20 + ci) (k : cA K y (pc + 3) L (.int (xi M a j) :: S) M o N) : cA K y pc L (.ref a :: S) M o N :=
  x_getV G hd hq hf hk ha ht (v := .int (xi M a j)) (by unfold xfv; rw [if_neg (by rw [hr]; decide)]; rfl) k
theorem x_getR (G : xG K) {ci j index a b : Nat} {q : String × List XF} {f : XF} (hd : decode (yb y) pc = .ok (.getfield index, 3)) (hq : xcl[ci]? = some q) (hf : q.2[j]? = some f) (hr : f.2.2.2 = true) (hk : Cond.fieldLink (ym y).cls index q.1 f.1 f.2.1 ∈ lw_tbl)
    (ha : a < xz M) (ht : (xt M a).1 = 20 + ci) (hb : xr M a j = some b) (k : cA K y (pc + 3) L (.ref b :: S) M o N) : cA K y pc L (.ref a :: S) M o N :=
  x_getV G hd hq hf hk ha ht (v := .ref b) (by unfold xfv; rw [if_pos hr, hb]; rfl) k
/-- a field is written -/
theorem x_putV (G : xG K) {ci j index a : Nat} {q : String × List XF} {f : XF} {v : Value} {M1 : XM} (hd : decode (yb y) pc = .ok (.putfield index, 3)) (hq : xcl[ci]? = some q) (hf : q.2[j]? = some f) (hk : Cond.fieldLink (ym y).cls index q.1 f.1 f.2.1 ∈ lw_tbl)
    (hfin : f.2.2.1 = false ∨ (ym y).name = "<init>" ∧ (ym y).cls = q.1) (ha : a < xz M) (ht : (xt M a).1 = 20 + ci) (hn : narrow (xfty f) (xv K v) = xv K v) (hfit : fits (xfty f) (xv K v) = true)
    (g1 : xz M1 = xz M) (g2 : xt M1 = xt M) (g0 : xu M1 = xu M) (g3 : ∀ b, b ≠ a → (∀ i, xi M1 b i = xi M b i) ∧ (∀ i, xr M1 b i = xr M b i) ∧ ∀ i, xj M1 b i = xj M b i) (g4 : ∀ (i : Nat) (f' : XF), q.2[i]? = some f' → i ≠ j → xfv K M1 f' a i = xfv K M f' a i) (g5 : xfv K M1 f a j = xv K v)
    (k : cA K y (pc + 3) L S M1 o N) : cA K y pc L (v :: .ref a :: S) M o N := by
  intro p e R s m args below meth c H locs cells slots ls z0 u0 C hH hz hu hl
  have hW := C.2.2.2.2.2.2.2.2.1
  have hqm := List.mem_of_getElem? hq
  have hfm := List.mem_of_getElem? hf
  have ha0 : a ≠ 0 := fun e0 => by
    have h5 := hH.2.2.2
    rw [e0] at ht
    omega
  obtain ⟨cell, a1, a2, a3, a4⟩ := (hH.2.2.1 a ha).2.1 ci q ht hq
  obtain ⟨i, b1, b2⟩ := a4 j f hf
  obtain ⟨cf, kf, fi, fd, hi, hsl⟩ := slotIs_moved hW.alike b1
  have hfc : s.vm.findClass q.1 = some cell.cls := by rw [hW.alike.findClass]; exact a2
  obtain ⟨kC, hkC⟩ := Vm.classAt_of_findClass hfc
  have hlay := xcl_lay' G hqm hfm hW args
  have hfacts := u_facts hfc hkC hlay hi
  have hty := (State.fieldFound?_type hi (xcl_t q hqm f hfm).1).2
  have hkind : kC.kind = .ordinary := by
    obtain ⟨c1, k1, e1, e2, e3, -⟩ := Cond.instantiable_spec (xw G rfl (xcl_i q hqm) hW args)
    cases hfc.symm.trans e1
    cases hkC.symm.trans e2
    exact e3
  have h6 := u_fits (ty := xfty f) (v := xv K v) hfc hkC hkind hlay hi (xcl_t q hqm f hfm).1 hn hfit
  have hfin' : hasFlag fd.accessFlags Acc.final = false ∨ (m.cls = cf ∧ meth.name = "<init>") := by
    rcases xcl_lay G hqm hfm hW args with ⟨h, -⟩ | ⟨h, hb⟩
    · obtain ⟨c, k, cf', kf', fi', fd', r1, r2, hi', hst, hfin, -⟩ := Cond.lays_spec h
      cases hi.symm.trans hi'
      exact Or.inl hfin
    · rcases hfin with hx | ⟨hx1, hx2⟩
      · rw [hx] at hb; cases hb
      · obtain ⟨_, _, c', _, _, _, -, -, hf', -, -, -, hown2, -⟩ := Cond.laysFinal_spec h
        have e1 : c' = cf := by have := hi.symm.trans hf'; simp at this; exact this.1.symm
        refine Or.inr ⟨?_, C.2.2.2.2.2.2.1.trans hx1⟩
        have hown := C.2.2.2.2.2.2.2.1
        rw [hx2] at hown
        rw [← e1]; exact Option.some.inj (hown.symm.trans hown2)
  have hlt : fd.slot < cell.slots.size := by rw [hsl]; exact k2_hasslot b2
  have hsz : xa K a < H.size := (Array.getElem?_eq_some_iff.mp a1).1
  refine W.putf C.1 C.2.1 C.2.2.2.2.2.2.2.1 (xw G rfl hk hW args) hi hfacts.1 hfin' a1 (by rw [a3]; exact fun h => by cases h) hlt h6.1 (by rw [a3]; exact h6.2) rfl rfl hd ?_
  refine k p e R s m args below meth c _ _ cells slots ls z0 u0 ⟨C.1, C.2.1, C.2.2.1, C.2.2.2.1, C.2.2.2.2.1, C.2.2.2.2.2.1, C.2.2.2.2.2.2.1, C.2.2.2.2.2.2.2.1, C.2.2.2.2.2.2.2.2.1, C.2.2.2.2.2.2.2.2.2.1, C.2.2.2.2.2.2.2.2.2.2.1, C.2.2.2.2.2.2.2.2.2.2.2.1, C.2.2.2.2.2.2.2.2.2.2.2.2.1, C.2.2.2.2.2.2.2.2.2.2.2.2.2.1, C.2.2.2.2.2.2.2.2.2.2.2.2.2.2.1, ?_⟩ ?_ (by rw [g1]; exact hz) (by rw [g0]; exact hu) hl
  · intro q' hq'
    rcases List.mem_append.mp hq' with h | h
    · exact C.2.2.2.2.2.2.2.2.2.2.2.2.2.2.2 q' h
    · rw [List.mem_singleton.mp h]
      show xB K < xa K a
      rw [xa_pos ha0]; omega
  · refine xH_put G hH ha0 g1 g2 g3 (by simp) (fun q' hq' => by simp [Array.getElem?_setIfInBounds, Ne.symm hq']) ⟨fun ty h => ?_, fun c' q' h h' => ?_, fun c' nm h h' => ?_⟩
    · rw [g2, ht] at h
      unfold xar at h
      split at h <;> first | omega | cases h
    · have e1 : c' = ci := by rw [g2, ht] at h; omega
      subst e1
      cases hq.symm.trans h'
      refine ⟨cell.setSlot fd.slot (xv K v), by simp [Array.getElem?_setIfInBounds, hsz], a2, a3, fun i' f' hf' => ?_⟩
      by_cases ei : i' = j
      · subst ei
        cases hf.symm.trans hf'
        exact ⟨i, b1, by rw [g5, ← hsl]; simp [Cell.setSlot, Array.getElem?_setIfInBounds, hlt]⟩
      · obtain ⟨i2, c1, c2⟩ := a4 i' f' hf'
        refine ⟨i2, c1, ?_⟩
        have hap := xcl_apart G hqm hf' hf ei c1 b1
        rw [g4 i' f' hf' ei, ← c2, hsl]
        simp [Cell.setSlot, Array.getElem?_setIfInBounds, Ne.symm hap]
    · rw [g2, ht] at h
      have : c' + 20 = ci := by omega
      have h7 := (List.getElem?_eq_some_iff.mp hq).1
      simp [xcl] at h7
      omega
theorem x_putI (G : xG K) {ci j index a : Nat} {q : String × List XF} {f : XF} {x : Int32} (hd : decode (yb y) pc = .ok (.putfield index, 3)) (hq : xcl[ci]? = some q) (hf : q.2[j]? = some f) (hr : f.2 = ("I", false, false)) (hk : Cond.fieldLink (ym y).cls index q.1 f.1 f.2.1 ∈ lw_tbl)
    (ha : a < xz M) (ht : (xt M a).1 = 20 + ci) (k : cA K y (pc + 3) L S (xpi M a j x) o N) : cA K y pc L (.int x :: .ref a :: S) M o N := by
  have hty : xfty f = .int := by unfold xfty; rw [hr]; decide +kernel
  refine x_putV (M1 := xpi M a j x) G hd hq hf hk (Or.inl (by rw [hr])) ha ht (v := .int x) (by rw [hty]; rfl) (by rw [hty]; rfl) rfl rfl rfl (fun b hb => ⟨fun i => by simp [xpi, xi, hb], fun i => rfl, fun i => rfl⟩) (fun i f' _ hi => ?_) ?_ k
  · simp [xfv, xpi, xi, xr, hi]
  · simp [xfv, xpi, xi, hr, xv]
theorem x_putZ (G : xG K) {ci j index a : Nat} {q : String × List XF} {f : XF} {x : Int32} (hd : decode (yb y) pc = .ok (.putfield index, 3)) (hq : xcl[ci]? = some q) (hf : q.2[j]? = some f) (hr : f.2 = ("Z", false, false)) (hk : Cond.fieldLink (ym y).cls index q.1 f.1 f.2.1 ∈ lw_tbl)
    (ha : a < xz M) (ht : (xt M a).1 = 20 + ci) (hx : x = 0 ∨ x = 1) (k : cA K y (pc + 3) L S (xpi M a j x) o N) : cA K y pc L (.int x :: .ref a :: S) M o N := by
  have hty : xfty f = .boolean := by unfold xfty; rw [hr]; decide +kernel
  refine x_putV (M1 := xpi M a j x) G hd hq hf hk (Or.inl (by rw [hr])) ha ht (v := .int x) (by rw [hty]; exact (xnz hx).1) (by rw [hty]; exact (xnz hx).2) rfl rfl rfl (fun b hb => ⟨fun i => by simp [xpi, xi, hb], fun i => rfl, fun i => rfl⟩) (fun i f' _ hi => ?_) ?_ k
  · simp [xfv, xpi, xi, xr, hi]
  · simp [xfv, xpi, xi, hr, xv]
theorem x_putR (G : xG K) {ci j index a b : Nat} {q : String × List XF} {f : XF} (hd : decode (yb y) pc = .ok (.putfield index, 3)) (hq : xcl[ci]? = some q) (hf : q.2[j]? = some f) (hr : f.2.2.2 = true) (hk : Cond.fieldLink (ym y).cls index q.1 f.1 f.2.1 ∈ lw_tbl)
    (hfin : f.2.2.1 = false ∨ (ym y).name = "<init>" ∧ (ym y).cls = q.1) (ha : a < xz M) (ht : (xt M a).1 = 20 + ci) (hn : ∀ r, narrow (xfty f) (.ref r) = .ref r) (hfit : ∀ r, fits (xfty f) (.ref r) = true) (k : cA K y (pc + 3) L S (xpr M a j b) o N) : cA K y pc L (.ref b :: .ref a :: S) M o N := by
  refine x_putV (M1 := xpr M a j b) G hd hq hf hk hfin ha ht (v := .ref b) (hn _) (hfit _) rfl rfl rfl (fun c hc => ⟨fun i => rfl, fun i => by simp [xpr, xr, hc], fun i => rfl⟩) (fun i f' _ hi => ?_) ?_ k
  · simp [xfv, xpr, xi, xr, hi]
  · simp [xfv, xpr, xr, hr, xv, xrf]
end XR
end
section
/-! arrays, and what is made -/
section XR
variable {K : XK} {y : YT} {pc : Nat} {L : XL} {S : List Value} {M N : XM} {o : XO}
theorem x_iaload {a : Nat} {j : Int32} (hd : decode (yb y) pc = .ok (.iaload, 1)) (ha : a < xz M) (ht : (xt M a).1 = 0 ∨ (xt M a).1 = 5) (hj : vp_in j (xt M a).2) (k : cA K y (pc + 1) L (.int (xi M a j.toNatClampNeg) :: S) M o N) : cA K y pc L (.int j :: .ref a :: S) M o N := by
  intro p e R s m args below meth c H locs cells slots ls z0 u0 C hH hz hu hl
  have hW := C.2.2.2.2.2.2.2.2.1
  obtain ⟨cell, a1, a2, a3, a4, a5⟩ := (hH.2.2.1 a ha).1 .int (by rcases ht with h | h <;> rw [h] <;> rfl)
  have hlt : j.toNatClampNeg < (xt M a).2 := Nat.not_le.mp fun q => hj (Or.inr q)
  refine W.iald C.1 C.2.1 a1 (State.isArrayOf_alike hW.alike a2.1) a3 (by rw [a4]; exact hj) (v := .int (xi M a j.toNatClampNeg)) ?_ rfl rfl hd (k p e R s m args below meth c H locs cells slots ls z0 u0 C hH hz hu hl)
  rw [a5 _ hlt]
  unfold xval
  rcases ht with h | h <;> rw [h] <;> rfl
theorem x_baload {a : Nat} {j : Int32} (hd : decode (yb y) pc = .ok (.baload, 1)) (ha : a < xz M) (ht : (xt M a).1 = 1) (hj : vp_in j (xt M a).2) (k : cA K y (pc + 1) L (.int (xi M a j.toNatClampNeg) :: S) M o N) : cA K y pc L (.int j :: .ref a :: S) M o N := by
  intro p e R s m args below meth c H locs cells slots ls z0 u0 C hH hz hu hl
  have hW := C.2.2.2.2.2.2.2.2.1
  obtain ⟨cell, a1, a2, a3, a4, a5⟩ := (hH.2.2.1 a ha).1 .boolean (by rw [ht]; rfl)
  have hlt : j.toNatClampNeg < (xt M a).2 := Nat.not_le.mp fun q => hj (Or.inr q)
  refine W.zald C.1 C.2.1 a1 (State.isArrayOf_alike hW.alike a2.1) a3 (by rw [a4]; exact hj) (v := .int (xi M a j.toNatClampNeg)) ?_ rfl rfl hd (k p e R s m args below meth c H locs cells slots ls z0 u0 C hH hz hu hl)
  rw [a5 _ hlt]
  unfold xval
  rw [ht]; rfl
theorem x_laload {a : Nat} {j : Int32} (hd : decode (yb y) pc = .ok (.laload, 1)) (ha : a < xz M) (ht : (xt M a).1 = 2) (hj : vp_in j (xt M a).2) (k : cA K y (pc + 1) L (.long (xj M a j.toNatClampNeg) :: S) M o N) : cA K y pc L (.int j :: .ref a :: S) M o N := by
  intro p e R s m args below meth c H locs cells slots ls z0 u0 C hH hz hu hl
  have hW := C.2.2.2.2.2.2.2.2.1
  obtain ⟨cell, a1, a2, a3, a4, a5⟩ := (hH.2.2.1 a ha).1 .long (by rw [ht]; rfl)
  have hlt : j.toNatClampNeg < (xt M a).2 := Nat.not_le.mp fun q => hj (Or.inr q)
  refine W.lald C.1 C.2.1 a1 (State.isArrayOf_alike hW.alike a2.1) a3 (by rw [a4]; exact hj) (v := .long (xj M a j.toNatClampNeg)) ?_ rfl rfl hd (k p e R s m args below meth c H locs cells slots ls z0 u0 C hH hz hu hl)
  rw [a5 _ hlt]
  unfold xval
  rw [ht]; rfl
theorem x_aaload {a b : Nat} {j : Int32} {ty : FieldType} (hd : decode (yb y) pc = .ok (.aaload, 1)) (ha : a < xz M) (ht : 10 ≤ (xt M a).1) (hy : xar (xt M a).1 = some ty) (href : ty.isReference = true) (hj : vp_in j (xt M a).2) (hb : xr M a j.toNatClampNeg = some b) (k : cA K y (pc + 1) L (.ref b :: S) M o N) : cA K y pc L (.int j :: .ref a :: S) M o N := by
  intro p e R s m args below meth c H locs cells slots ls z0 u0 C hH hz hu hl
  have hW := C.2.2.2.2.2.2.2.2.1
  obtain ⟨cell, a1, a2, a3, a4, a5⟩ := (hH.2.2.1 a ha).1 ty hy
  have hlt : j.toNatClampNeg < (xt M a).2 := Nat.not_le.mp fun q => hj (Or.inr q)
  refine W.aald C.1 C.2.1 a1 (State.isArrayOf_alike hW.alike a2.1) href a3 (by rw [a4]; exact hj) (v := .ref (xa K b)) ?_ rfl rfl hd (k p e R s m args below meth c H locs cells slots ls z0 u0 C hH hz hu hl)
  rw [a5 _ hlt]
  unfold xval
  rw [if_neg (by omega), hb]; rfl
theorem x_arraylength {a : Nat} {ty : FieldType} {n : Int32} (hd : decode (yb y) pc = .ok (.arraylength, 1)) (ha : a < xz M) (hy : xar (xt M a).1 = some ty) (hn : (xt M a).2.toInt32 = n) (k : cA K y (pc + 1) L (.int n :: S) M o N) : cA K y pc L (.ref a :: S) M o N := by
  intro p e R s m args below meth c H locs cells slots ls z0 u0 C hH hz hu hl
  have hW := C.2.2.2.2.2.2.2.2.1
  obtain ⟨cell, a1, a2, a3, a4, a5⟩ := (hH.2.2.1 a ha).1 ty hy
  exact W.alen C.1 C.2.1 a1 (State.isArrayOf_alike hW.alike a2.1) (by rw [a4]; exact hn) rfl rfl hd (k p e R s m args below meth c H locs cells slots ls z0 u0 C hH hz hu hl)
/-- the invocation, with one place more that was written -/
theorem cC_loc {p : Program} {e : Env} {R : Room} {s : State} {m : MethodId} {meth : Method} {c : Code} {locs : List Loc} {z0 u0 a i : Nat} (C : cC K y p e R s m meth c locs z0 u0) (ha : a ≠ 0) : cC K y p e R s m meth c (locs ++ [⟨xa K a, i⟩]) z0 u0 := by
  refine ⟨C.1, C.2.1, C.2.2.1, C.2.2.2.1, C.2.2.2.2.1, C.2.2.2.2.2.1, C.2.2.2.2.2.2.1, C.2.2.2.2.2.2.2.1, C.2.2.2.2.2.2.2.2.1, C.2.2.2.2.2.2.2.2.2.1, C.2.2.2.2.2.2.2.2.2.2.1, C.2.2.2.2.2.2.2.2.2.2.2.1, C.2.2.2.2.2.2.2.2.2.2.2.2.1, C.2.2.2.2.2.2.2.2.2.2.2.2.2.1, C.2.2.2.2.2.2.2.2.2.2.2.2.2.2.1, fun q' hq' => ?_⟩
  rcases List.mem_append.mp hq' with h | h
  · exact C.2.2.2.2.2.2.2.2.2.2.2.2.2.2.2 q' h
  · rw [List.mem_singleton.mp h]
    show xB K < xa K a
    rw [xa_pos ha]; omega
/-- an array's place is written -/
theorem xH_ast (G : xG K) {M1 : XM} {H J : Heap} {a i : Nat} {ty : FieldType} {cell : Cell} {v : Value} (hH : xH K M H) (ha : a < xz M) (hne : (xt M a).1 ≠ 5) (hsm : (xt M a).1 < 20) (hty : xar (xt M a).1 = some ty) (a1 : H[xa K a]? = some cell) (a2 : xisA (xs K) cell ty) (a3 : cell.vm ≠ .unknown) (a4 : cell.slots.size = (xt M a).2) (a5 : ∀ i, i < (xt M a).2 → cell.slots[i]? = some (xval K M a i))
    (hi : i < (xt M a).2) (g1 : xz M1 = xz M) (g2 : xt M1 = xt M) (g3 : ∀ b, b ≠ a → (∀ i, xi M1 b i = xi M b i) ∧ (∀ i, xr M1 b i = xr M b i) ∧ ∀ i, xj M1 b i = xj M b i) (g4 : ∀ j, j ≠ i → xval K M1 a j = xval K M a j) (g5 : xval K M1 a i = v)
    (e1 : J[xa K a]? = some (cell.setSlot i v)) (e2 : J.size = H.size) (e3 : ∀ q, q ≠ xa K a → J[q]? = H[q]?) : a ≠ 0 ∧ xH K M1 J := by
  have ha0 : a ≠ 0 := fun e0 => by
    have h5 := hH.2.2.2
    rw [e0] at hne
    exact hne h5
  refine ⟨ha0, xH_put G hH ha0 g1 g2 g3 e2 e3 ⟨fun ty' h => ?_, fun c' q' h h' => ?_, fun c' nm h h' => ?_⟩⟩
  · rw [g2] at h
    cases hty.symm.trans h
    refine ⟨cell.setSlot i v, e1, a2, a3, by rw [k2_slotsz, g2]; exact a4, fun j hj => ?_⟩
    rw [g2] at hj
    by_cases ej : j = i
    · subst ej
      rw [g5]
      simp [Cell.setSlot, Array.getElem?_setIfInBounds, a4, hi]
    · rw [g4 j ej, ← a5 j hj]
      simp [Cell.setSlot, Array.getElem?_setIfInBounds, Ne.symm ej]
  · rw [g2] at h; omega
  · rw [g2] at h; omega
theorem x_iastore (G : xG K) {a : Nat} {j x : Int32} (hd : decode (yb y) pc = .ok (.iastore, 1)) (ha : a < xz M) (ht : (xt M a).1 = 0) (hj : vp_in j (xt M a).2) (k : cA K y (pc + 1) L S (xpi M a j.toNatClampNeg x) o N) : cA K y pc L (.int x :: .int j :: .ref a :: S) M o N := by
  intro p e R s m args below meth c H locs cells slots ls z0 u0 C hH hz hu hl
  have hW := C.2.2.2.2.2.2.2.2.1
  have hty : xar (xt M a).1 = some .int := by rw [ht]; rfl
  obtain ⟨cell, a1, a2, a3, a4, a5⟩ := (hH.2.2.1 a ha).1 .int hty
  have hlt : j.toNatClampNeg < (xt M a).2 := Nat.not_le.mp fun q => hj (Or.inr q)
  refine W.iast C.1 C.2.1 a1 (State.isArrayOf_alike hW.alike a2.1) a3 (by rw [a4]; exact hj) rfl rfl hd fun J e1 e2 e3 => ?_
  obtain ⟨ha0, hJ⟩ := xH_ast (M1 := xpi M a j.toNatClampNeg x) G hH ha (by omega) (by omega) hty a1 a2 a3 a4 a5 hlt rfl rfl (fun b hb => ⟨fun i => by simp [xpi, xi, hb], fun i => rfl, fun i => rfl⟩)
    (fun i hi => xval_congr rfl (by simp [xpi, xi, hi]) rfl rfl) (by unfold xval; rw [show xt (xpi M a j.toNatClampNeg x) = xt M from rfl, ht]; simp [xpi, xi]) e1 e2 e3
  exact k p e R s m args below meth c J _ cells slots ls z0 u0 (cC_loc C ha0) hJ hz hu hl
theorem x_bastore (G : xG K) {a : Nat} {j x : Int32} (hd : decode (yb y) pc = .ok (.bastore, 1)) (ha : a < xz M) (ht : (xt M a).1 = 1) (hj : vp_in j (xt M a).2) (hx : x = 0 ∨ x = 1) (k : cA K y (pc + 1) L S (xpi M a j.toNatClampNeg x) o N) : cA K y pc L (.int x :: .int j :: .ref a :: S) M o N := by
  intro p e R s m args below meth c H locs cells slots ls z0 u0 C hH hz hu hl
  have hW := C.2.2.2.2.2.2.2.2.1
  have hty : xar (xt M a).1 = some .boolean := by rw [ht]; rfl
  have hn : narrow .boolean (.int x) = .int x := (xnz hx).1
  obtain ⟨cell, a1, a2, a3, a4, a5⟩ := (hH.2.2.1 a ha).1 .boolean hty
  have hlt : j.toNatClampNeg < (xt M a).2 := Nat.not_le.mp fun q => hj (Or.inr q)
  refine W.zast C.1 C.2.1 a1 (State.isArrayOf_alike hW.alike a2.1) a3 (by rw [a4]; exact hj) rfl rfl hd fun J e1 e2 e3 => ?_
  rw [hn] at e1
  obtain ⟨ha0, hJ⟩ := xH_ast (M1 := xpi M a j.toNatClampNeg x) G hH ha (by omega) (by omega) hty a1 a2 a3 a4 a5 hlt rfl rfl (fun b hb => ⟨fun i => by simp [xpi, xi, hb], fun i => rfl, fun i => rfl⟩)
    (fun i hi => xval_congr rfl (by simp [xpi, xi, hi]) rfl rfl) (by unfold xval; rw [show xt (xpi M a j.toNatClampNeg x) = xt M from rfl, ht]; simp [xpi, xi]) e1 e2 e3
  exact k p e R s m args below meth c J _ cells slots ls z0 u0 (cC_loc C ha0) hJ hz hu hl
theorem x_lastore (G : xG K) {a : Nat} {j : Int32} {x : Int64} (hd : decode (yb y) pc = .ok (.lastore, 1)) (ha : a < xz M) (ht : (xt M a).1 = 2) (hj : vp_in j (xt M a).2) (k : cA K y (pc + 1) L S (xpj M a j.toNatClampNeg x) o N) : cA K y pc L (.long x :: .int j :: .ref a :: S) M o N := by
  intro p e R s m args below meth c H locs cells slots ls z0 u0 C hH hz hu hl
  have hW := C.2.2.2.2.2.2.2.2.1
  have hty : xar (xt M a).1 = some .long := by rw [ht]; rfl
  obtain ⟨cell, a1, a2, a3, a4, a5⟩ := (hH.2.2.1 a ha).1 .long hty
  have hlt : j.toNatClampNeg < (xt M a).2 := Nat.not_le.mp fun q => hj (Or.inr q)
  refine W.last C.1 C.2.1 a1 (State.isArrayOf_alike hW.alike a2.1) a3 (by rw [a4]; exact hj) rfl rfl hd fun J e1 e2 e3 => ?_
  obtain ⟨ha0, hJ⟩ := xH_ast (M1 := xpj M a j.toNatClampNeg x) G hH ha (by omega) (by omega) hty a1 a2 a3 a4 a5 hlt rfl rfl (fun b hb => ⟨fun i => rfl, fun i => rfl, fun i => by simp [xpj, xj, hb]⟩)
    (fun i hi => xval_congr rfl rfl rfl (by simp [xpj, xj, hi])) (by unfold xval; rw [show xt (xpj M a j.toNatClampNeg x) = xt M from rfl, ht]; simp [xpj, xj]) e1 e2 e3
  exact k p e R s m args below meth c J _ cells slots ls z0 u0 (cC_loc C ha0) hJ hz hu hl
/-- a reference into an array: the object is of the array's own class -/
theorem x_aastore (G : xG K) {a b ci : Nat} {j : Int32} {q : String × List XF} (hd : decode (yb y) pc = .ok (.aastore, 1)) (ha : a < xz M) (ht : 10 ≤ (xt M a).1) (hsm : (xt M a).1 < 20) (hq : xcl[ci]? = some q) (hty : xar (xt M a).1 = some (.object q.1)) (hj : vp_in j (xt M a).2) (hb : b < xz M) (htb : (xt M b).1 = 20 + ci)
    (k : cA K y (pc + 1) L S (xpr M a j.toNatClampNeg b) o N) : cA K y pc L (.ref b :: .int j :: .ref a :: S) M o N := by
  intro p e R s m args below meth c H locs cells slots ls z0 u0 C hH hz hu hl
  have hW := C.2.2.2.2.2.2.2.2.1
  obtain ⟨cell, a1, a2, a3, a4, a5⟩ := (hH.2.2.1 a ha).1 _ hty
  obtain ⟨cv, c1, c2, c3, -⟩ := (hH.2.2.1 b hb).2.1 ci q htb hq
  have hlt : j.toNatClampNeg < (xt M a).2 := Nat.not_le.mp fun q => hj (Or.inr q)
  obtain ⟨k0, comp, hk0, hkind0, hfc⟩ := a2.2 _ rfl
  obtain ⟨k1, hk1, he⟩ := hW.alike.2.2 _ _ hk0
  have hkind1 : k1.kind = .array comp (.object q.1) := by rw [he]; exact hkind0
  have hfc' : s.vm.findClass q.1 = some comp := by rw [hW.alike.findClass]; exact hfc
  obtain ⟨kc, hkc⟩ := Vm.classAt_of_findClass hfc'
  have hcls : cv.cls = comp := Option.some.inj (c2.symm.trans hfc)
  refine W.aast C.1 C.2.1 a1 a2.1.1 a3 hk1 hkind1 rfl hkc ⟨fun h => hj (Or.inl h), by rw [a4]; exact hlt⟩ c1 (fun z h => by rw [c3] at h; cases h) (by rw [hcls]; exact hkc) (by rw [hcls]; exact va_asg _ _) rfl rfl hd fun J e1 e2 e3 => ?_
  obtain ⟨ha0, hJ⟩ := xH_ast (M1 := xpr M a j.toNatClampNeg b) G hH ha (by omega) hsm hty a1 a2 a3 a4 a5 hlt rfl rfl (fun b hb => ⟨fun i => rfl, fun i => by simp [xpr, xr, hb], fun i => rfl⟩)
    (fun i hi => xval_congr rfl rfl (by simp [xpr, xr, hi]) rfl) (by unfold xval; rw [show xt (xpr M a j.toNatClampNeg b) = xt M from rfl, if_neg (by omega)]; simp [xpr, xr, xrf]) e1 e2 e3
  exact k p e R s m args below meth c J _ cells slots ls z0 u0 (cC_loc C ha0) hJ hz hu hl
/-- an object is made -/
theorem x_new (G : xG K) {ci index : Nat} {q : String × List XF} (hd : decode (yb y) pc = .ok (.new index, 3)) (hq : xcl[ci]? = some q) (hk : Cond.classLink (ym y).cls index q.1 ∈ lw_tbl) (hini : Cond.initialized q.1 ∈ lw_tbl) (hz1 : xz M < ZM) (hu1 : xu M + q.2.length ≤ UM)
    (k : cA K y (pc + 3) L (.ref (xz M) :: S) (xnw M (20 + ci) 0 q.2.length) o N) : cA K y pc L S M o N := by
  intro p e R s m args below meth c H locs cells slots ls z0 u0 C hH hz hu hl
  have hW := C.2.2.2.2.2.2.2.2.1
  have hqm := List.mem_of_getElem? hq
  have hzR := C.2.2.2.2.2.2.2.2.2.2.2.1
  have huR := C.2.2.2.2.2.2.2.2.2.2.2.2.1
  have hz0 := C.2.2.2.2.2.2.2.2.2.2.2.2.2.2.1
  have hne : xz M ≠ 0 := by omega
  have hins := xw G rfl (xcl_i q hqm) hW args
  obtain ⟨cC, kC', hfc, hkC', hkind, -⟩ := Cond.instantiable_spec hins
  refine W.newcK C.1 C.2.1 C.2.2.2.2.2.2.2.1 (xw G rfl hk hW args) hins (xw G rfl hini hW args) rfl hd (by omega) (by omega) hfc (h := xa K (xz M)) (by rw [hH.1, xa_pos hne]) fun J kC hkC e1 e2 e3 => ?_
  refine k p e R s m args below meth c J locs (cells + 1) (slots + q.2.length) ls z0 u0 C ?_ (by show cells + 1 + z0 = xz M + 1 ∧ xz M + 1 ≤ ZM; omega) (by show slots + q.2.length + u0 = xu M + q.2.length ∧ xu M + q.2.length ≤ UM; omega) hl
  have hsz : H.size = xa K (xz M) := by rw [hH.1, xa_pos hne]
  refine xH_new G hH hne (by rw [e2, hsz]) (fun z hz' => e3 z (by rw [← hsz]; exact hz')) ⟨fun ty h => ?_, fun c' q' h h' => ?_, fun c' nm h h' => ?_⟩
  · have h0 : xar (20 + ci) = some ty := by simpa [xnw, xt] using h
    unfold xar at h0
    split at h0 <;> first | omega | cases h0
  · have h0 : 20 + ci = 20 + c' := by simpa [xnw, xt] using h
    have h1 : c' = ci := by omega
    subst h1
    cases hq.symm.trans h'
    have hal := hW.alike
    refine ⟨blank cC kC, e1, by show _ = some cC; rw [← hal.findClass]; exact hfc, rfl, fun j f hf => ?_⟩
    have hfm := List.mem_of_getElem? hf
    have hl0 := xcl_lay' G hqm hfm hW args
    obtain ⟨i, cf, kf, fi, fd, hi, hsl⟩ := u_found hl0
    have h3 := (u_facts hfc hkC hl0 hi).2.2
    rw [(State.fieldFound?_type hi (xcl_t q hqm f hfm).1).2] at h3
    refine ⟨i, slotIs_moved hal.symm ⟨cf, kf, fi, fd, hi, hsl⟩, ?_⟩
    rw [← hsl, k2_blank h3, (xcl_t q hqm f hfm).2]
    simp [xfv, xnw, xr, xi, xrf]
  · have h0 : 20 + ci = 40 + c' := by simpa [xnw, xt] using h
    have h7 := (List.getElem?_eq_some_iff.mp hq).1
    simp [xcl] at h7
    omega
/-- an array of ints, booleans or longs is made -/
theorem x_newarray (G : xG K) {at0 : ArrayType} {kd n : Nat} {v : Int32} {ty : FieldType} (hd : decode (yb y) pc = .ok (.newarray at0, 2)) (hty : newarray.typeOf at0 = ty) (hw : Cond.arrayClass ty ∈ lw_tbl) (har : xar kd = some ty) (hkd : kd < 3) (hn : ¬ v < 0) (hv : v.toNatClampNeg = n) (hb : n * componentBytes ty ≤ 536870912) (hz1 : xz M < ZM) (hu1 : xu M + n ≤ UM)
    (k : cA K y (pc + 2) L (.ref (xz M) :: S) (xnw M kd n n) o N) : cA K y pc L (.int v :: S) M o N := by
  subst hty
  intro p e R s m args below meth c H locs cells slots ls z0 u0 C hH hz hu hl
  have hW := C.2.2.2.2.2.2.2.2.1
  have hzR := C.2.2.2.2.2.2.2.2.2.2.2.1
  have huR := C.2.2.2.2.2.2.2.2.2.2.2.2.1
  have hz0 := C.2.2.2.2.2.2.2.2.2.2.2.2.2.2.1
  have hne : xz M ≠ 0 := by omega
  have hsz : H.size = xa K (xz M) := by rw [hH.1, xa_pos hne]
  refine W.newaK C.1 C.2.1 (xwA G hw hW args) rfl hd rfl hn hv hb (by omega) (by omega) (h := xa K (xz M)) hsz fun J cA e1 e2 e3 hA => ?_
  refine k p e R s m args below meth c J locs (cells + 1) (slots + n) ls z0 u0 C ?_ (by show cells + 1 + z0 = xz M + 1 ∧ xz M + 1 ≤ ZM; omega) (by show slots + n + u0 = xu M + n ∧ xu M + n ≤ UM; omega) hl
  refine xH_new G hH hne (by rw [e2, hsz]) (fun z hz' => e3 z (by rw [← hsz]; exact hz')) ⟨fun ty h => ?_, fun c' q' h h' => ?_, fun c' nm h h' => ?_⟩
  · have h0 : xar kd = some ty := by simpa [xnw, xt] using h
    cases har.symm.trans h0
    have h2 : (xt (xnw M kd n n) (xz M)).2 = n := by simp [xnw, xt]
    have h1 : (xt (xnw M kd n n) (xz M)).1 = kd := by simp [xnw, xt]
    refine ⟨_, e1, ⟨State.isArrayOf_alike hW.alike.symm (hA _ _), fun nm hnm => ?_⟩, fun h => (by cases h), by rw [h2]; simp [arrV], fun i hi => ?_⟩
    · rw [hnm] at har
      unfold xar at har
      split at har <;> first | omega | cases har
    · rw [h2] at hi
      have h3 : defaultValue (newarray.typeOf at0) = xval K (xnw M kd n n) (xz M) i := by
        unfold xval
        rw [h1, if_pos (by omega)]
        have : kd = 0 ∨ kd = 1 ∨ kd = 2 := by omega
        rcases this with rfl | rfl | rfl
        · have e5 : newarray.typeOf at0 = .int := (Option.some.inj har).symm
          rw [e5]; simp [xnw, xi, defaultValue]
        · have e5 : newarray.typeOf at0 = .boolean := (Option.some.inj har).symm
          rw [e5]; simp [xnw, xi, defaultValue]
        · have e5 : newarray.typeOf at0 = .long := (Option.some.inj har).symm
          rw [e5]; simp [xnw, xj, defaultValue]
      rw [← h3]
      simp [arrV, hi]
  · have h0 : kd = 20 + c' := by simpa [xnw, xt] using h
    omega
  · have h0 : kd = 40 + c' := by simpa [xnw, xt] using h
    omega
/-- an array of objects is made -/
theorem x_anewarray (G : xG K) {index kd n : Nat} {v : Int32} {nm : String} (hd : decode (yb y) pc = .ok (.anewarray index, 3)) (hk : Cond.classLink (ym y).cls index nm ∈ lw_tbl) (hov : Cond.arrayOver (.object nm) ∈ lw_tbl) (har : xar kd = some (.object nm)) (hk1 : 10 ≤ kd) (hk2 : kd < 20) (hn : ¬ v < 0) (hv : v.toNatClampNeg = n) (hb : n * 4 ≤ 536870912) (hz1 : xz M < ZM) (hu1 : xu M + n ≤ UM)
    (k : cA K y (pc + 3) L (.ref (xz M) :: S) (xnw M kd n n) o N) : cA K y pc L (.int v :: S) M o N := by
  subst hv
  intro p e R s m args below meth c H locs cells slots ls z0 u0 C hH hz hu hl
  have hW := C.2.2.2.2.2.2.2.2.1
  have hzR := C.2.2.2.2.2.2.2.2.2.2.2.1
  have huR := C.2.2.2.2.2.2.2.2.2.2.2.2.1
  have hz0 := C.2.2.2.2.2.2.2.2.2.2.2.2.2.2.1
  have hne : xz M ≠ 0 := by omega
  have hsz : H.size = xa K (xz M) := by rw [hH.1, xa_pos hne]
  refine W.anew C.1 C.2.1 C.2.2.2.2.2.2.2.1 (xw G rfl hk hW args) (va_AO.use (va_AO.moved hW.alike (va_AO.of (G.2.2.1 _ hov)))) rfl hd rfl hn hb (by omega) (by omega) fun cA kA comp f1 f2 f3 f4 => ?_
  rw [hsz]
  refine k p e R s m args below meth c _ locs (cells + 1) (slots + v.toNatClampNeg) ls z0 u0 C ?_ (by show cells + 1 + z0 = xz M + 1 ∧ xz M + 1 ≤ ZM; omega) (by show slots + v.toNatClampNeg + u0 = xu M + v.toNatClampNeg ∧ xu M + v.toNatClampNeg ≤ UM; omega) hl
  refine xH_new G hH hne (by simp) (fun z hz' => by rw [Array.getElem?_push, if_neg (Nat.ne_of_lt hz')]) ⟨fun ty h => ?_, fun c' q' h h' => ?_, fun c' nm h h' => ?_⟩
  · have h0 : xar kd = some ty := by simpa [xnw, xt] using h
    cases har.symm.trans h0
    have h2 : (xt (xnw M kd v.toNatClampNeg v.toNatClampNeg) (xz M)).2 = v.toNatClampNeg := by simp [xnw, xt]
    have h1 : (xt (xnw M kd v.toNatClampNeg v.toNatClampNeg) (xz M)).1 = kd := by simp [xnw, xt]
    have hal := hW.alike.symm
    obtain ⟨k2, hk2', he⟩ := hal.2.2 _ _ f2
    have hkd2 : k2.kind = .array comp (.object nm) := by rw [he]; exact f3
    refine ⟨{ cls := cA, slots := Array.replicate v.toNatClampNeg .null, vm := .none }, by rw [← hsz]; simp, ⟨⟨fun z h => (by cases h), k2, hk2', comp, hkd2⟩, fun nm' hnm => ?_⟩, fun h => (by cases h), by rw [h2]; simp, fun i hi => ?_⟩
    · cases hnm
      exact ⟨k2, comp, hk2', hkd2, by rw [← hW.alike.findClass]; exact f4⟩
    · rw [h2] at hi
      unfold xval
      rw [h1, if_neg (by omega)]
      simp [xnw, xr, xrf, hi]
  · have h0 : kd = 20 + c' := by simpa [xnw, xt] using h
    omega
  · have h0 : kd = 40 + c' := by simpa [xnw, xt] using h
    omega
/-- Object's constructor -/
theorem x_objInit (G : xG K) {a index : Nat} (hd : decode (yb y) pc = .ok (.invokespecial index, 3)) (hk : Cond.methodLink (ym y).cls index Lib.objectInit ∈ lw_tbl) (hi : Cond.instanceMethod Lib.objectInit ∈ lw_tbl) (hc : Cond.code Lib.objectInit ⟨#[0xb1]⟩ 1 none ∈ lw_tbl) (hfr : 1 ≤ yf y) (hlo : (S.map fun v => v.category).sum + 12 ≤ yl y)
    (k : cA K y (pc + 3) L S M o N) : cA K y pc L (.ref a :: S) M o N := by
  intro p e R s m args below meth c H locs cells slots ls z0 u0 C hH hz hu hl
  have hW := C.2.2.2.2.2.2.2.2.1
  have hcat : ((S.map (xv K)).map fun v => v.category).sum = (S.map fun v => v.category).sum := by
    congr 1
    simp [xv_cat]
  refine W.objInit C.1 C.2.1 C.2.2.2.2.2.2.2.1 (xw G rfl hk hW args) (xw G rfl hi hW args) (xw G rfl hc hW args) rfl (hl.1.1.trans C.2.2.1.symm) rfl hd (Nat.le_trans hfr C.2.2.2.2.2.2.2.2.2.1) ?_ (k p e R s m args below meth c H locs cells slots ls z0 u0 C hH hz hu hl)
  have h1 := C.2.2.2.2.2.2.2.2.2.2.1
  rw [hcat]
  show 2 * 0 + _ + 12 ≤ R.locals
  omega
end XR
end
section
section XR
variable {K : XK} {y : YT} {pc : Nat} {L : XL} {S : List Value} {M N : XM} {o : XO}
/-- the exception a lies over the frame at pc -/
def cT (K : XK) (y : YT) (pc : Nat) (L : XL) (a : Nat) (M : XM) (o : XO) (N : XM) : Prop :=
  ∀ (p : Program) (e : Env) (R : Room) (s : State) (m : MethodId) (args : Array Value) (below : List Frame) (meth : Method) (c : Code) (locs : List Loc) (cells slots : Nat) (ls : Array Slot) (st : List Value) (z0 u0 : Nat) (T : State),
    cC K y p e R s m meth c locs z0 u0 → xH K M T.heap → (cells + z0 = xz M ∧ xz M ≤ ZM) → (slots + u0 = xu M ∧ xu M ≤ UM) → xL K y ls L → Stand p (xl K) e R s m args below meth c T locs cells slots →
    ∃ t, Steps p.tables e below ((T.setTop (F0 m pc ls st)).pushFrame (.throwing (xa K a))) t ∧ xQ K below s z0 u0 o N t
/-- no handler of the method's own -/
theorem cT_out {a : Nat} (h : (yh y).all (fun q => !(decide (q.1 ≤ pc) && decide (pc < q.2.1))) = true) : cT K y pc L a M (.inr a) M := by
  intro p e R s m args below meth c locs cells slots ls st z0 u0 T C hH hz hu hl X
  have hlocks : meth.locks = false := C.2.2.2.2.1
  obtain ⟨h1, h2, h3, h4, h5⟩ := X.leaveThrown (xa K a) (g := F0 m pc ls st) rfl rfl rfl (fun x hx => by
    rw [C.2.2.2.2.2.1] at hx
    obtain ⟨q, hq, rfl⟩ := List.mem_map.mp hx
    have h' := List.all_eq_true.mp h q hq
    rw [Bool.not_eq_true'] at h'
    exact h')
  refine ⟨_, h1, h2, h3, hH, h4, ⟨by omega, by omega, hz.2, hu.2⟩, locs, ?_, C.2.2.2.2.2.2.2.2.2.2.2.2.2.2.2⟩
  rw [show xz M - z0 = cells by omega, show xu M - u0 = slots by omega]
  exact h5
/-- the instruction at pc calls y2 with A; S' is the stack ahead of it, S what stays -/
def xSite (K : XK) (y : YT) (pc : Nat) (y2 : YT) (A S' S : List Value) (M : XM) : Prop :=
  ∀ (p : Program) (e : Env) (R : Room) (s : State) (m : MethodId) (args : Array Value) (below : List Frame) (meth : Method) (c : Code) (locs : List Loc) (cells slots : Nat) (ls : Array Slot) (z0 u0 : Nat) (T : State),
    cC K y p e R s m meth c locs z0 u0 → xH K M T.heap → Stand p (xl K) e R s m args below meth c T locs cells slots →
    ∃ (vm₁ : Vm) (mk : MethodId) (ig : Instr), s.methodNamed? (ym y2) = some mk ∧ decode c.code pc = .ok (ig, 3) ∧ s.WarmedH vm₁ ∧ Stand p (xl K) e R s m args below meth c (T.setVm vm₁) locs cells slots ∧
      ∀ target, (∀ acts, Steps p.tables e below (doInvoke e ((T.setVm vm₁).setTop (F0 m pc ls (S.map (xv K)))) acts mk (A.map (xv K)).toArray).1 target) → Steps p.tables e below (T.setTop (F0 m pc ls (S'.map (xv K)))) target
theorem x_call (G : xG K) {y2 : YT} {A S' : List Value} {o1 : XO} {M1 : XM} (hs : xSite K y pc y2 A S' S M) (hM : Ct K y2 A M o1 M1) (hfr : yf y2 + 1 ≤ yf y) (hlo : (S.map fun v => v.category).sum + (yn y2 + 11) + yl y2 ≤ yl y) (hw2 : yw y2 ∈ lw_tbl) (hini : Cond.initialized (ym y2).cls ∈ lw_tbl)
    (hr : ∀ v, o1 = .inl v → cA K y (pc + 3) L (v.toList ++ S) M1 o N) (ht : ∀ a, o1 = .inr a → cT K y pc L a M1 o N) : cA K y pc L S' M o N := by
  intro p e R s m args below meth c H locs cells slots ls z0 u0 C hH hz hu hl
  intro T hT X
  subst hT
  have hW := C.2.2.2.2.2.2.2.2.1
  obtain ⟨vm₁, mk, ig, hn, hdg, hW₁, X₁, st⟩ := hs p e R s m args below meth c locs cells slots ls z0 u0 T C hH X
  have hWU : (xs K).WarmedH (T.setVm vm₁).vm := State.WarmedH.trans hW hW₁
  have hn₁ : (T.setVm vm₁).methodNamed? (ym y2) = some mk := X₁.named hn
  have hword := xw G (yw_word y2) hw2 hWU #[]
  obtain ⟨methY, cY, b1, b2, b3, b4, b5, b6, b7, b8⟩ := yw_spec hn₁ hword
  obtain ⟨kY, hkY, -⟩ := className_of_methodNamed hn₁
  have hinitY : kY.init = .initialized := Cond.initialized_spec (args := #[]) (findClass_of_methodNamed hn₁) hkY (xw G rfl hini hWU #[])
  have hcat : ((S.map (xv K)).map fun v => v.category).sum = (S.map fun v => v.category).sum := by
    congr 1
    simp [xv_cat]
  have hz0 := C.2.2.2.2.2.2.2.2.2.2.2.2.2.2.1
  have hzR := C.2.2.2.2.2.2.2.2.2.2.2.1
  have huR := C.2.2.2.2.2.2.2.2.2.2.2.2.1
  have hfR := C.2.2.2.2.2.2.2.2.2.1
  have hlR := C.2.2.2.2.2.2.2.2.2.2.1
  obtain ⟨oc, t, Lc, k1, n1, V, hq, ⟨hk1, hn1, hLc⟩, hVh, hVv, XV, sr, stt⟩ := xm_call (g := F0 m pc ls (S.map (xv K))) (a := (A.map (xv K)).toArray) X₁ hM rfl (hl.1.1.trans C.2.2.1.symm) hdg hn₁ b1 b2 hkY hinitY
    (by show yf y2 + 1 ≤ R.frames; omega) (by rw [hcat, b4]; show 2 * 0 + _ + (yn y2 + 11) + yl y2 ≤ R.locals; omega) (by show cells + (ZM - xz M) ≤ R.cells; omega) (by show slots + (UM - xu M) ≤ R.slots; omega)
    (atoms_intro fun w hw => by rw [List.mem_singleton.mp hw]; exact xw G (yw_word y2) hw2 hWU _) ⟨rfl, hWU, hH, hz.2, hu.2, by omega⟩
    (L0 := fun _ _ L k n => k = xz M1 - xz M ∧ n = xu M1 - xu M ∧ ∀ q ∈ L, xB K < q.base) (fun o t hq => by
      obtain ⟨-, -, q1, -, L, q2, q3⟩ := hq
      exact ⟨L, _, _, q1, q2, rfl, rfl, q3⟩)
  obtain ⟨ho, hH1, -, hm, -⟩ := hq
  have C' : cC K y p e R s m meth c (locs ++ Lc) z0 u0 := by
    refine ⟨C.1, C.2.1, C.2.2.1, C.2.2.2.1, C.2.2.2.2.1, C.2.2.2.2.2.1, C.2.2.2.2.2.2.1, C.2.2.2.2.2.2.2.1, C.2.2.2.2.2.2.2.2.1, C.2.2.2.2.2.2.2.2.2.1, C.2.2.2.2.2.2.2.2.2.2.1, C.2.2.2.2.2.2.2.2.2.2.2.1, C.2.2.2.2.2.2.2.2.2.2.2.2.1, C.2.2.2.2.2.2.2.2.2.2.2.2.2.1, C.2.2.2.2.2.2.2.2.2.2.2.2.2.2.1, fun q' hq' => ?_⟩
    rcases List.mem_append.mp hq' with h | h
    · exact C.2.2.2.2.2.2.2.2.2.2.2.2.2.2.2 q' h
    · exact hLc q' h
  have hz' : cells + k1 + z0 = xz M1 ∧ xz M1 ≤ ZM := by omega
  have hu' : slots + n1 + u0 = xu M1 ∧ xu M1 ≤ UM := by omega
  rw [← hVh] at hH1
  cases o1 with
  | inl v =>
    obtain ⟨t2, a1, b1⟩ := hr v rfl p e R s m args below meth c V.heap (locs ++ Lc) (cells + k1) (slots + n1) ls z0 u0 C' hH1 hz' hu' hl V rfl XV
    refine ⟨t2, st t2 fun acts => ?_, b1⟩
    rw [doInvoke_state]
    refine (sr _ ho).trans ?_
    have e1 : (Option.map (xv K) v).toList ++ S.map (xv K) = (v.toList ++ S).map (xv K) := by cases v <;> rfl
    show Steps p.tables e below (V.setTop (F0 m (pc + 3) ls ((Option.map (xv K) v).toList ++ S.map (xv K)))) t2
    rw [e1]
    exact a1
  | inr a =>
    obtain ⟨t2, a1, b1⟩ := ht a rfl p e R s m args below meth c (locs ++ Lc) (cells + k1) (slots + n1) ls (S.map (xv K)) z0 u0 V C' hH1 hz' hu' hl XV
    refine ⟨t2, st t2 fun acts => ?_, b1⟩
    rw [doInvoke_state]
    exact (stt _ ho).trans a1
/-! the sites -/
theorem xs_len {x : MethodName} {n : Nat} (h : (parseMethodDescriptor x.desc).map (fun d => d.parameters.length) = some n) {As : List Value} (hl : As.length = n) : ∀ sig, parseMethodDescriptor x.desc = some sig → As.length = sig.parameters.length := by
  intro sig hs
  rw [hs] at h
  rw [hl]
  exact (Option.some.inj h).symm
theorem xs_map (As : List Value) (K : XK) (f : Value → Value) : (As.reverse ++ S).map f = (As.map f).reverse ++ S.map f := by simp
theorem x_siteV (G : xG K) {y2 : YT} {As : List Value} {a ci index n : Nat} {q : String × List XF} (hd : decode (yb y) pc = .ok (.invokevirtual index, 3)) (hq : xcl[ci]? = some q) (hk : Cond.methodLink (ym y).cls index (ym y2) ∈ lw_tbl) (hi : Cond.instanceMethod (ym y2) ∈ lw_tbl) (hse : Cond.selects q.1 (ym y2) (ym y2) ∈ lw_tbl) (hw2 : yw y2 ∈ lw_tbl)
    (hx : (ym y2).cls ≠ "java/lang/invoke/MethodHandle" ∧ (ym y2).cls ≠ "java/lang/invoke/VarHandle") (hn : (parseMethodDescriptor (ym y2).desc).map (fun d => d.parameters.length) = some n) (hl : As.length = n) (ha : a < xz M) (ht : (xt M a).1 = 20 + ci) :
    xSite K y pc y2 (.ref a :: As) (As.reverse ++ .ref a :: S) S M := by
  intro p e R s m args below meth c locs cells slots ls z0 u0 T C hH X
  have hW := C.2.2.2.2.2.2.2.2.1
  obtain ⟨mk, methM, hnamed, hmethM, hstM, habM⟩ := Cond.instanceMethod_spec (xw G rfl hi hW args)
  obtain ⟨methM', cM, hmethM', -, -, -, -, -, -, hsigM⟩ := yw_spec hnamed (xw G (yw_word y2) hw2 hW args)
  cases hmethM.symm.trans hmethM'
  obtain ⟨c2, r2, m2, q1, q2, q3, q4, kP, hkP, hkPi⟩ := Cond.selects_spec (xw G rfl hse hW args)
  obtain ⟨cell, a1, a2, a3, -⟩ := (hH.2.2.1 a ha).2.1 ci q ht hq
  have hcls : s.vm.findClass q.1 = some cell.cls := by rw [hW.alike.findClass]; exact a2
  cases hcls.symm.trans q1
  cases (State.methodFound?_of_named hnamed hx).symm.trans q2
  cases hnamed.symm.trans q3
  have hselP : selectMethod e.platform s.vm cell.cls mk = .method mk := by rw [Launch.admits_selectMethod X.admits]; exact q4
  have hdg : decode c.code pc = .ok (.invokevirtual index, 3) := by rw [C.2.1]; exact hd
  obtain ⟨vm₁, X₁, hstep₁⟩ := X.invokevirtual C.1 C.2.2.2.2.2.2.2.1 (xw G rfl hk hW args) hnamed hmethM hstM hkP hkPi hx (a := xa K a) (cell := cell) a1
    (fun z h => by rw [a3] at h; cases h) hselP hmethM habM hkP hkPi (g := F0 m pc ls ((As.reverse ++ .ref a :: S).map (xv K))) rfl (argsL := As.map (xv K)) (rest := S.map (xv K)) (by rw [List.length_map]; exact xs_len hn hl _ hsigM) (by simp [xv]) hdg
  exact ⟨vm₁, mk, _, hnamed, hdg, X₁.warmed, X₁, fun target h => hstep₁ target h⟩
theorem x_siteS (G : xG K) {y2 : YT} {As : List Value} {index n : Nat} (hd : decode (yb y) pc = .ok (.invokestatic index, 3)) (hk : Cond.methodLink (ym y).cls index (ym y2) ∈ lw_tbl) (hi : Cond.static (ym y2) ∈ lw_tbl) (hini : Cond.initialized (ym y2).cls ∈ lw_tbl) (hw2 : yw y2 ∈ lw_tbl)
    (hx : (ym y2).cls ≠ "java/lang/invoke/MethodHandle" ∧ (ym y2).cls ≠ "java/lang/invoke/VarHandle") (hn : (parseMethodDescriptor (ym y2).desc).map (fun d => d.parameters.length) = some n) (hl : As.length = n) :
    xSite K y pc y2 As (As.reverse ++ S) S M := by
  intro p e R s m args below meth c locs cells slots ls z0 u0 T C hH X
  have hW := C.2.2.2.2.2.2.2.2.1
  obtain ⟨mk, hnamed⟩ := yw_named (xw G (yw_word y2) hw2 hW args)
  obtain ⟨methM, cM, hmethM, -, -, -, -, -, -, hsigM⟩ := yw_spec hnamed (xw G (yw_word y2) hw2 hW args)
  have hstatic : methM.isStatic = true := Cond.static_spec hnamed hmethM (xw G rfl hi hW args)
  obtain ⟨kP, hkP, -⟩ := className_of_methodNamed hnamed
  have hinitP : kP.init = .initialized := Cond.initialized_spec (findClass_of_methodNamed hnamed) hkP (xw G rfl hini hW args)
  have hdg : decode c.code pc = .ok (.invokestatic index, 3) := by rw [C.2.1]; exact hd
  obtain ⟨vm₁, X₁, hstep₁⟩ := X.invokestatic C.1 C.2.2.2.2.2.2.2.1 (xw G rfl hk hW args) hnamed hmethM hstatic hkP hinitP hx (g := F0 m pc ls ((As.reverse ++ S).map (xv K))) rfl (argsL := As.map (xv K)) (rest := S.map (xv K)) (by rw [List.length_map]; exact xs_len hn hl _ hsigM) (by simp) hdg
  exact ⟨vm₁, mk, _, hnamed, hdg, X₁.warmed, X₁, fun target h => hstep₁ target h⟩
theorem x_siteSN (G : xG K) {y2 : YT} {As : List Value} {index n : Nat} {host : String} (hd : decode (yb y) pc = .ok (.invokestatic index, 3)) (hk : Cond.methodLinkNest (ym y).cls index (ym y2) host ∈ lw_tbl) (hi : Cond.static (ym y2) ∈ lw_tbl) (hini : Cond.initialized (ym y2).cls ∈ lw_tbl) (hw2 : yw y2 ∈ lw_tbl)
    (hx : (ym y2).cls ≠ "java/lang/invoke/MethodHandle" ∧ (ym y2).cls ≠ "java/lang/invoke/VarHandle") (hn : (parseMethodDescriptor (ym y2).desc).map (fun d => d.parameters.length) = some n) (hl : As.length = n) :
    xSite K y pc y2 As (As.reverse ++ S) S M := by
  intro p e R s m args below meth c locs cells slots ls z0 u0 T C hH X
  have hW := C.2.2.2.2.2.2.2.2.1
  obtain ⟨mk, hnamed⟩ := yw_named (xw G (yw_word y2) hw2 hW args)
  obtain ⟨methM, cM, hmethM, -, -, -, -, -, -, hsigM⟩ := yw_spec hnamed (xw G (yw_word y2) hw2 hW args)
  have hstatic : methM.isStatic = true := Cond.static_spec hnamed hmethM (xw G rfl hi hW args)
  obtain ⟨kP, hkP, -⟩ := className_of_methodNamed hnamed
  have hinitP : kP.init = .initialized := Cond.initialized_spec (findClass_of_methodNamed hnamed) hkP (xw G rfl hini hW args)
  have hdg : decode c.code pc = .ok (.invokestatic index, 3) := by rw [C.2.1]; exact hd
  obtain ⟨vm₁, X₁, hstep₁⟩ := X.invokestaticNest C.1 C.2.2.2.2.2.2.2.1 (xwN G hk hW args) hnamed hmethM hstatic hkP hinitP hx (g := F0 m pc ls ((As.reverse ++ S).map (xv K))) rfl (argsL := As.map (xv K)) (rest := S.map (xv K)) (by rw [List.length_map]; exact xs_len hn hl _ hsigM) (by simp) hdg
  exact ⟨vm₁, mk, _, hnamed, hdg, X₁.warmed, X₁, fun target h => hstep₁ target h⟩
theorem x_siteI (G : xG K) {y2 : YT} {As : List Value} {a index n : Nat} (hd : decode (yb y) pc = .ok (.invokespecial index, 3)) (hy1 : (ym y2).name = "<init>") (hk : Cond.methodLink (ym y).cls index (ym y2) ∈ lw_tbl) (hi : Cond.instanceMethod (ym y2) ∈ lw_tbl) (hw2 : Cond.code (ym y2) (yb y2) (yn y2) none ∈ lw_tbl)
    (hx : (ym y2).cls ≠ "java/lang/invoke/MethodHandle" ∧ (ym y2).cls ≠ "java/lang/invoke/VarHandle") (hn : (parseMethodDescriptor (ym y2).desc).map (fun d => d.parameters.length) = some n) (hl : As.length = n) :
    xSite K y pc y2 (.ref a :: As) (As.reverse ++ .ref a :: S) S M := by
  intro p e R s m args below meth c locs cells slots ls z0 u0 T C hH X
  have hW := C.2.2.2.2.2.2.2.2.1
  have hpl : e.platform.magicAccessors = ({} : Platform).magicAccessors := by rw [X.admits.platform]
  have hdg : decode c.code pc = .ok (.invokespecial index, 3) := by rw [C.2.1]; exact hd
  obtain ⟨mk, methM, cM, kP, vm₁, hnamed, -, -, -, -, -, -, -, hW₁, hstep₁⟩ := Steps.initColdArgs (e := e) X.here C.1 X.warmed hpl C.2.2.2.2.2.2.2.1 hy1 hx (xw G rfl hk hW args) (xw G rfl hi hW args) (xw G rfl hw2 hW args) (f := F0 m pc ls ((As.reverse ++ .ref a :: S).map (xv K))) rfl (a := xa K a) (argsL := As.map (xv K)) (rest := S.map (xv K)) (fun sig hs => by rw [List.length_map]; exact xs_len hn hl _ hs) (by simp [xv]) hdg
  exact ⟨vm₁, mk, _, hnamed, hdg, hW₁, X.noted hW₁, fun target h => hstep₁ target h⟩
theorem x_siteIN (G : xG K) {y2 : YT} {As : List Value} {a index n : Nat} {host : String} (hd : decode (yb y) pc = .ok (.invokespecial index, 3)) (hy1 : (ym y2).name = "<init>") (hk : Cond.methodLinkNest (ym y).cls index (ym y2) host ∈ lw_tbl) (hi : Cond.instanceMethod (ym y2) ∈ lw_tbl) (hw2 : Cond.code (ym y2) (yb y2) (yn y2) none ∈ lw_tbl)
    (hx : (ym y2).cls ≠ "java/lang/invoke/MethodHandle" ∧ (ym y2).cls ≠ "java/lang/invoke/VarHandle") (hn : (parseMethodDescriptor (ym y2).desc).map (fun d => d.parameters.length) = some n) (hl : As.length = n) :
    xSite K y pc y2 (.ref a :: As) (As.reverse ++ .ref a :: S) S M := by
  intro p e R s m args below meth c locs cells slots ls z0 u0 T C hH X
  have hW := C.2.2.2.2.2.2.2.2.1
  have hpl : e.platform.magicAccessors = ({} : Platform).magicAccessors := by rw [X.admits.platform]
  have hdg : decode c.code pc = .ok (.invokespecial index, 3) := by rw [C.2.1]; exact hd
  obtain ⟨mk, methM, cM, kP, vm₁, hnamed, -, -, -, -, -, -, -, hW₁, hstep₁⟩ := Steps.initColdArgsNest (e := e) X.here C.1 X.warmed hpl C.2.2.2.2.2.2.2.1 hy1 hx (xwN G hk hW args) (xw G rfl hi hW args) (xw G rfl hw2 hW args) (f := F0 m pc ls ((As.reverse ++ .ref a :: S).map (xv K))) rfl (a := xa K a) (argsL := As.map (xv K)) (rest := S.map (xv K)) (fun sig hs => by rw [List.length_map]; exact xs_len hn hl _ hs) (by simp [xv]) hdg
  exact ⟨vm₁, mk, _, hnamed, hdg, hW₁, X.noted hW₁, fun target h => hstep₁ target h⟩
end XR
end
section
/-! a throw: new, dup, ldc, the constructor, athrow -/
def xUp : List String := ["java/lang/RuntimeException", "java/lang/Exception"]
def xthA (X : String) : List Cond := Bundle.throwableAtoms ++ Bundle.throwableSAtoms ++ Bundle.chainSAtoms X xUp
def xthB (X : String) : List Cond :=
  [.instantiable X 6, .castable X X, .selects X Bundle.tFill0 Bundle.tFill0, .selects X Bundle.tFill Bundle.tFill,
   .lays X Bundle.tN "cause" "Ljava/lang/Throwable;", .lays X Bundle.tN "stackTrace" Bundle.steD, .lays X Bundle.tN "suppressedExceptions" Bundle.listD, .lays X Bundle.tN "detailMessage" "Ljava/lang/String;"]
def xthC (X : String) : List Cond := [.fieldLink Bundle.tN 198 Bundle.tN "backtrace" "Ljava/lang/Object;", .lays Bundle.tN Bundle.tN "backtrace" "Ljava/lang/Object;", .lays X Bundle.tN "backtrace" "Ljava/lang/Object;"]
def xthS : List Cond := [.laysStatic Bundle.tN "UNASSIGNED_STACK" Bundle.steD, .laysStatic Bundle.tN "SUPPRESSED_SENTINEL" Bundle.listD]
def xthOk (w : Cond) : Bool := decide (w ∈ xthS) || w.onTables && (w.keeps || w.faceAtom) && decide (w ∈ lw_tbl)
theorem xth_ok : ∀ X ∈ xex, ∀ w ∈ xthA X ++ (xthB X ++ xthC X), xthOk w = true := by decide +kernel
theorem xth_st : Cond.laysStatic Bundle.tN "UNASSIGNED_STACK" Bundle.steD ∈ lw_tbl ∧ Cond.laysStatic Bundle.tN "SUPPRESSED_SENTINEL" Bundle.listD ∈ lw_tbl ∧ Cond.initialized Bundle.tN ∈ lw_tbl := by decide +kernel
theorem xth_fit : (∀ X ∈ xex, Bundle.fit X = true ∧ Cond.initialized X ∈ lw_tbl ∧ Cond.instantiable X 6 ∈ lw_tbl) ∧ ∀ n ∈ xUp, Bundle.fit n = true := by decide +kernel
theorem xlayS {K : XK} (G : xG K) {C n d : String} (hl : Cond.laysStatic C n d ∈ lw_tbl) {U : State} (hW : (xs K).WarmedH U.vm) (hq : ∀ q : Nat, q ≤ xB K → U.heap[q]? = (xs K).heap[q]?) (args : Array Value) : (Cond.laysStatic C n d).before args U = true := by
  have h := Cond.laysStatic_setVm hW.alike (G.2.2.1 _ hl)
  obtain ⟨c, k, i, f, a, cell, hc, hi, hst, ha, hcell, hs, hcls, hlt, hty⟩ := Cond.laysStatic_spec h
  have h1 : (xs K).heap[a]? = some cell := hcell
  have h2 := (Array.getElem?_eq_some_iff.mp h1).1
  exact Cond.laysStatic_of (s := U) hc hi hst ha (by rw [hq a (by have := G.1; omega)]; exact h1) hs hcls hlt hty
theorem xth_w {K : XK} (G : xG K) {w : Cond} (h : xthOk w = true) {U : State} (hW : (xs K).WarmedH U.vm) (hq : ∀ q : Nat, q ≤ xB K → U.heap[q]? = (xs K).heap[q]?) (args : Array Value) : w.before args U = true := by
  unfold xthOk at h
  simp only [Bool.and_eq_true, Bool.or_eq_true, decide_eq_true_eq] at h
  rcases h with h | ⟨⟨h1, h2⟩, h3⟩
  · rcases List.mem_cons.mp h with rfl | h
    · exact xlayS G xth_st.1 hW hq args
    · rw [List.mem_singleton.mp h]
      exact xlayS G xth_st.2.1 hW hq args
  rcases h2 with h2 | h2
  · exact xw G (by rw [h1, h2]; rfl) h3 hW args
  · exact xwF G h1 h2 h3 hW args
theorem xth_all {K : XK} (G : xG K) {X own : String} {ic : Nat} (hX : X ∈ xex) (hl : Cond.methodLink own ic (Bundle.initS X) ∈ lw_tbl) {U : State} (hW : (xs K).WarmedH U.vm) (hq : ∀ q : Nat, q ≤ xB K → U.heap[q]? = (xs K).heap[q]?) (args : Array Value) : ∀ w ∈ Bundle.ownAtoms own ic X xUp, w.before args U = true := by
  have key : ∀ w ∈ xthA X ++ (xthB X ++ xthC X), w.before args U = true := fun w hw => xth_w G (xth_ok X hX w hw) hW hq args
  intro w hw
  rcases List.mem_append.mp hw with h | h
  · exact key w (List.mem_append.mpr (Or.inl h))
  · have h' : w ∈ Cond.methodLink own ic (Bundle.initS X) :: (xthB X ++ (Cond.isRef (.static Bundle.tN "UNASSIGNED_STACK" Bundle.steD) :: Cond.isRef (.static Bundle.tN "SUPPRESSED_SENTINEL" Bundle.listD) :: xthC X)) := h
    rcases List.mem_cons.mp h' with rfl | h'
    · exact xw G rfl hl hW args
    · rcases List.mem_append.mp h' with h' | h'
      · exact key w (List.mem_append.mpr (Or.inr (List.mem_append.mpr (Or.inl h'))))
      · rcases List.mem_cons.mp h' with rfl | h'
        · exact xstat G xth_st.1 xth_st.2.2 (G.2.2.2.1 _ List.mem_cons_self) hW hq args
        · rcases List.mem_cons.mp h' with rfl | h'
          · exact xstat G xth_st.2.1 xth_st.2.2 (G.2.2.2.1 _ (List.mem_cons_of_mem _ List.mem_cons_self)) hW hq args
          · exact key w (List.mem_append.mpr (Or.inr (List.mem_append.mpr (Or.inr h'))))
/-- the same invocation, begun anew where it stands -/
theorem xm_rebase {p : Program} {l : Launch} {e : Env} {R : Room} {s : State} {m : MethodId} {args : Array Value} {below : List Frame} {meth : Method} {c : Code} {T : State} {locs : List Loc} {cells slots : Nat} (X : Stand p l e R s m args below meth c T locs cells slots) (hc : cells ≤ R.cells) (hs : slots ≤ R.slots) :
    Stand p l e { R with cells := R.cells - cells, slots := R.slots - slots } (T.setFrames (.invoking m args :: below)) m args below meth c T [] 0 0 := by
  obtain ⟨g₀, hfr⟩ := X.frames_eq
  have hcur : T.cur < T.threads.size := State.cur_lt_of_frames hfr
  obtain ⟨t, ht, -⟩ := State.frames_cons hfr
  have hF : (T.setFrames (.invoking m args :: below)).frames = .invoking m args :: below := State.frames_setFrames _ hcur
  have hmeth : T.vm.method? m = some meth := X.method'
  refine ⟨X.admits, X.cas, X.clock, hF, ?_, ?_, hmeth, X.code, X.here, X.tail, State.WarmedH.refl (T.setFrames (.invoking m args :: below)), by rw [State.stackLimits_setFrames], by rw [State.stackBytes_setFrames], ?_⟩
  · have hr := X.room
    have h1 := X.heapSize
    have h2 := X.used
    have h3 := X.book
    have hlo : (T.setFrames (.invoking m args :: below)).localsInUse = s.localsInUse := by
      rw [State.localsInUse_invoking hF hmeth X.code, State.localsInUse_invoking X.frames X.method X.code]
    have hli : e.platform.stackLimits (T.setFrames (.invoking m args :: below)).me = e.platform.stackLimits s.me := by
      rw [State.stackLimits_setFrames]; exact X.limits
    have hby : (T.setFrames (.invoking m args :: below)).me.stackBytes = s.me.stackBytes := by
      rw [State.stackBytes_setFrames]; exact X.bytes
    simp only [State.hasRoom, Bool.and_eq_true, decide_eq_true_eq] at hr ⊢
    obtain ⟨⟨⟨⟨r1, r2⟩, r3⟩, r4⟩, r5⟩ := hr
    rw [hlo, hF, hli, hby]
    rw [X.frames] at r2
    refine ⟨⟨⟨⟨r1, r2⟩, ?_⟩, ?_⟩, h3⟩
    · show T.heap.size + (R.cells - cells) ≤ e.platform.maxCells
      omega
    · show T.slotsUsed + (R.slots - slots) ≤ e.platform.maxSlots
      omega
  · have hh := X.hears
    have hal := X.warmed.alike
    rcases below with _ | ⟨fr, rest⟩
    · simp only [State.hears, X.method] at hh
      show (T.vm.method? m).any _ = true
      rw [hmeth]; exact hh
    · cases fr with
      | java g =>
        show ((T.code? g.method).bind fun c => (decode c.code g.pc).toOption).isSome = true
        have h1 : T.code? g.method = s.code? g.method := by rw [State.code?_eq, State.code?_eq, hal.method?]
        rw [h1]; exact hh
      | native g => rfl
      | proc g => rfl
      | _ =>
        simp only [State.hears, X.method] at hh
        show (T.vm.method? m).any _ = true
        rw [hmeth]; exact hh
  · obtain ⟨t', ht', -⟩ := State.frames_cons hF
    have h1 := (State.sameButNew.refl (T.setFrames (.invoking m args :: below)) ht').setFrames T.frames (State.cur_lt_of_frames hF)
    rw [State.setFrames_setFrames, State.setFrames_self ht] at h1
    exact h1
theorem xstr {K : XK} (G : xG K) {own tx : String} {k cur : Nat} (hm : Cond.stringRef own k tx ∈ lw_tbl) (hcur : (xs K).vm.findClass own = some cur) {U : State} (hW : (xs K).WarmedH U.vm) : ∃ a, vk_R own k tx a U := by
  have h1 := G.2.2.1 _ hm
  obtain ⟨_, _, _, a, _, _, _, _, _, hev⟩ := Cond.stringRef_spec hcur h1
  exact ⟨a, vk_R.warm hW (vk_R.of h1 hev)⟩
section XR
variable {K : XK} {y : YT} {pc : Nat} {L : XL} {S : List Value} {M N : XM} {o : XO}
set_option maxHeartbeats 1000000 in
theorem x_throw (G : xG K) {ei ix isx ic : Nat} {X tx : String} (hX : xex[ei]? = some X) (d0 : decode (yb y) pc = .ok (.new ix, 3)) (d1 : decode (yb y) (pc + 3) = .ok (.dup, 1)) (d2 : decode (yb y) (pc + 4) = .ok (.ldc isx, 2)) (d3 : decode (yb y) (pc + 6) = .ok (.invokespecial ic, 3)) (d4 : decode (yb y) (pc + 9) = .ok (.athrow, 1))
    (hk : Cond.classLink (ym y).cls ix X ∈ lw_tbl) (hm : Cond.methodLink (ym y).cls ic (Bundle.initS X) ∈ lw_tbl) (hst : Cond.stringRef (ym y).cls isx tx ∈ lw_tbl) (hh : yh y = []) (hfr : 6 ≤ yf y) (hlo : 82 ≤ yl y) (hz1 : xz M < ZM) (hu1 : xu M + 6 ≤ UM) :
    cA K y pc L [] M (.inr (xz M)) (xnw M (40 + ei) 0 6) := by
  intro p e R s m args below meth c H locs cells slots ls z0 u0 C hH hz hu hl
  intro T hT X0
  subst hT
  have hlocks : meth.locks = false := C.2.2.2.2.1
  have hXm := List.mem_of_getElem? hX
  have hW := C.2.2.2.2.2.2.2.2.1
  have hzR := C.2.2.2.2.2.2.2.2.2.2.2.1
  have huR := C.2.2.2.2.2.2.2.2.2.2.2.2.1
  have hz0 := C.2.2.2.2.2.2.2.2.2.2.2.2.2.2.1
  have hfR := C.2.2.2.2.2.2.2.2.2.1
  have hlR := C.2.2.2.2.2.2.2.2.2.2.1
  have hown := C.2.2.2.2.2.2.2.1
  have hne : xz M ≠ 0 := by omega
  have hsz : T.heap.size = xa K (xz M) := by rw [hH.1, xa_pos hne]
  have hins := xw G rfl (xth_fit.1 X hXm).2.2 hW args
  obtain ⟨vm', cX, kX, h1, h2, h3, h4, X1, st1⟩ := X0.newCold C.1 hown (xw G rfl hk hW args) hins (xw G rfl (xth_fit.1 X hXm).2.1 hW args) (g := F0 m pc ls []) rfl (by rw [C.2.1]; exact d0) (by omega) (by omega)
  have hWv : s.WarmedH vm' := X1.warmed
  have X2 := xm_rebase (X0.noted hWv) (by omega) (by omega)
  have X3 := X2.pushed { cls := cX, slots := kX.instanceTypes.map defaultValue, vm := .none }
  obtain ⟨kX', hkX', he⟩ := hWv.alike.2.2 _ _ h2
  have hWs : (xs K).WarmedH vm' := State.WarmedH.trans hW hWv
  obtain ⟨cur, hcur⟩ : ∃ cur, (xs K).vm.findClass (ym y).cls = some cur := ⟨m.cls, by rw [← hW.alike.findClass]; exact hown⟩
  obtain ⟨q, hq⟩ := xstr G (U := (T.setVm vm').setFrames (.invoking m args :: below)) hst hcur hWs
  have hown' : ((T.setVm vm').setFrames (.invoking m args :: below)).vm.findClass (ym y).cls = some m.cls := by
    show vm'.findClass _ = _
    rw [hWv.alike.findClass]; exact hown
  have htr : e.platform.stackTraces = false := Launch.traces_off G.2.2.2.2.1 X0.admits
  let Qt : State → Prop := fun U => U.status = .running ∧ Ended U below (.threw (xa K (xz M))) ∧ (T.setVm vm').WarmedH U.vm ∧ ((T.setVm vm').setFrames (.invoking m args :: below)).sameButNew ({ U with vm := vm' } : State) [] (0 + 1) (0 + 6) ∧ ∃ ce, U.heap[xa K (xz M)]? = some ce ∧ vm'.findClass X = some ce.cls ∧ ce.vm = .none
  have hty : kX'.instanceTypes = kX.instanceTypes := by rw [he]
  have hslots : (kX.instanceTypes.map defaultValue).size = 6 := by rw [Array.size_map]; exact h4
  have k3 : W p (xl K) e { R with cells := R.cells - cells, slots := R.slots - slots } ((T.setVm vm').setFrames (.invoking m args :: below)) m args below meth c (T.heap.push { cls := cX, slots := kX.instanceTypes.map defaultValue, vm := .none }) [] (0 + 1) (0 + 6) Qt (F0 m (pc + 6) ls [.ref q, .ref (xa K (xz M)), .ref (xa K (xz M))]) := by
    intro T2 hT2 Y
    obtain ⟨U, u1, u2, u3, u4, u5, ce, u6, u7⟩ := Y.ctorThrowS C.1 htr hown' (xth_fit.1 X hXm).1 xth_fit.2 (xth_all G hXm hm (U := (T.setVm vm').setFrames (.invoking m args :: below)) hWs hH.2.1 args) (fun x hx => by cases hx) (a := xa K (xz M)) (cX := cX) (kX := kX')
      (by show vm'.findClass X = some cX; rw [hWv.alike.findClass]; exact h1) hkX' (by rw [hT2, ← hsz, Array.getElem?_push_size, ← hty]) (by show T.heap.size ≤ _; rw [hsz]; exact Nat.le_refl _) (msg := .ref q) rfl (g := F0 m (pc + 6) ls [.ref q, .ref (xa K (xz M)), .ref (xa K (xz M))]) rfl (hl.1.1.trans C.2.2.1.symm) rfl rfl (rest := []) rfl
      (by rw [C.2.1]; exact d3) (by rw [C.2.1]; exact d4) (fun x hx => by rw [C.2.2.2.2.2.1, hh] at hx; cases hx) (by show 2 + 3 < R.frames; omega) (by show 2 * 0 + (1 + 0) + (13 * (2 + 1) + 42) ≤ R.locals; omega)
    exact ⟨U, u1, u2, u3, u4, u5, ce, u6, u7.cls, u7.vm⟩
  have k2 := va_ldcS (p := p) (e := e) C.1 C.2.1 hown' hq d2 k3
  have k1 := lv_dup (va := .ref (xa K (xz M))) C.1 C.2.1 d1 rfl k2
  rw [hslots] at X3
  obtain ⟨U, u1, u2, u3, u4, u5, ce, u6, u7, u8⟩ := k1 _ rfl X3
  obtain ⟨q1, q2, q3, q4, q5, q6⟩ := u5
  have hs' : (T.setVm vm').sameButNew ({ U with vm := vm' } : State) [] (0 + 1) (0 + 6) := by
    refine ⟨?_, q2, q3, q4, q5, q6⟩
    rw [State.setFrames_setFrames] at q1
    exact q1
  refine ⟨U, st1 U (by rw [hsz]; exact u1), u2, u3, ?_, State.WarmedH.trans hWv u4, ⟨by show z0 ≤ xz M + 1; omega, by show u0 ≤ xu M + 6; omega, by show xz M + 1 ≤ ZM; omega, hu1⟩, locs ++ [], ?_, ?_⟩
  · have hU1 : U.heap.size ≤ T.heap.size + (0 + 1) := q3
    have hU2 := (Array.getElem?_eq_some_iff.mp u6).1
    refine xH_new G hH hne (by omega) (fun z hz' => ?_) ⟨fun ty h => ?_, fun c' q' h h' => ?_, fun c' nm h h' => ?_⟩
    · obtain ⟨cz, hcz⟩ : ∃ cz, T.heap[z]? = some cz := ⟨_, Array.getElem?_eq_getElem hz'⟩
      obtain ⟨cw, w1, w2, w3, w4⟩ := q6 z cz hcz
      have hsl : cw.slots = cz.slots := Array.ext_getElem? fun i => w4 i (by simp)
      have hcw : cw = cz := by rw [w2, hsl]
      rw [hcz, ← hcw]; exact w1
    · have h0 : xar (40 + ei) = some ty := by simpa [xnw, xt] using h
      unfold xar at h0
      split at h0 <;> first | omega | cases h0
    · have h0 : 40 + ei = 20 + c' := by simpa [xnw, xt] using h
      have h7 := (List.getElem?_eq_some_iff.mp h').1
      simp [xcl] at h7
      omega
    · have h0 : 40 + ei = 40 + c' := by simpa [xnw, xt] using h
      have h8 : c' = ei := by omega
      subst h8
      cases hX.symm.trans h'
      exact ⟨ce, u6, by rw [← hWs.alike.findClass]; exact u7, by rw [u8]; rfl⟩
  · rw [show xz (xnw M (40 + ei) 0 6) - z0 = cells + (0 + 1) by show xz M + 1 - z0 = _; omega, show xu (xnw M (40 + ei) 0 6) - u0 = slots + (0 + 6) by show xu M + 6 - u0 = _; omega]
    exact (X0.noted hWv).same.trans (hs'.setVm s.vm)
  · rw [List.append_nil]
    exact C.2.2.2.2.2.2.2.2.2.2.2.2.2.2.2
end XR
/-! a catch: the types are looked up one by one -/
theorem xm_entry {Q : Handler → Pre} {E : CtlPost} {e : Env} {d : Bool} {acts : List Action} {u : State} {f : JFrame} {a : Addr} {x : ExceptionTableEntry} {t : List ExceptionTableEntry} {c : ClassId} {cell : Cell} (b : Bool) (hx : covers x f.pc = true) (h0 : x.catchType ≠ 0)
    (hl : u.vm.ClassLinks e.platform f.method.cls x.catchType c) (hcell : u.heap[a]? = some cell) (hobj : ∀ k, cell.vm ≠ .statics k) (hk : ∃ k, u.vm.classes[cell.cls]? = some k) (hc : ∃ k, u.vm.classes[c]? = some k) (hfit : u.vm.assignable cell.cls c = b) :
    wp (findHandler.go f a (x :: t)) Q E e d acts u ↔ if b = true then Q (.found x.handlerPc) d acts (u.setVm (u.vm.noted f.method.cls x.catchType (.cls c))) else wp (findHandler.go f a t) Q E e d acts (u.setVm (u.vm.noted f.method.cls x.catchType (.cls c))) := by
  simp only [covers] at hx
  have hal : u.vm.Alike (u.vm.noted f.method.cls x.catchType (.cls c)) := (Vm.Alike.refl u.vm).noted _ _ _
  obtain ⟨ha, ht⟩ := (resolveClass_links e.toSetting hl).op (op := VmOp.resolveClass f.method.cls x.catchType) rfl
  obtain ⟨k1, hk1⟩ := hk
  obtain ⟨k2, hk2⟩ := hc
  obtain ⟨k3, hk3, -⟩ := hal.2.2 _ _ hk1
  obtain ⟨k4, hk4, -⟩ := hal.2.2 _ _ hk2
  have hfit' : (u.vm.noted f.method.cls x.catchType (.cls c)).assignable cell.cls c = b := by rw [hal.assignable]; exact hfit
  cases b <;> simp [findHandler.go, hx, h0, ha, ht, hcell, hobj, hk3, hk4, hfit', VmOp.dirties, VmOp.acts]
theorem xm_go {s : State} {e : Env} {f : JFrame} {a : Addr} {cell : Cell} {args : Array Value} {own X : String} (hpl : e.platform.magicAccessors = ({} : Platform).magicAccessors) (hobj : cell.vm.isStatics = false) (hown : s.vm.findClass own = some f.method.cls) (hX : s.vm.findClass X = some cell.cls) (x : ExceptionTableEntry) (rest : List ExceptionTableEntry)
    (hx : covers x f.pc = true) (h0 : x.catchType ≠ 0) (hxl : (Cond.classLink own x.catchType X).before args s = true) : ∀ (pre : List (ExceptionTableEntry × String)) (u : State), s.WarmedH u.vm → u.heap[a]? = some cell →
      (∀ q ∈ pre, covers q.1 f.pc = true ∧ q.1.catchType ≠ 0 ∧ (Cond.classLink own q.1.catchType q.2).before args s = true ∧ ∃ t, s.vm.findClass q.2 = some t ∧ s.vm.assignable cell.cls t = false) →
      ∃ vm', s.WarmedH vm' ∧ ∀ (Q : Handler → Pre) (E : CtlPost) (d : Bool) (acts : List Action), wp (findHandler.go f a (pre.map (fun q => q.1) ++ x :: rest)) Q E e d acts u ↔ Q (.found x.handlerPc) d acts (u.setVm vm') := by
  have one : ∀ (u : State) (z : ExceptionTableEntry) (nm : String) (t : ClassId), s.WarmedH u.vm → (Cond.classLink own z.catchType nm).before args s = true → s.vm.findClass nm = some t →
      u.vm.ClassLinks e.platform f.method.cls z.catchType t ∧ s.WarmedH (u.vm.noted f.method.cls z.catchType (.cls t)) ∧ ∃ k, u.vm.classes[t]? = some k := by
    intro u z nm t hW hlk ht
    obtain ⟨c', hc', hcl⟩ := Cond.classLink_spec hown hlk e.platform hpl
    cases ht.symm.trans hc'
    obtain ⟨dk, _, _, kt, hd, _, _, _, _, hkt, _, hopen⟩ := hcl.here
    obtain ⟨kt', hkt', -⟩ := hW.alike.2.2 _ _ hkt
    exact ⟨hW.classLinks hcl, hW.noted hd hopen (State.rightAt_cls hcl), kt', hkt'⟩
  intro pre
  induction pre with
  | nil =>
    intro u hW hcell _
    obtain ⟨a1, a2, a3⟩ := one u x X cell.cls hW hxl hX
    refine ⟨_, a2, fun Q E d acts => ?_⟩
    have := xm_entry (Q := Q) (E := E) (d := d) (acts := acts) (t := rest) true hx h0 a1 hcell (VmData.ne_statics_of hobj) a3 a3 (va_asg _ _)
    simpa using this
  | cons z zs ih =>
    intro u hW hcell hall
    obtain ⟨b1, b2, b3, t, b4, b5⟩ := hall z List.mem_cons_self
    obtain ⟨a1, a2, a3⟩ := one u z.1 z.2 t hW b3 b4
    obtain ⟨-, -, a4⟩ := one u x X cell.cls hW hxl hX
    obtain ⟨vm', c1, c2⟩ := ih (u.setVm (u.vm.noted f.method.cls z.1.catchType (.cls t))) a2 hcell (fun q hq => hall q (List.mem_cons_of_mem _ hq))
    refine ⟨vm', c1, fun Q E d acts => ?_⟩
    have := xm_entry (Q := Q) (E := E) (d := d) (acts := acts) (t := zs.map (fun q => q.1) ++ x :: rest) false b1 b2 a1 hcell (VmData.ne_statics_of hobj) a4 a3 (by rw [hW.alike.assignable]; exact b5)
    rw [List.map_cons, List.cons_append, this, if_neg (by decide), c2]
    rfl
theorem xm_caught {tb : Tables} {e : Env} {T target : State} {g : JFrame} {c : Code} {below : List Frame} {a : Addr} (h : At T g.method c below) {pc : Nat} {vm' : Vm}
    (hfind : ∀ (Q : Handler → Pre) (E : CtlPost) (d : Bool) (acts : List Action), wp (findHandler g a) Q E e d acts ((T.setTop g).pushFrame (.throwing a)) ↔ Q (.found pc) d acts (((T.setTop g).pushFrame (.throwing a)).setVm vm'))
    (hrest : Steps tb e below ((T.setVm vm').setTop { g with pc := pc, stack := [.ref a] }) target) : Steps tb e below ((T.setTop g).pushFrame (.throwing a)) target := by
  obtain ⟨hgo, hw⟩ := h.throwing a
  obtain ⟨g₀, hg⟩ := Option.isSome_iff_exists.mp h.top
  obtain ⟨r, hr⟩ := State.topJava?_eq_some.mp hg
  have hr' : (T.setVm vm').frames = .java g₀ :: r := hr
  refine Steps.head hgo hw ?_
  rw [stepThread_throwing (frames_entered h.top _)]
  have hstep : (stepThrowing e ((T.setTop g).pushFrame (.throwing a)) a (.java g :: T.frames.tail)).1 = (((T.setTop g).pushFrame (.throwing a)).setVm vm').setFrames (.java { g with pc := pc, stack := [.ref a] } :: T.frames.tail) := by
    simp only [stepThrowing, searchFrame, vmDo]
    generalize hres : Sem.go _ e false [] _ = res
    obtain ⟨as, rfl, -⟩ := Sem.eq_ok_of hres (a := Handler.found pc) (s' := ((T.setTop g).pushFrame (.throwing a)).setVm vm') (acts' := []) (by simp [hfind _ _ _ _])
    rfl
  rw [hstep]
  rw [State.setTop_of_frames _ hr'] at hrest
  have e1 : (((T.setTop g).pushFrame (.throwing a)).setVm vm').setFrames (.java { g with pc := pc, stack := [.ref a] } :: T.frames.tail) = (T.setVm vm').setFrames (.java { g with pc := pc, stack := [.ref a] } :: r) := by
    rw [hr, List.tail_cons, State.pushFrame, State.setTop_of_frames _ hr]
    show (((T.setFrames _).setFrames _).setFrames _).setVm vm' = (T.setFrames _).setVm vm'
    rw [State.setFrames_setFrames, State.setFrames_setFrames]
  rw [e1]
  exact hrest
section XR
variable {K : XK} {y : YT} {pc : Nat} {L : XL} {S : List Value} {M N : XM} {o : XO}
theorem cT_catch (G : xG K) {a ei : Nat} {X : String} (hX : xex[ei]? = some X) (ha : a < xz M) (ht : (xt M a).1 = 40 + ei) (pre : List ((Nat × Nat × Nat × Nat) × String)) (x : Nat × Nat × Nat × Nat) (rest : List (Nat × Nat × Nat × Nat)) (hh : yh y = pre.map (fun q => q.1) ++ x :: rest)
    (hp : ∀ q ∈ pre, q.1.1 ≤ pc ∧ pc < q.1.2.1 ∧ q.1.2.2.2 ≠ 0 ∧ Cond.classLink (ym y).cls q.1.2.2.2 q.2 ∈ lw_tbl ∧ q.2 ∈ xex ∧ X ≠ q.2) (hx : x.1 ≤ pc ∧ pc < x.2.1 ∧ x.2.2.2 ≠ 0 ∧ Cond.classLink (ym y).cls x.2.2.2 X ∈ lw_tbl) (k : cA K y x.2.2.1 L [.ref a] M o N) : cT K y pc L a M o N := by
  intro p e R s m args below meth c locs cells slots ls st z0 u0 T C hH hz hu hl X0
  have hXm := List.mem_of_getElem? hX
  have hW := C.2.2.2.2.2.2.2.2.1
  have hpl : e.platform.magicAccessors = ({} : Platform).magicAccessors := by rw [X0.admits.platform]
  obtain ⟨cell, c1, c2, c3⟩ := (hH.2.2.1 a ha).2.2 ei X ht hX
  have hXs : s.vm.findClass X = some cell.cls := by rw [hW.alike.findClass]; exact c2
  obtain ⟨vm', g1, g2⟩ := xm_go (s := s) (e := e) (f := F0 m pc ls st) (a := xa K a) (args := args) hpl c3 C.2.2.2.2.2.2.2.1 hXs ⟨x.1, x.2.1, x.2.2.1, x.2.2.2⟩ (tableOf rest) (by simp [covers, hx.1, hx.2.1]) hx.2.2.1 (xw G rfl hx.2.2.2 hW args)
    (pre.map fun q => (⟨q.1.1, q.1.2.1, q.1.2.2.1, q.1.2.2.2⟩, q.2)) ((T.setTop (F0 m pc ls st)).pushFrame (.throwing (xa K a))) X0.warmed c1 (fun q hq => by
      obtain ⟨r, hr, rfl⟩ := List.mem_map.mp hq
      obtain ⟨p1, p2, p3, p4, p5, p6⟩ := hp r hr
      obtain ⟨cX, t, w1, w2, w3⟩ := G.2.2.2.2.2 X hXm r.2 p5 p6
      cases c2.symm.trans w1
      exact ⟨by simp [covers, p1, p2], p3, xw G rfl p4 hW args, t, by rw [hW.alike.findClass]; exact w2, by rw [hW.alike.assignable]; exact w3⟩)
  have X1 := X0.noted g1
  obtain ⟨t, a1, b1⟩ := k p e R s m args below meth c T.heap locs cells slots ls z0 u0 C hH hz hu hl (T.setVm vm') rfl X1
  refine ⟨t, xm_caught (g := F0 m pc ls st) X0.here (fun Q E d acts => ?_) a1, b1⟩
  rw [W.findHandler_eq (meth := meth) (code := c) X0.method' X0.code, C.2.2.2.2.2.1, hh]
  have e1 : tableOf (pre.map (fun q => q.1) ++ x :: rest) = (pre.map fun q => ((⟨q.1.1, q.1.2.1, q.1.2.2.1, q.1.2.2.2⟩ : ExceptionTableEntry), q.2)).map (fun q => q.1) ++ ⟨x.1, x.2.1, x.2.2.1, x.2.2.2⟩ :: tableOf rest := by
    simp [tableOf]
  rw [e1]
  exact g2 Q E d acts
end XR
end
section
/-! programs over the memory, and the rules that tie them to the machine -/
abbrev XP : Type := Option (XO × XM)
abbrev xin (j : Int32) (n : Nat) : Prop := ¬ (j < 0 ∨ n ≤ j.toNatClampNeg)
def gI (M : XM) (k a j : Nat) (f : Int32 → XP) : XP := if a < xz M ∧ (xt M a).1 = k then f (xi M a j) else none
def gR (M : XM) (k a j : Nat) (f : Nat → XP) : XP := if a < xz M ∧ (xt M a).1 = k then (match xr M a j with
  | some b => f b
  | none => none) else none
def uI (M : XM) (k a j : Nat) (v : Int32) (f : XM → XP) : XP := if a < xz M ∧ (xt M a).1 = k then f (xpi M a j v) else none
def uZ (M : XM) (k a j : Nat) (v : Int32) (f : XM → XP) : XP := if (a < xz M ∧ (xt M a).1 = k) ∧ (v = 0 ∨ v = 1) then f (xpi M a j v) else none
def uR (M : XM) (k a j b : Nat) (f : XM → XP) : XP := if a < xz M ∧ (xt M a).1 = k then f (xpr M a j b) else none
def aI (M : XM) (a : Nat) (j : Int32) (f : Int32 → XP) : XP := if (a < xz M ∧ ((xt M a).1 = 0 ∨ (xt M a).1 = 5)) ∧ xin j (xt M a).2 then f (xi M a j.toNatClampNeg) else none
def aZ (M : XM) (a : Nat) (j : Int32) (f : Int32 → XP) : XP := if (a < xz M ∧ (xt M a).1 = 1) ∧ xin j (xt M a).2 then f (xi M a j.toNatClampNeg) else none
def aJ (M : XM) (a : Nat) (j : Int32) (f : Int64 → XP) : XP := if (a < xz M ∧ (xt M a).1 = 2) ∧ xin j (xt M a).2 then f (xj M a j.toNatClampNeg) else none
def aR (M : XM) (kd a : Nat) (j : Int32) (f : Nat → XP) : XP := if (a < xz M ∧ (xt M a).1 = kd) ∧ xin j (xt M a).2 then (match xr M a j.toNatClampNeg with
  | some b => f b
  | none => none) else none
def sI (M : XM) (a : Nat) (j v : Int32) (f : XM → XP) : XP := if (a < xz M ∧ (xt M a).1 = 0) ∧ xin j (xt M a).2 then f (xpi M a j.toNatClampNeg v) else none
def sZ (M : XM) (a : Nat) (j v : Int32) (f : XM → XP) : XP := if ((a < xz M ∧ (xt M a).1 = 1) ∧ xin j (xt M a).2) ∧ (v = 0 ∨ v = 1) then f (xpi M a j.toNatClampNeg v) else none
def sJ (M : XM) (a : Nat) (j : Int32) (v : Int64) (f : XM → XP) : XP := if (a < xz M ∧ (xt M a).1 = 2) ∧ xin j (xt M a).2 then f (xpj M a j.toNatClampNeg v) else none
def sR (M : XM) (kd ci a : Nat) (j : Int32) (b : Nat) (f : XM → XP) : XP := if ((a < xz M ∧ (xt M a).1 = kd) ∧ xin j (xt M a).2) ∧ b < xz M ∧ (xt M b).1 = 20 + ci then f (xpr M a j.toNatClampNeg b) else none
def aL (M : XM) (a : Nat) (f : Int32 → XP) : XP := if a < xz M ∧ (xar (xt M a).1).isSome = true then f (xt M a).2.toInt32 else none
def nO (M : XM) (k n : Nat) (f : Nat → XM → XP) : XP := if xz M < ZM ∧ xu M + n ≤ UM then f (xz M) (xnw M k 0 n) else none
def nA (M : XM) (k : Nat) (v : Int32) (f : Nat → XM → XP) : XP := if (¬ v < 0 ∧ v.toNatClampNeg ≤ 100000) ∧ xz M < ZM ∧ xu M + v.toNatClampNeg ≤ UM then f (xz M) (xnw M k v.toNatClampNeg v.toNatClampNeg) else none
def tX (M : XM) (ei : Nat) : XP := if xz M < ZM ∧ xu M + 6 ≤ UM then some (.inr (xz M), xnw M (40 + ei) 0 6) else none
def z01 (v : Int32) (f : XP) : XP := if v = 0 ∨ v = 1 then f else none
def cI (r : XP) (f : Int32 → XM → XP) : XP := match r with
  | some (.inl (some (.int v)), M) => f v M
  | some (.inr a, M) => some (.inr a, M)
  | _ => none
def cV (r : XP) (f : XM → XP) : XP := match r with
  | some (.inl none, M) => f M
  | some (.inr a, M) => some (.inr a, M)
  | _ => none
def cR (r : XP) (f : Nat → XM → XP) : XP := match r with
  | some (.inl (some (.ref b)), M) => f b M
  | some (.inr a, M) => some (.inr a, M)
  | _ => none
def hI (r : XP) (f : Int32 → XM → XP) (g : Nat → XM → XP) : XP := match r with
  | some (.inl (some (.int v)), M) => f v M
  | some (.inr a, M) => g a M
  | _ => none
def hV (r : XP) (f : XM → XP) (g : Nat → XM → XP) : XP := match r with
  | some (.inl none, M) => f M
  | some (.inr a, M) => g a M
  | _ => none
section XR
variable {K : XK} {y : YT} {pc : Nat} {L : XL} {S : List Value} {M N : XM} {o : XO}
theorem h_if {c : Prop} [Decidable c] {A B : XP} (h : (if c then A else B) = some (o, N)) : (c → A = some (o, N)) ∧ (¬ c → B = some (o, N)) := ⟨fun hc => by rw [if_pos hc] at h; exact h, fun hc => by rw [if_neg hc] at h; exact h⟩
theorem h_ok {c : Prop} [Decidable c] {A : XP} (h : (if c then A else none) = some (o, N)) : c ∧ A = some (o, N) := by
  by_cases hc : c
  · rw [if_pos hc] at h; exact ⟨hc, h⟩
  · rw [if_neg hc] at h; cases h
theorem h_if_eq {x : Int32} {off : Int} (tgt : Nat) {A B : XP} (hd : decode (yb y) pc = .ok (.ifCond .eq off, 3)) (ht : (pc : Int) + off = (tgt : Int)) (h : (if x = 0 then A else B) = some (o, N)) (kt : x = 0 → A = some (o, N) → cA K y tgt L S M o N) (kf : ¬ x = 0 → B = some (o, N) → cA K y (pc + 3) L S M o N) : cA K y pc L (.int x :: S) M o N :=
  x_if_eq tgt hd ht (fun c => kt c ((h_if h).1 c)) (fun c => kf (by first | exact c | exact (fun q => q c)) ((h_if h).2 (by first | exact c | exact (fun q => q c))))
theorem h_if_ne {x : Int32} {off : Int} (tgt : Nat) {A B : XP} (hd : decode (yb y) pc = .ok (.ifCond .ne off, 3)) (ht : (pc : Int) + off = (tgt : Int)) (h : (if ¬ x = 0 then A else B) = some (o, N)) (kt : ¬ x = 0 → A = some (o, N) → cA K y tgt L S M o N) (kf : ¬ ¬ x = 0 → B = some (o, N) → cA K y (pc + 3) L S M o N) : cA K y pc L (.int x :: S) M o N :=
  x_if_ne tgt hd ht (fun c => kt c ((h_if h).1 c)) (fun c => kf (by first | exact c | exact (fun q => q c)) ((h_if h).2 (by first | exact c | exact (fun q => q c))))
theorem h_if_lt {x : Int32} {off : Int} (tgt : Nat) {A B : XP} (hd : decode (yb y) pc = .ok (.ifCond .lt off, 3)) (ht : (pc : Int) + off = (tgt : Int)) (h : (if x < 0 then A else B) = some (o, N)) (kt : x < 0 → A = some (o, N) → cA K y tgt L S M o N) (kf : ¬ x < 0 → B = some (o, N) → cA K y (pc + 3) L S M o N) : cA K y pc L (.int x :: S) M o N :=
  x_if_lt tgt hd ht (fun c => kt c ((h_if h).1 c)) (fun c => kf (by first | exact c | exact (fun q => q c)) ((h_if h).2 (by first | exact c | exact (fun q => q c))))
theorem h_if_ge {x : Int32} {off : Int} (tgt : Nat) {A B : XP} (hd : decode (yb y) pc = .ok (.ifCond .ge off, 3)) (ht : (pc : Int) + off = (tgt : Int)) (h : (if 0 ≤ x then A else B) = some (o, N)) (kt : 0 ≤ x → A = some (o, N) → cA K y tgt L S M o N) (kf : ¬ 0 ≤ x → B = some (o, N) → cA K y (pc + 3) L S M o N) : cA K y pc L (.int x :: S) M o N :=
  x_if_ge tgt hd ht (fun c => kt c ((h_if h).1 c)) (fun c => kf (by first | exact c | exact (fun q => q c)) ((h_if h).2 (by first | exact c | exact (fun q => q c))))
theorem h_if_gt {x : Int32} {off : Int} (tgt : Nat) {A B : XP} (hd : decode (yb y) pc = .ok (.ifCond .gt off, 3)) (ht : (pc : Int) + off = (tgt : Int)) (h : (if 0 < x then A else B) = some (o, N)) (kt : 0 < x → A = some (o, N) → cA K y tgt L S M o N) (kf : ¬ 0 < x → B = some (o, N) → cA K y (pc + 3) L S M o N) : cA K y pc L (.int x :: S) M o N :=
  x_if_gt tgt hd ht (fun c => kt c ((h_if h).1 c)) (fun c => kf (by first | exact c | exact (fun q => q c)) ((h_if h).2 (by first | exact c | exact (fun q => q c))))
theorem h_if_le {x : Int32} {off : Int} (tgt : Nat) {A B : XP} (hd : decode (yb y) pc = .ok (.ifCond .le off, 3)) (ht : (pc : Int) + off = (tgt : Int)) (h : (if x ≤ 0 then A else B) = some (o, N)) (kt : x ≤ 0 → A = some (o, N) → cA K y tgt L S M o N) (kf : ¬ x ≤ 0 → B = some (o, N) → cA K y (pc + 3) L S M o N) : cA K y pc L (.int x :: S) M o N :=
  x_if_le tgt hd ht (fun c => kt c ((h_if h).1 c)) (fun c => kf (by first | exact c | exact (fun q => q c)) ((h_if h).2 (by first | exact c | exact (fun q => q c))))
theorem h_icmp_eq {x z : Int32} {off : Int} (tgt : Nat) {A B : XP} (hd : decode (yb y) pc = .ok (.if_icmp .eq off, 3)) (ht : (pc : Int) + off = (tgt : Int)) (h : (if x = z then A else B) = some (o, N)) (kt : x = z → A = some (o, N) → cA K y tgt L S M o N) (kf : ¬ x = z → B = some (o, N) → cA K y (pc + 3) L S M o N) : cA K y pc L (.int z :: .int x :: S) M o N :=
  x_icmp_eq tgt hd ht (fun c => kt c ((h_if h).1 c)) (fun c => kf (by first | exact c | exact (fun q => q c)) ((h_if h).2 (by first | exact c | exact (fun q => q c))))
theorem h_icmp_ne {x z : Int32} {off : Int} (tgt : Nat) {A B : XP} (hd : decode (yb y) pc = .ok (.if_icmp .ne off, 3)) (ht : (pc : Int) + off = (tgt : Int)) (h : (if ¬ x = z then A else B) = some (o, N)) (kt : ¬ x = z → A = some (o, N) → cA K y tgt L S M o N) (kf : ¬ ¬ x = z → B = some (o, N) → cA K y (pc + 3) L S M o N) : cA K y pc L (.int z :: .int x :: S) M o N :=
  x_icmp_ne tgt hd ht (fun c => kt c ((h_if h).1 c)) (fun c => kf (by first | exact c | exact (fun q => q c)) ((h_if h).2 (by first | exact c | exact (fun q => q c))))
theorem h_icmp_lt {x z : Int32} {off : Int} (tgt : Nat) {A B : XP} (hd : decode (yb y) pc = .ok (.if_icmp .lt off, 3)) (ht : (pc : Int) + off = (tgt : Int)) (h : (if x < z then A else B) = some (o, N)) (kt : x < z → A = some (o, N) → cA K y tgt L S M o N) (kf : ¬ x < z → B = some (o, N) → cA K y (pc + 3) L S M o N) : cA K y pc L (.int z :: .int x :: S) M o N :=
  x_icmp_lt tgt hd ht (fun c => kt c ((h_if h).1 c)) (fun c => kf (by first | exact c | exact (fun q => q c)) ((h_if h).2 (by first | exact c | exact (fun q => q c))))
theorem h_icmp_ge {x z : Int32} {off : Int} (tgt : Nat) {A B : XP} (hd : decode (yb y) pc = .ok (.if_icmp .ge off, 3)) (ht : (pc : Int) + off = (tgt : Int)) (h : (if z ≤ x then A else B) = some (o, N)) (kt : z ≤ x → A = some (o, N) → cA K y tgt L S M o N) (kf : ¬ z ≤ x → B = some (o, N) → cA K y (pc + 3) L S M o N) : cA K y pc L (.int z :: .int x :: S) M o N :=
  x_icmp_ge tgt hd ht (fun c => kt c ((h_if h).1 c)) (fun c => kf (by first | exact c | exact (fun q => q c)) ((h_if h).2 (by first | exact c | exact (fun q => q c))))
theorem h_icmp_gt {x z : Int32} {off : Int} (tgt : Nat) {A B : XP} (hd : decode (yb y) pc = .ok (.if_icmp .gt off, 3)) (ht : (pc : Int) + off = (tgt : Int)) (h : (if z < x then A else B) = some (o, N)) (kt : z < x → A = some (o, N) → cA K y tgt L S M o N) (kf : ¬ z < x → B = some (o, N) → cA K y (pc + 3) L S M o N) : cA K y pc L (.int z :: .int x :: S) M o N :=
  x_icmp_gt tgt hd ht (fun c => kt c ((h_if h).1 c)) (fun c => kf (by first | exact c | exact (fun q => q c)) ((h_if h).2 (by first | exact c | exact (fun q => q c))))
theorem h_icmp_le {x z : Int32} {off : Int} (tgt : Nat) {A B : XP} (hd : decode (yb y) pc = .ok (.if_icmp .le off, 3)) (ht : (pc : Int) + off = (tgt : Int)) (h : (if x ≤ z then A else B) = some (o, N)) (kt : x ≤ z → A = some (o, N) → cA K y tgt L S M o N) (kf : ¬ x ≤ z → B = some (o, N) → cA K y (pc + 3) L S M o N) : cA K y pc L (.int z :: .int x :: S) M o N :=
  x_icmp_le tgt hd ht (fun c => kt c ((h_if h).1 c)) (fun c => kf (by first | exact c | exact (fun q => q c)) ((h_if h).2 (by first | exact c | exact (fun q => q c))))
theorem h_getI (G : xG K) {ci j index a : Nat} {q : String × List XF} {f : XF} {F : Int32 → XP} (hd : decode (yb y) pc = .ok (.getfield index, 3)) (hq : xcl[ci]? = some q) (hf : q.2[j]? = some f) (hr : f.2.2.2 = false) (hk : Cond.fieldLink (ym y).cls index q.1 f.1 f.2.1 ∈ lw_tbl)
    (h : gI M (20 + ci) a j F = some (o, N)) (k : ∀ t, F t = some (o, N) → cA K y (pc + 3) L (.int t :: S) M o N) : cA K y pc L (.ref a :: S) M o N := by
  obtain ⟨⟨h1, h2⟩, h⟩ := h_ok h
  exact x_getI G hd hq hf hr hk h1 h2 (k _ h)
theorem h_getR (G : xG K) {ci j index a : Nat} {q : String × List XF} {f : XF} {F : Nat → XP} (hd : decode (yb y) pc = .ok (.getfield index, 3)) (hq : xcl[ci]? = some q) (hf : q.2[j]? = some f) (hr : f.2.2.2 = true) (hk : Cond.fieldLink (ym y).cls index q.1 f.1 f.2.1 ∈ lw_tbl)
    (h : gR M (20 + ci) a j F = some (o, N)) (k : ∀ t, F t = some (o, N) → cA K y (pc + 3) L (.ref t :: S) M o N) : cA K y pc L (.ref a :: S) M o N := by
  obtain ⟨⟨h1, h2⟩, h⟩ := h_ok h
  cases hb : xr M a j with
  | none => rw [hb] at h; cases h
  | some b =>
    rw [hb] at h
    exact x_getR G hd hq hf hr hk h1 h2 hb (k _ h)
theorem h_putI (G : xG K) {ci j index a : Nat} {q : String × List XF} {f : XF} {x : Int32} {F : XM → XP} (hd : decode (yb y) pc = .ok (.putfield index, 3)) (hq : xcl[ci]? = some q) (hf : q.2[j]? = some f) (hr : f.2 = ("I", false, false)) (hk : Cond.fieldLink (ym y).cls index q.1 f.1 f.2.1 ∈ lw_tbl)
    (h : uI M (20 + ci) a j x F = some (o, N)) (k : ∀ M1, F M1 = some (o, N) → cA K y (pc + 3) L S M1 o N) : cA K y pc L (.int x :: .ref a :: S) M o N := by
  obtain ⟨⟨h1, h2⟩, h⟩ := h_ok h
  exact x_putI G hd hq hf hr hk h1 h2 (k _ h)
theorem h_putZ (G : xG K) {ci j index a : Nat} {q : String × List XF} {f : XF} {x : Int32} {F : XM → XP} (hd : decode (yb y) pc = .ok (.putfield index, 3)) (hq : xcl[ci]? = some q) (hf : q.2[j]? = some f) (hr : f.2 = ("Z", false, false)) (hk : Cond.fieldLink (ym y).cls index q.1 f.1 f.2.1 ∈ lw_tbl)
    (h : uZ M (20 + ci) a j x F = some (o, N)) (k : ∀ M1, F M1 = some (o, N) → cA K y (pc + 3) L S M1 o N) : cA K y pc L (.int x :: .ref a :: S) M o N := by
  obtain ⟨⟨⟨h1, h2⟩, h3⟩, h⟩ := h_ok h
  exact x_putZ G hd hq hf hr hk h1 h2 h3 (k _ h)
theorem h_putR (G : xG K) {ci j index a b : Nat} {q : String × List XF} {f : XF} {F : XM → XP} (hd : decode (yb y) pc = .ok (.putfield index, 3)) (hq : xcl[ci]? = some q) (hf : q.2[j]? = some f) (hr : f.2.2.2 = true) (hk : Cond.fieldLink (ym y).cls index q.1 f.1 f.2.1 ∈ lw_tbl)
    (hfin : f.2.2.1 = false ∨ (ym y).name = "<init>" ∧ (ym y).cls = q.1) (hn : ∀ r, narrow (xfty f) (.ref r) = .ref r) (hfit : ∀ r, fits (xfty f) (.ref r) = true)
    (h : uR M (20 + ci) a j b F = some (o, N)) (k : ∀ M1, F M1 = some (o, N) → cA K y (pc + 3) L S M1 o N) : cA K y pc L (.ref b :: .ref a :: S) M o N := by
  obtain ⟨⟨h1, h2⟩, h⟩ := h_ok h
  exact x_putR G hd hq hf hr hk hfin h1 h2 hn hfit (k _ h)
theorem h_iaload {a : Nat} {j : Int32} {F : Int32 → XP} (hd : decode (yb y) pc = .ok (.iaload, 1)) (h : aI M a j F = some (o, N)) (k : ∀ t, F t = some (o, N) → cA K y (pc + 1) L (.int t :: S) M o N) : cA K y pc L (.int j :: .ref a :: S) M o N := by
  obtain ⟨⟨⟨h1, h2⟩, h3⟩, h⟩ := h_ok h
  exact x_iaload hd h1 h2 h3 (k _ h)
theorem h_baload {a : Nat} {j : Int32} {F : Int32 → XP} (hd : decode (yb y) pc = .ok (.baload, 1)) (h : aZ M a j F = some (o, N)) (k : ∀ t, F t = some (o, N) → cA K y (pc + 1) L (.int t :: S) M o N) : cA K y pc L (.int j :: .ref a :: S) M o N := by
  obtain ⟨⟨⟨h1, h2⟩, h3⟩, h⟩ := h_ok h
  exact x_baload hd h1 h2 h3 (k _ h)
theorem h_laload {a : Nat} {j : Int32} {F : Int64 → XP} (hd : decode (yb y) pc = .ok (.laload, 1)) (h : aJ M a j F = some (o, N)) (k : ∀ t, F t = some (o, N) → cA K y (pc + 1) L (.long t :: S) M o N) : cA K y pc L (.int j :: .ref a :: S) M o N := by
  obtain ⟨⟨⟨h1, h2⟩, h3⟩, h⟩ := h_ok h
  exact x_laload hd h1 h2 h3 (k _ h)
theorem h_aaload {kd a : Nat} {j : Int32} {ty : FieldType} {F : Nat → XP} (hd : decode (yb y) pc = .ok (.aaload, 1)) (hk : 10 ≤ kd) (hy : xar kd = some ty) (href : ty.isReference = true) (h : aR M kd a j F = some (o, N)) (k : ∀ t, F t = some (o, N) → cA K y (pc + 1) L (.ref t :: S) M o N) : cA K y pc L (.int j :: .ref a :: S) M o N := by
  obtain ⟨⟨⟨h1, h2⟩, h3⟩, h⟩ := h_ok h
  cases hb : xr M a j.toNatClampNeg with
  | none => rw [hb] at h; cases h
  | some b =>
    rw [hb] at h
    exact x_aaload hd h1 (by rw [h2]; exact hk) (by rw [h2]; exact hy) href h3 hb (k _ h)
theorem h_iastore (G : xG K) {a : Nat} {j x : Int32} {F : XM → XP} (hd : decode (yb y) pc = .ok (.iastore, 1)) (h : sI M a j x F = some (o, N)) (k : ∀ M1, F M1 = some (o, N) → cA K y (pc + 1) L S M1 o N) : cA K y pc L (.int x :: .int j :: .ref a :: S) M o N := by
  obtain ⟨⟨⟨h1, h2⟩, h3⟩, h⟩ := h_ok h
  exact x_iastore G hd h1 h2 h3 (k _ h)
theorem h_bastore (G : xG K) {a : Nat} {j x : Int32} {F : XM → XP} (hd : decode (yb y) pc = .ok (.bastore, 1)) (h : sZ M a j x F = some (o, N)) (k : ∀ M1, F M1 = some (o, N) → cA K y (pc + 1) L S M1 o N) : cA K y pc L (.int x :: .int j :: .ref a :: S) M o N := by
  obtain ⟨⟨⟨⟨h1, h2⟩, h3⟩, h4⟩, h⟩ := h_ok h
  exact x_bastore G hd h1 h2 h3 h4 (k _ h)
theorem h_lastore (G : xG K) {a : Nat} {j : Int32} {x : Int64} {F : XM → XP} (hd : decode (yb y) pc = .ok (.lastore, 1)) (h : sJ M a j x F = some (o, N)) (k : ∀ M1, F M1 = some (o, N) → cA K y (pc + 1) L S M1 o N) : cA K y pc L (.long x :: .int j :: .ref a :: S) M o N := by
  obtain ⟨⟨⟨h1, h2⟩, h3⟩, h⟩ := h_ok h
  exact x_lastore G hd h1 h2 h3 (k _ h)
theorem h_aastore (G : xG K) {kd ci a b : Nat} {j : Int32} {q : String × List XF} {F : XM → XP} (hd : decode (yb y) pc = .ok (.aastore, 1)) (hk1 : 10 ≤ kd) (hk2 : kd < 20) (hq : xcl[ci]? = some q) (hy : xar kd = some (.object q.1)) (h : sR M kd ci a j b F = some (o, N)) (k : ∀ M1, F M1 = some (o, N) → cA K y (pc + 1) L S M1 o N) : cA K y pc L (.ref b :: .int j :: .ref a :: S) M o N := by
  obtain ⟨⟨⟨⟨h1, h2⟩, h3⟩, h4, h5⟩, h⟩ := h_ok h
  exact x_aastore G hd h1 (by rw [h2]; exact hk1) (by rw [h2]; exact hk2) hq (by rw [h2]; exact hy) h3 h4 h5 (k _ h)
theorem h_arraylength {a : Nat} {F : Int32 → XP} (hd : decode (yb y) pc = .ok (.arraylength, 1)) (h : aL M a F = some (o, N)) (k : ∀ t, F t = some (o, N) → cA K y (pc + 1) L (.int t :: S) M o N) : cA K y pc L (.ref a :: S) M o N := by
  obtain ⟨⟨h1, h2⟩, h⟩ := h_ok h
  obtain ⟨ty, hty⟩ := Option.isSome_iff_exists.mp h2
  exact x_arraylength hd h1 hty rfl (k _ h)
theorem h_new (G : xG K) {ci index n : Nat} {q : String × List XF} {F : Nat → XM → XP} (hd : decode (yb y) pc = .ok (.new index, 3)) (hq : xcl[ci]? = some q) (hn : q.2.length = n) (hk : Cond.classLink (ym y).cls index q.1 ∈ lw_tbl) (hini : Cond.initialized q.1 ∈ lw_tbl)
    (h : nO M (20 + ci) n F = some (o, N)) (k : ∀ a M1, F a M1 = some (o, N) → cA K y (pc + 3) L (.ref a :: S) M1 o N) : cA K y pc L S M o N := by
  subst hn
  obtain ⟨⟨h1, h2⟩, h⟩ := h_ok h
  exact x_new G hd hq hk hini h1 h2 (k _ _ h)
theorem h_newarray (G : xG K) {at0 : ArrayType} {kd : Nat} {v : Int32} {ty : FieldType} {F : Nat → XM → XP} (hd : decode (yb y) pc = .ok (.newarray at0, 2)) (hty : newarray.typeOf at0 = ty) (hw : Cond.arrayClass ty ∈ lw_tbl) (har : xar kd = some ty) (hkd : kd < 3) (hb : componentBytes ty ≤ 8)
    (h : nA M kd v F = some (o, N)) (k : ∀ a M1, F a M1 = some (o, N) → cA K y (pc + 2) L (.ref a :: S) M1 o N) : cA K y pc L (.int v :: S) M o N := by
  obtain ⟨⟨⟨h1, h2⟩, h3, h4⟩, h⟩ := h_ok h
  refine x_newarray G hd hty hw har hkd h1 rfl ?_ h3 h4 (k _ _ h)
  exact Nat.le_trans (Nat.mul_le_mul h2 hb) (by decide)
theorem h_anewarray (G : xG K) {index kd : Nat} {v : Int32} {nm : String} {F : Nat → XM → XP} (hd : decode (yb y) pc = .ok (.anewarray index, 3)) (hk : Cond.classLink (ym y).cls index nm ∈ lw_tbl) (hov : Cond.arrayOver (.object nm) ∈ lw_tbl) (har : xar kd = some (.object nm)) (hk1 : 10 ≤ kd) (hk2 : kd < 20)
    (h : nA M kd v F = some (o, N)) (k : ∀ a M1, F a M1 = some (o, N) → cA K y (pc + 3) L (.ref a :: S) M1 o N) : cA K y pc L (.int v :: S) M o N := by
  obtain ⟨⟨⟨h1, h2⟩, h3, h4⟩, h⟩ := h_ok h
  exact x_anewarray G hd hk hov har hk1 hk2 h1 rfl (by omega) h3 h4 (k _ _ h)
theorem h_throw (G : xG K) {ei ix isx ic : Nat} {X tx : String} (hX : xex[ei]? = some X) (d0 : decode (yb y) pc = .ok (.new ix, 3)) (d1 : decode (yb y) (pc + 3) = .ok (.dup, 1)) (d2 : decode (yb y) (pc + 4) = .ok (.ldc isx, 2)) (d3 : decode (yb y) (pc + 6) = .ok (.invokespecial ic, 3)) (d4 : decode (yb y) (pc + 9) = .ok (.athrow, 1))
    (hk : Cond.classLink (ym y).cls ix X ∈ lw_tbl) (hm : Cond.methodLink (ym y).cls ic (Bundle.initS X) ∈ lw_tbl) (hst : Cond.stringRef (ym y).cls isx tx ∈ lw_tbl) (hh : yh y = []) (hfr : 6 ≤ yf y) (hlo : 82 ≤ yl y) (h : tX M ei = some (o, N)) : cA K y pc L [] M o N := by
  obtain ⟨⟨h1, h2⟩, h⟩ := h_ok h
  cases h
  exact x_throw G hX d0 d1 d2 d3 d4 hk hm hst hh hfr hlo h1 h2
theorem h_idiv {x z : Int32} {F : XP} (hd : decode (yb y) pc = .ok (.idiv, 1)) (h : (if z = 0 then none else F) = some (o, N)) (k : F = some (o, N) → cA K y (pc + 1) L (.int (x / z) :: S) M o N) : cA K y pc L (.int z :: .int x :: S) M o N := by
  by_cases hz : z = 0
  · rw [if_pos hz] at h; cases h
  · rw [if_neg hz] at h; exact x_idiv hd hz (k h)
theorem h_ireturn {v : Int32} (hd : decode (yb y) pc = .ok (.ireturn, 1)) (hr : yr y = some .int) (h : (some (.inl (some (.int v)), M) : XP) = some (o, N)) : cA K y pc L [.int v] M o N := by
  cases h
  exact x_ireturn hd hr
theorem h_zreturn {v : Int32} (hd : decode (yb y) pc = .ok (.ireturn, 1)) (hr : yr y = some .boolean) (h : z01 v (some (.inl (some (.int v)), M)) = some (o, N)) : cA K y pc L [.int v] M o N := by
  obtain ⟨h1, h⟩ := h_ok h
  cases h
  exact x_zreturn hd hr (xnz h1).1
theorem h_areturn {a : Nat} {n : String} (hd : decode (yb y) pc = .ok (.areturn, 1)) (hr : yr y = some (.object n)) (h : (some (.inl (some (.ref a)), M) : XP) = some (o, N)) : cA K y pc L [.ref a] M o N := by
  cases h
  exact x_areturn hd hr
theorem h_return (hd : decode (yb y) pc = .ok (.return_, 1)) (hr : yr y = none) (h : (some (.inl none, M) : XP) = some (o, N)) : cA K y pc L [] M o N := by
  cases h
  exact x_return hd hr
/-- what a caller must know of the method that it calls -/
def xCal (y y2 : YT) (w : Nat) : Prop := yf y2 + 1 ≤ yf y ∧ w + (yn y2 + 11) + yl y2 ≤ yl y
def xOut (y : YT) (pc : Nat) : Prop := (yh y).all (fun q => !(decide (q.1 ≤ pc) && decide (pc < q.2.1))) = true
def xMet (y2 : YT) : Prop := yw y2 ∈ lw_tbl ∧ Cond.initialized (ym y2).cls ∈ lw_tbl
theorem h_callI (G : xG K) {y2 : YT} {A S' : List Value} {g : XP} {F : Int32 → XM → XP} (hs : xSite K y pc y2 A S' S M) (hm : xMet y2) (hc : xCal y y2 (S.map fun v => v.category).sum) (ho : xOut y pc) (hg : ∀ o1 M1, g = some (o1, M1) → Ct K y2 A M o1 M1)
    (h : cI g F = some (o, N)) (k : ∀ v M1, F v M1 = some (o, N) → cA K y (pc + 3) L (.int v :: S) M1 o N) : cA K y pc L S' M o N := by
  cases g with
  | none => cases h
  | some r =>
    obtain ⟨o1, M1⟩ := r
    cases o1 with
    | inr a =>
      cases h
      exact x_call G hs (hg _ _ rfl) hc.1 hc.2 hm.1 hm.2 (fun v hv => by cases hv) (fun b hb => by cases hb; exact cT_out ho)
    | inl v =>
      cases v with
      | none => cases h
      | some w =>
        cases w with
        | int x => exact x_call G hs (hg _ _ rfl) hc.1 hc.2 hm.1 hm.2 (fun v hv => by cases hv; exact k x M1 h) (fun b hb => by cases hb)
        | _ => cases h
theorem h_callV (G : xG K) {y2 : YT} {A S' : List Value} {g : XP} {F : XM → XP} (hs : xSite K y pc y2 A S' S M) (hm : xMet y2) (hc : xCal y y2 (S.map fun v => v.category).sum) (ho : xOut y pc) (hg : ∀ o1 M1, g = some (o1, M1) → Ct K y2 A M o1 M1)
    (h : cV g F = some (o, N)) (k : ∀ M1, F M1 = some (o, N) → cA K y (pc + 3) L S M1 o N) : cA K y pc L S' M o N := by
  cases g with
  | none => cases h
  | some r =>
    obtain ⟨o1, M1⟩ := r
    cases o1 with
    | inr a =>
      cases h
      exact x_call G hs (hg _ _ rfl) hc.1 hc.2 hm.1 hm.2 (fun v hv => by cases hv) (fun b hb => by cases hb; exact cT_out ho)
    | inl v =>
      cases v with
      | some w => cases h
      | none => exact x_call G hs (hg _ _ rfl) hc.1 hc.2 hm.1 hm.2 (fun v hv => by cases hv; exact k M1 h) (fun b hb => by cases hb)
theorem h_callR (G : xG K) {y2 : YT} {A S' : List Value} {g : XP} {F : Nat → XM → XP} (hs : xSite K y pc y2 A S' S M) (hm : xMet y2) (hc : xCal y y2 (S.map fun v => v.category).sum) (ho : xOut y pc) (hg : ∀ o1 M1, g = some (o1, M1) → Ct K y2 A M o1 M1)
    (h : cR g F = some (o, N)) (k : ∀ v M1, F v M1 = some (o, N) → cA K y (pc + 3) L (.ref v :: S) M1 o N) : cA K y pc L S' M o N := by
  cases g with
  | none => cases h
  | some r =>
    obtain ⟨o1, M1⟩ := r
    cases o1 with
    | inr a =>
      cases h
      exact x_call G hs (hg _ _ rfl) hc.1 hc.2 hm.1 hm.2 (fun v hv => by cases hv) (fun b hb => by cases hb; exact cT_out ho)
    | inl v =>
      cases v with
      | none => cases h
      | some w =>
        cases w with
        | ref x => exact x_call G hs (hg _ _ rfl) hc.1 hc.2 hm.1 hm.2 (fun v hv => by cases hv; exact k x M1 h) (fun b hb => by cases hb)
        | _ => cases h
theorem h_hI (G : xG K) {y2 : YT} {A S' : List Value} {g : XP} {F : Int32 → XM → XP} {E : Nat → XM → XP} (hs : xSite K y pc y2 A S' S M) (hm : xMet y2) (hc : xCal y y2 (S.map fun v => v.category).sum) (hg : ∀ o1 M1, g = some (o1, M1) → Ct K y2 A M o1 M1)
    (h : hI g F E = some (o, N)) (k : ∀ v M1, F v M1 = some (o, N) → cA K y (pc + 3) L (.int v :: S) M1 o N) (ke : ∀ a M1, E a M1 = some (o, N) → cT K y pc L a M1 o N) : cA K y pc L S' M o N := by
  cases g with
  | none => cases h
  | some r =>
    obtain ⟨o1, M1⟩ := r
    cases o1 with
    | inr a => exact x_call G hs (hg _ _ rfl) hc.1 hc.2 hm.1 hm.2 (fun v hv => by cases hv) (fun b hb => by cases hb; exact ke a M1 h)
    | inl v =>
      cases v with
      | none => cases h
      | some w =>
        cases w with
        | int x => exact x_call G hs (hg _ _ rfl) hc.1 hc.2 hm.1 hm.2 (fun v hv => by cases hv; exact k x M1 h) (fun b hb => by cases hb)
        | _ => cases h
theorem h_hV (G : xG K) {y2 : YT} {A S' : List Value} {g : XP} {F : XM → XP} {E : Nat → XM → XP} (hs : xSite K y pc y2 A S' S M) (hm : xMet y2) (hc : xCal y y2 (S.map fun v => v.category).sum) (hg : ∀ o1 M1, g = some (o1, M1) → Ct K y2 A M o1 M1)
    (h : hV g F E = some (o, N)) (k : ∀ M1, F M1 = some (o, N) → cA K y (pc + 3) L S M1 o N) (ke : ∀ a M1, E a M1 = some (o, N) → cT K y pc L a M1 o N) : cA K y pc L S' M o N := by
  cases g with
  | none => cases h
  | some r =>
    obtain ⟨o1, M1⟩ := r
    cases o1 with
    | inr a => exact x_call G hs (hg _ _ rfl) hc.1 hc.2 hm.1 hm.2 (fun v hv => by cases hv) (fun b hb => by cases hb; exact ke a M1 h)
    | inl v =>
      cases v with
      | some w => cases h
      | none => exact x_call G hs (hg _ _ rfl) hc.1 hc.2 hm.1 hm.2 (fun v hv => by cases hv; exact k M1 h) (fun b hb => by cases hb)
theorem h_catch (G : xG K) {a ei : Nat} {X : String} {A B : XP} (hX : xex[ei]? = some X) (pre : List ((Nat × Nat × Nat × Nat) × String)) (x : Nat × Nat × Nat × Nat) (rest : List (Nat × Nat × Nat × Nat)) (hh : yh y = pre.map (fun q => q.1) ++ x :: rest)
    (hp : ∀ q ∈ pre, q.1.1 ≤ pc ∧ pc < q.1.2.1 ∧ q.1.2.2.2 ≠ 0 ∧ Cond.classLink (ym y).cls q.1.2.2.2 q.2 ∈ lw_tbl ∧ q.2 ∈ xex ∧ X ≠ q.2) (hx : x.1 ≤ pc ∧ pc < x.2.1 ∧ x.2.2.2 ≠ 0 ∧ Cond.classLink (ym y).cls x.2.2.2 X ∈ lw_tbl)
    (h : (if a < xz M ∧ (xt M a).1 = 40 + ei then A else B) = some (o, N)) (k : A = some (o, N) → cA K y x.2.2.1 L [.ref a] M o N) (kn : B = some (o, N) → cT K y pc L a M o N) : cT K y pc L a M o N := by
  by_cases hc : a < xz M ∧ (xt M a).1 = 40 + ei
  · rw [if_pos hc] at h
    exact cT_catch G hX hc.1 hc.2 pre x rest hh hp hx (k h)
  · rw [if_neg hc] at h
    exact kn h
end XR
/-- how often a loop may go round -/
def FU : Nat := 5000
def rv (M : XM) (k a : Nat) (f : XP) : XP := if a < xz M ∧ (xt M a).1 = k then f else none
theorem h_case {c P : Prop} [Decidable c] {A B : XP} {o : XO} {N : XM} (h : (if c then A else B) = some (o, N)) (k1 : c → A = some (o, N) → P) (k2 : ¬ c → B = some (o, N) → P) : P := by
  by_cases hc : c
  · rw [if_pos hc] at h; exact k1 hc h
  · rw [if_neg hc] at h; exact k2 hc h
end
section
/-! arrays of arrays -/
def xfl (M : XM) (a m : Nat) : Nat → XM
  | 0 => M
  | i + 1 => xpr (xnw (xfl M a m i) 0 m m) a i (xz (xfl M a m i))
def mA (M : XM) (x z : Int32) (f : Nat → XM → XP) : XP :=
  if (¬ x < 0 ∧ ¬ z < 0 ∧ x.toNatClampNeg ≤ 1000 ∧ z.toNatClampNeg ≤ 1000) ∧ xz M + (1 + x.toNatClampNeg) ≤ ZM ∧ xu M + (x.toNatClampNeg + x.toNatClampNeg * z.toNatClampNeg) ≤ UM then
    f (xz M) (xfl (xnw M 13 x.toNatClampNeg x.toNatClampNeg) (xz M) z.toNatClampNeg x.toNatClampNeg) else none
/-- what 'newArray' does, room and limits being there -/
theorem xm_newArray {E : CtlPost} {e : Env} {d : Bool} {acts : List Action} {s : State} {c comp : ClassId} {k : Class} {ty : FieldType} {n : Nat} {v : Value} {Q : Addr → Pre} (hk : s.vm.classes[c]? = some k) (hkind : k.kind = .array comp ty) (hn : n ≤ 1000) (hl : e.platform.arrayLengthLimit = 2147483645) (hb : e.platform.maxHeapBytes = 536870912) (hcb : componentBytes ty ≤ 8) (hfit : fits ty v = true) (hdef : v.isDefault = true)
    (h1 : s.heap.size < e.platform.maxCells) (h2 : s.slotsUsed + n ≤ e.platform.maxSlots) (hq : Q s.heap.size d acts (s.pushCell { cls := c, slots := Array.replicate n v, vm := .none })) : wp (Jvm.newArray c n v) Q E e d acts s := by
  have hmul : n * componentBytes ty ≤ 1000 * 8 := Nat.mul_le_mul hn hcb
  have e1 : ¬ n > e.platform.arrayLengthLimit := by omega
  have e2 : ¬ n * componentBytes ty > e.platform.maxHeapBytes := by omega
  have e3 : allocActs (Array.replicate n v) s.heap.size acts = acts := by
    unfold allocActs
    rw [if_pos]
    rw [Array.all_replicate]
    split <;> simp [hdef]
  simp only [Jvm.newArray, Jvm.arrayFits, wp_bind', W.ask, W.ite, e1, if_false, wp_pure', W.theClass, hk, hkind, e2, W.alloc, W.stop, Option.some.injEq, exists_eq_left', Array.size_replicate, e3]
  rw [if_neg (by omega)]
  refine ⟨h1, h2, fun i w hw => ?_, hq⟩
  simp only [Array.getElem?_replicate] at hw
  split at hw
  · cases hw
    simp [State.fitsSlot, State.slotType?, hk, hkind, hfit]
  · cases hw
section XR
variable {K : XK} {y : YT} {pc : Nat} {L : XL} {S : List Value} {M N : XM} {o : XO}
theorem xfl_z (M : XM) (a m : Nat) : ∀ i, xz (xfl M a m i) = xz M + i ∧ xu (xfl M a m i) = xu M + i * m
  | 0 => ⟨rfl, by simp [xfl]⟩
  | i + 1 => by
    obtain ⟨h1, h2⟩ := xfl_z M a m i
    refine ⟨?_, ?_⟩
    · show xz (xfl M a m i) + 1 = _
      omega
    · show xu (xfl M a m i) + m = _
      rw [h2, Nat.succ_mul]; omega
theorem xfl_t (M : XM) (a m : Nat) (ha : a < xz M) : ∀ i, xt (xfl M a m i) a = xt M a
  | 0 => rfl
  | i + 1 => by
    show (if a = xz (xfl M a m i) then (0, m) else xt (xfl M a m i) a) = _
    rw [if_neg (by rw [(xfl_z M a m i).1]; omega)]
    exact xfl_t M a m ha i
def xrow (comp : ClassId) (m : Nat) : Cell := { cls := comp, slots := Array.replicate m (.int 0), vm := .none }
/-- the machine's state, row after row -/
def xfs (T : State) (a : Nat) (comp : ClassId) (m : Nat) : Nat → State
  | 0 => T
  | i + 1 => ((xfs T a comp m i).pushCell (xrow comp m)).setCell a ((((xfs T a comp m i).heap[a]?).getD (xrow comp m)).setSlot i (.ref (xfs T a comp m i).heap.size))
theorem xfs_top (T : State) (f : JFrame) (a : Nat) (comp : ClassId) (m : Nat) : ∀ i, xfs (T.setTop f) a comp m i = (xfs T a comp m i).setTop f
  | 0 => rfl
  | i + 1 => by simp only [xfs, xfs_top T f a comp m i, State.heap_setTop, State.pushCell_setTop, State.setCell_setTop]
theorem xfs_cell {T : State} {a m : Nat} {comp c0 : ClassId} (h : ∃ cell, T.heap[a]? = some cell ∧ cell.cls = c0 ∧ cell.vm = .none) : ∀ i, ∃ cell, (xfs T a comp m i).heap[a]? = some cell ∧ cell.cls = c0 ∧ cell.vm = .none
  | 0 => h
  | i + 1 => by
    obtain ⟨cell, h1, h2, h3⟩ := xfs_cell (comp := comp) (m := m) h i
    have hlt := (Array.getElem?_eq_some_iff.mp h1).1
    refine ⟨cell.setSlot i (.ref (xfs T a comp m i).heap.size), ?_, h2, h3⟩
    show (Array.setIfInBounds (Array.push (xfs T a comp m i).heap _) _ _)[_]? = _
    rw [h1, Array.getElem?_setIfInBounds, if_pos rfl, if_pos (by rw [Array.size_push]; omega)]
    rfl
theorem xmo : Cond.arrayOver (.array .int) ∈ lw_tbl := by decide +kernel
theorem xma : Cond.arrayClass .int ∈ lw_tbl := by decide +kernel
theorem xfs_inv (G : xG K) {p : Program} {e : Env} {R : Room} {s : State} {m : MethodId} {args : Array Value} {below : List Frame} {meth : Method} {c : Code} {T : State} {locs : List Loc} {cells slots a w n : Nat} {comp cc : ClassId} {kC : Class} (X : Stand p (xl K) e R s m args below meth c T locs cells slots) (hl : ∀ q ∈ locs, xB K < q.base) (hH : xH K M T.heap) (h0 : xz M ≠ 0) (ha : a < xz M) (ht : xt M a = (13, n))
    (hkC : (xs K).vm.classes[comp]? = some kC) (hkind : kC.kind = .array cc .int) (hW : (xs K).WarmedH T.vm) : ∀ i, i ≤ n → ∃ locs', Stand p (xl K) e R s m args below meth c (xfs T (xa K a) comp w i) locs' (cells + i) (slots + i * w) ∧ (∀ q ∈ locs', xB K < q.base) ∧ xH K (xfl M a w i) (xfs T (xa K a) comp w i).heap ∧ (xfs T (xa K a) comp w i).vm = T.vm
  | 0, _ => ⟨locs, by simpa [xfs] using X, hl, hH, rfl⟩
  | i + 1, hi => by
    obtain ⟨locs', X1, l1, H1, v1⟩ := xfs_inv G X hl hH h0 ha ht hkC hkind hW i (by omega)
    obtain ⟨z1, z2⟩ := xfl_z M a w i
    have t1 : xt (xfl M a w i) a = (13, n) := (xfl_t M a w ha i).trans ht
    have hne : xz (xfl M a w i) ≠ 0 := by omega
    have hsz : (xfs T (xa K a) comp w i).heap.size = xa K (xz (xfl M a w i)) := by rw [H1.1, xa_pos hne]
    have H2 : xH K (xnw (xfl M a w i) 0 w w) ((xfs T (xa K a) comp w i).pushCell (xrow comp w)).heap := by
      refine xH_new G H1 hne (size_pushCell _ _) (fun q hq => by show (Array.push _ _)[q]? = _; rw [Array.getElem?_push, if_neg (Nat.ne_of_lt hq)]) ⟨fun ty h => ?_, fun c' q' h h' => ?_, fun c' nm h h' => ?_⟩
      · have h3 : xar 0 = some ty := by simpa [xnw, xt] using h
        cases h3
        have h4 : (xt (xnw (xfl M a w i) 0 w w) (xz (xfl M a w i))) = (0, w) := by simp [xnw, xt]
        refine ⟨xrow comp w, by rw [← hsz]; show (Array.push _ _)[_]? = _; rw [Array.getElem?_push_size], ⟨⟨fun z h => (by cases h), kC, hkC, cc, hkind⟩, fun nm hnm => by cases hnm⟩, fun h => (by cases h), by rw [h4]; simp [xrow], fun j hj => ?_⟩
        rw [h4] at hj
        have hj' : j < w := hj
        unfold xval
        rw [h4]
        simp [xrow, xnw, xi, hj']
      · have h3 : 0 = 20 + c' := by simpa [xnw, xt] using h
        omega
      · have h3 : 0 = 40 + c' := by simpa [xnw, xt] using h
        omega
    have ha2 : a < xz (xnw (xfl M a w i) 0 w w) := by show a < xz (xfl M a w i) + 1; omega
    have t2 : xt (xnw (xfl M a w i) 0 w w) a = (13, n) := by
      show (if a = xz (xfl M a w i) then _ else _) = _
      rw [if_neg (by omega)]; exact t1
    obtain ⟨cell, a1, a2, a3, a4, a5⟩ := (H2.2.2.1 a ha2).1 (.array .int) (by rw [t2]; rfl)
    have hlt : xa K a < (xfs T (xa K a) comp w i).heap.size := by
      rw [H1.1, xa_pos (fun e => by have := H1.2.2.2; subst e; rw [t1] at this; cases this)]; omega
    have a1' : (xfs T (xa K a) comp w i).heap[xa K a]? = some cell := by
      have h5 : ((xfs T (xa K a) comp w i).heap.push (xrow comp w))[xa K a]? = some cell := a1
      rw [Array.getElem?_push, if_neg (Nat.ne_of_lt hlt)] at h5
      exact h5
    have X2 := (X1.pushed (xrow comp w)).stored a1 i (.ref (xfs T (xa K a) comp w i).heap.size)
    have e1 : (xrow comp w).slots.size = w := by simp [xrow]
    have hs1 : xfs T (xa K a) comp w (i + 1) = ((xfs T (xa K a) comp w i).pushCell (xrow comp w)).setCell (xa K a) (cell.setSlot i (.ref (xfs T (xa K a) comp w i).heap.size)) := by
      show State.setCell _ _ _ = _
      rw [a1']; rfl
    have hin : i < (xt (xnw (xfl M a w i) 0 w w) a).2 := by rw [t2]; show i < n; omega
    obtain ⟨ha0, H3⟩ := xH_ast (M1 := xfl M a w (i + 1)) (J := (xfs T (xa K a) comp w (i + 1)).heap) (v := .ref (xfs T (xa K a) comp w i).heap.size) G H2 ha2 (by rw [t2]; exact (by decide : (13 : Nat) ≠ 5)) (by rw [t2]; exact (by decide : (13 : Nat) < 20)) (by rw [t2]; rfl) a1 a2 a3 a4 a5 hin rfl rfl
      (fun b hb => ⟨fun j => rfl, fun j => by show (if b = a ∧ j = i then _ else _) = _; rw [if_neg (fun q => hb q.1)], fun j => rfl⟩)
      (fun j hj => xval_congr rfl rfl (by show (if a = a ∧ j = i then _ else _) = _; rw [if_neg (fun q => hj q.2)]) rfl)
      (by
        unfold xval
        rw [show xt (xfl M a w (i + 1)) a = (13, n) from t2, if_neg (by exact (by decide : ¬ (13 : Nat) < 10)), show xr (xfl M a w (i + 1)) a i = some (xz (xfl M a w i)) from by show (if a = a ∧ i = i then _ else _) = _; rw [if_pos ⟨rfl, rfl⟩], hsz]
        rfl)
      (by rw [hs1]; show (Array.setIfInBounds _ _ _)[_]? = _; rw [Array.getElem?_setIfInBounds, if_pos rfl, if_pos (Array.getElem?_eq_some_iff.mp a1).1]) (by rw [hs1]; exact size_setCell _ _ _) (fun q hq => by rw [hs1]; simp [State.setCell, Array.getElem?_setIfInBounds, Ne.symm hq])
    refine ⟨locs' ++ [⟨xa K a, i⟩], ?_, fun q hq => ?_, H3, ?_⟩
    · rw [hs1]
      rw [e1] at X2
      have e2 : slots + (i + 1) * w = slots + i * w + w := by rw [Nat.succ_mul]; omega
      rw [e2, show cells + (i + 1) = cells + i + 1 by omega]
      exact X2
    · rcases List.mem_append.mp hq with h | h
      · exact l1 q h
      · rw [List.mem_singleton.mp h]
        show xB K < xa K a
        rw [xa_pos ha0]; omega
    · rw [hs1]; exact v1
set_option maxHeartbeats 1000000 in
theorem h_multi (G : xG K) {index : Nat} {x z : Int32} {F : Nat → XM → XP} (hd : decode (yb y) pc = .ok (.multianewarray index 2, 4)) (hk : Cond.classLink (ym y).cls index "[[I" ∈ lw_tbl)
    (h : mA M x z F = some (o, N)) (k : ∀ a M1, F a M1 = some (o, N) → cA K y (pc + 4) L (.ref a :: S) M1 o N) : cA K y pc L (.int z :: .int x :: S) M o N := by
  obtain ⟨⟨⟨hx0, hz0, hx1, hz1⟩, hZ, hU⟩, h⟩ := h_ok h
  have kk := k _ _ h
  generalize hnn : x.toNatClampNeg = n at hx1 hZ hU kk
  generalize hmm : z.toNatClampNeg = w at hz1 hU kk
  intro p e R s m args below meth c H locs cells slots ls z0 u0 C hH hz hu hl
  intro T hT X
  subst hT
  have hW := C.2.2.2.2.2.2.2.2.1
  have hown := C.2.2.2.2.2.2.2.1
  have hzR := C.2.2.2.2.2.2.2.2.2.2.2.1
  have huR := C.2.2.2.2.2.2.2.2.2.2.2.2.1
  have hzne := C.2.2.2.2.2.2.2.2.2.2.2.2.2.2.1
  have hne : xz M ≠ 0 := by omega
  have hpl : e.platform.magicAccessors = ({} : Platform).magicAccessors := by rw [X.admits.platform]
  have hll := Launch.admits_arrayLengthLimit X.admits
  have hlb := Launch.admits_maxHeapBytes X.admits
  have hsz : T.heap.size = xa K (xz M) := by rw [hH.1, xa_pos hne]
  obtain ⟨comp, cA, kA, hcomp, -, hkA, hkindA, hnameA⟩ := arrayOverA_spec (G.2.2.1 _ xmo)
  obtain ⟨comp', kC, cc, hcomp', hkC, hkindC⟩ := Cond.arrayClass_spec (G.2.2.1 _ xma)
  have ecomp : comp' = comp := Option.some.inj (hcomp'.symm.trans hcomp)
  subst ecomp
  obtain ⟨c0, hfc0, hcl⟩ := Cond.classLink_spec hown (xw G rfl hk hW args) e.platform hpl
  have ec0 : c0 = cA := by
    have h1 : s.vm.findClass "[[I" = some cA := by rw [hW.alike.findClass]; exact hnameA
    exact Option.some.inj (hfc0.symm.trans h1)
  subst ec0
  obtain ⟨hg₁, hwarm₁, -⟩ := State.classEntry (e := e) X.warmed hcl
  generalize T.vm.noted m.cls index (.cls c0) = vm₁ at hg₁ hwarm₁
  have hWv : (xs K).WarmedH vm₁ := State.WarmedH.trans hW hwarm₁
  obtain ⟨kA₁, hkA₁, heA⟩ := hWv.alike.2.2 _ _ hkA
  obtain ⟨kC₁, hkC₁, heC⟩ := hWv.alike.2.2 _ _ hkC
  have hkindA₁ : kA₁.kind = .array comp' (.array .int) := by rw [heA]; exact hkindA
  have hkindC₁ : kC₁.kind = .array cc .int := by rw [heC]; exact hkindC
  have X1 := (X.noted hwarm₁).pushed { cls := c0, slots := Array.replicate n .null, vm := .none }
  rw [show (Array.replicate n Value.null).size = n from Array.size_replicate] at X1
  have H1 : xH K (xnw M 13 n n) ((T.setVm vm₁).pushCell { cls := c0, slots := Array.replicate n .null, vm := .none }).heap := by
    refine xH_new G hH hne (size_pushCell _ _) (fun q hq => by show (Array.push T.heap _)[q]? = _; rw [Array.getElem?_push, if_neg (Nat.ne_of_lt hq)]) ⟨fun ty h => ?_, fun c' q' h h' => ?_, fun c' nm h h' => ?_⟩
    · have h3 : xar 13 = some ty := by simpa [xnw, xt] using h
      cases h3
      have h4 : (xt (xnw M 13 n n) (xz M)) = (13, n) := by simp [xnw, xt]
      refine ⟨{ cls := c0, slots := Array.replicate n .null, vm := .none }, by rw [← hsz]; show (Array.push T.heap _)[_]? = _; rw [Array.getElem?_push_size], ⟨⟨fun z h => (by cases h), kA, hkA, comp', hkindA⟩, fun nm hnm => by cases hnm⟩, fun h => (by cases h), by rw [h4]; simp, fun j hj => ?_⟩
      rw [h4] at hj
      have hj' : j < n := hj
      unfold xval
      rw [h4]
      simp [xnw, xr, xrf, hj']
    · have h3 : 13 = 20 + c' := by simpa [xnw, xt] using h
      omega
    · have h3 : 13 = 40 + c' := by simpa [xnw, xt] using h
      omega
  have inv := fun i hi => xfs_inv (w := w) (n := n) (a := xz M) (M := xnw M 13 n n) G X1 C.2.2.2.2.2.2.2.2.2.2.2.2.2.2.2 H1 (by show xz M + 1 ≠ 0; omega) (by show xz M < xz M + 1; omega) (by simp [xnw, xt]) hkC hkindC hWv i hi
  obtain ⟨locsN, XN, lN, HN, vN⟩ := inv n (Nat.le_refl _)
  obtain ⟨zz, uu⟩ := xfl_z (xnw M 13 n n) (xz M) w n
  have zz' : xz (xfl (xnw M 13 n n) (xz M) w n) = xz M + 1 + n := zz
  have uu' : xu (xfl (xnw M 13 n n) (xz M) w n) = xu M + n + n * w := uu
  obtain ⟨t, a1, b1⟩ := kk p e R s m args below meth c _ locsN (cells + 1 + n) (slots + n + n * w) ls z0 u0
    ⟨C.1, C.2.1, C.2.2.1, C.2.2.2.1, C.2.2.2.2.1, C.2.2.2.2.2.1, C.2.2.2.2.2.2.1, C.2.2.2.2.2.2.2.1, C.2.2.2.2.2.2.2.2.1, C.2.2.2.2.2.2.2.2.2.1, C.2.2.2.2.2.2.2.2.2.2.1, C.2.2.2.2.2.2.2.2.2.2.2.1, C.2.2.2.2.2.2.2.2.2.2.2.2.1, C.2.2.2.2.2.2.2.2.2.2.2.2.2.1, C.2.2.2.2.2.2.2.2.2.2.2.2.2.2.1, lN⟩
    HN (by omega) (by omega) hl _ rfl XN
  refine ⟨t, ?_, b1⟩
  have hdg : decode c.code pc = .ok (.multianewarray index 2, 4) := by rw [C.2.1]; exact hd
  have hexec := C.1
  show Steps p.tables e below (T.setTop (F0 m pc ls (.int z :: .int x :: S.map (xv K)))) t
  jvm_step X.here [hexec, hdg]
  simp only [multianewarray.sem, wp_bind', W.resolveClassAt_links (vm' := vm₁) (State.method?_setTop (F0 m pc ls (.int z :: .int x :: S.map (xv K))) X.here.top) hg₁]
  rw [W.popN, if_neg (by decide)]
  refine ⟨F0 m pc ls (.int z :: .int x :: S.map (xv K)), State.topJava?_setTop' (s := T.setVm vm₁) _ X.here.top, [.int x, .int z], S.map (xv K), rfl, rfl, ?_⟩
  simp only [List.mapM_cons, List.mapM_nil, wp_bind', wp_pure']
  have eS : ((T.setTop (F0 m pc ls (.int z :: .int x :: S.map (xv K)))).setVm vm₁).setTop (F0 m pc ls (S.map (xv K))) = (T.setVm vm₁).setTop (F0 m pc ls (S.map (xv K))) := by
    show ((T.setVm vm₁).setTop _).setTop _ = _
    rw [State.setTop_setTop]
  show wp _ _ _ _ _ _ (((T.setTop (F0 m pc ls (.int z :: .int x :: S.map (xv K)))).setVm vm₁).setTop (F0 m pc ls (S.map (xv K))))
  rw [eS]
  have hroom1 : T.heap.size + (1 + n) ≤ e.platform.maxCells := X.cellsAbove (by omega)
  have hroom2 : T.slotsUsed + (n + n * w) ≤ e.platform.maxSlots := X.slotsAbove (by omega)
  rw [multianewarray.make]
  simp only [wp_bind', W.ite, hx0, if_false, wp_pure', W.theClass, State.vm_setTop, State.vm_setVm, hkA₁, hkindA₁, Option.some.injEq, exists_eq_left', hnn]
  refine xm_newArray (k := kA₁) (comp := comp') (ty := .array .int) hkA₁ hkindA₁ hx1 hll hlb (by decide) rfl rfl (by show T.heap.size < _; omega) (by show T.slotsUsed + _ ≤ _; omega) ?_
  have hfind : ([z].find? (· < 0)) = none := by simp [hz0]
  simp only [hfind]
  rw [ite_self, wp_bind', Std.Legacy.Range.forIn_eq_forIn_range']
  have hrs : ([:n] : Std.Legacy.Range).size = n := by simp [Std.Legacy.Range.size]
  rw [hrs]
  show wp (forIn (List.range' 0 n 1) PUnit.unit _) _ _ _ _ _ _
  refine wp_forIn_inv (fun rest s' => ∃ i, i ≤ n ∧ rest = List.range' i (n - i) ∧ s' = (xfs ((T.setVm vm₁).pushCell { cls := c0, slots := Array.replicate n .null, vm := .none }) (xa K (xz M)) comp' w i).setTop (F0 m pc ls (S.map (xv K)))) _ _ ⟨0, Nat.zero_le _, rfl, by rw [State.pushCell_setTop]; rfl⟩ ?_ ?_
  · rintro q rest s' d' acts' Q' ⟨i, hi, hq, rfl⟩ hnext
    have hlt : i < n := by
      rcases Nat.lt_or_ge i n with h | h
      · exact h
      · rw [show n - i = 0 by omega] at hq; cases hq
    rw [show n - i = (n - (i + 1)) + 1 by omega, List.range'_succ] at hq
    obtain ⟨rfl, hrest⟩ := List.cons.inj hq
    obtain ⟨locsI, XI, -, HI, vI⟩ := inv q hi
    obtain ⟨zI, uI⟩ := xfl_z (xnw M 13 n n) (xz M) w q
    have zI' : xz (xfl (xnw M 13 n n) (xz M) w q) = xz M + 1 + q := zI
    have hmul : q * w + w ≤ n * w := by
      have := Nat.mul_le_mul_right w (show q + 1 ≤ n from hlt)
      rw [Nat.succ_mul] at this; exact this
    have hsI : (xfs ((T.setVm vm₁).pushCell { cls := c0, slots := Array.replicate n .null, vm := .none }) (xa K (xz M)) comp' w q).heap.size < e.platform.maxCells := by
      have := XI.cellsAbove (n := 1) (by omega)
      omega
    have huI : (xfs ((T.setVm vm₁).pushCell { cls := c0, slots := Array.replicate n .null, vm := .none }) (xa K (xz M)) comp' w q).slotsUsed + w ≤ e.platform.maxSlots := XI.slotsAbove (n := w) (by omega)
    have vI' : (xfs ((T.setVm vm₁).pushCell { cls := c0, slots := Array.replicate n .null, vm := .none }) (xa K (xz M)) comp' w q).vm = vm₁ := vI
    obtain ⟨cell, c1, c2, c3⟩ := xfs_cell (T := (T.setVm vm₁).pushCell { cls := c0, slots := Array.replicate n .null, vm := .none }) (a := xa K (xz M)) (m := w) (comp := comp') (c0 := c0) ⟨_, by rw [← hsz]; show (Array.push T.heap _)[_]? = _; rw [Array.getElem?_push_size], rfl, rfl⟩ q
    obtain ⟨cell', d1, -, -, d4, -⟩ := (HI.2.2.1 (xz M) (by omega)).1 (.array .int) (by rw [xfl_t _ _ _ (by show xz M < xz M + 1; omega)]; simp [xnw, xt]; rfl)
    cases c1.symm.trans d1
    rw [xfl_t _ _ _ (by show xz M < xz M + 1; omega)] at d4
    have d4' : cell.slots.size = n := by rw [d4]; simp [xnw, xt]
    have hltc := (Array.getElem?_eq_some_iff.mp c1).1
    simp only [wp_bind']
    rw [multianewarray.make]
    simp only [wp_bind', W.ite, hz0, if_false, wp_pure', W.theClass, State.vm_setTop, vI', hkC₁, hkindC₁, Option.some.injEq, exists_eq_left', hmm]
    refine xm_newArray (k := kC₁) (comp := cc) (ty := .int) (by rw [State.vm_setTop, vI']; exact hkC₁) hkindC₁ hz1 hll hlb (by decide) rfl rfl hsI huI ?_
    simp only [wp_bind', W.writeLoc, wp_pure']
    have hsz' : ((T.setVm vm₁).setTop (F0 m pc ls (S.map (xv K)))).heap.size = xa K (xz M) := hsz
    rw [hsz']
    refine ⟨cell, ?_, (by rw [c3]; exact fun h => (by cases h)), (by rw [d4']; exact hlt), ?_, hnext _ _ _ ⟨q + 1, hlt, hrest, ?_⟩⟩
    · rw [State.pushCell_setTop, State.heap_setTop]
      show (Array.push _ _)[_]? = _
      rw [Array.getElem?_push, if_neg (Nat.ne_of_lt hltc)]
      exact c1
    · rw [c2, c3]
      show State.fitsSlot _ _ _ _ _ = true
      simp [State.fitsSlot, State.slotType?, vI', hkA₁, hkindA₁]
      rfl
    · rw [State.pushCell_setTop, State.setCell_setTop]
      show _ = State.setTop (State.setCell _ _ _) _
      rw [c1]
      rfl
  · rintro s' d' acts' ⟨i, hi, hq, rfl⟩
    have hiN : i = n := by
      rcases Nat.lt_or_ge i n with h | h
      · rw [show n - i = (n - (i + 1)) + 1 by omega, List.range'_succ] at hq; cases hq
      · omega
    subst hiN
    have hsz' : ((T.setVm vm₁).setTop (F0 m pc ls (S.map (xv K)))).heap.size = xa K (xz M) := hsz
    simp only [wp_pure', hsz', wp_bind', W.mark, W.pushRef, State.topJava?_setTop' _ XN.here.top, Option.some.injEq, exists_eq_left', State.setTop_setTop, State.heap_setTop]
    intro acts
    simp [jvm, XN.here.top]
    rw [hsz]
    exact a1
end XR
end
