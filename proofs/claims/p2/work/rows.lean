section
-- ===== PART A: goes FIRST, ahead of the names: the tables' words, and 'selects' of the private methods out of them =====
/-- a private method of a class that the tables say can be made, by its rows of tables_1 -/
def lw_okq (q : MethodName × Nat) : Prop := (q.1.cls ≠ "java/lang/invoke/MethodHandle" ∧ q.1.cls ≠ "java/lang/invoke/VarHandle") ∧ Cond.instantiable q.1.cls q.2 ∈ tables_1 ∧ Cond.privateMethod q.1 ∈ tables_1 ∧ Cond.instanceMethod q.1 ∈ tables_1
theorem lw_p0 : lw_okq (⟨"PairMachine$Machine", "setRegisters", "(J)V"⟩, 10) := ⟨⟨by decide +kernel, by decide +kernel⟩, List.mem_of_getElem? (i := 149) (by decide +kernel), List.mem_of_getElem? (i := 334) (by decide +kernel), List.mem_of_getElem? (i := 335) (by decide +kernel)⟩
theorem lw_p1 : lw_okq (⟨"PairMachine$Store", "reach", "(J)V"⟩, 9) := ⟨⟨by decide +kernel, by decide +kernel⟩, List.mem_of_getElem? (i := 155) (by decide +kernel), List.mem_of_getElem? (i := 366) (by decide +kernel), List.mem_of_getElem? (i := 367) (by decide +kernel)⟩
theorem lw_p2 : lw_okq (⟨"PairMachine$Reader", "expression", "(I)I"⟩, 3) := ⟨⟨by decide +kernel, by decide +kernel⟩, List.mem_of_getElem? (i := 88) (by decide +kernel), List.mem_of_getElem? (i := 489) (by decide +kernel), List.mem_of_getElem? (i := 490) (by decide +kernel)⟩
theorem lw_p3 : lw_okq (⟨"PairMachine$Reader", "bracketed", "(I)I"⟩, 3) := ⟨⟨by decide +kernel, by decide +kernel⟩, List.mem_of_getElem? (i := 88) (by decide +kernel), List.mem_of_getElem? (i := 497) (by decide +kernel), List.mem_of_getElem? (i := 498) (by decide +kernel)⟩
theorem lw_p4 : lw_okq (⟨"PairMachine$Reader", "open", "(I)V"⟩, 3) := ⟨⟨by decide +kernel, by decide +kernel⟩, List.mem_of_getElem? (i := 88) (by decide +kernel), List.mem_of_getElem? (i := 501) (by decide +kernel), List.mem_of_getElem? (i := 502) (by decide +kernel)⟩
theorem lw_p5 : lw_okq (⟨"java/lang/Throwable", "fillInStackTrace", "(I)Ljava/lang/Throwable;"⟩, 6) := ⟨⟨by decide +kernel, by decide +kernel⟩, List.mem_of_getElem? (i := 544) (by decide +kernel), List.mem_of_getElem? (i := 542) (by decide +kernel), List.mem_of_getElem? (i := 543) (by decide +kernel)⟩
theorem lw_p6 : lw_okq (⟨"PairMachine$Reader", "need", "(I)V"⟩, 3) := ⟨⟨by decide +kernel, by decide +kernel⟩, List.mem_of_getElem? (i := 88) (by decide +kernel), List.mem_of_getElem? (i := 573) (by decide +kernel), List.mem_of_getElem? (i := 574) (by decide +kernel)⟩
theorem lw_p7 : lw_okq (⟨"PairMachine$Reader", "function", "(I)I"⟩, 3) := ⟨⟨by decide +kernel, by decide +kernel⟩, List.mem_of_getElem? (i := 88) (by decide +kernel), List.mem_of_getElem? (i := 577) (by decide +kernel), List.mem_of_getElem? (i := 578) (by decide +kernel)⟩
theorem lw_p8 : lw_okq (⟨"PairMachine$Reader", "parameters", "(I)I"⟩, 3) := ⟨⟨by decide +kernel, by decide +kernel⟩, List.mem_of_getElem? (i := 88) (by decide +kernel), List.mem_of_getElem? (i := 585) (by decide +kernel), List.mem_of_getElem? (i := 586) (by decide +kernel)⟩
theorem lw_p9 : lw_okq (⟨"PairMachine$Reader", "parameter", "(I)V"⟩, 3) := ⟨⟨by decide +kernel, by decide +kernel⟩, List.mem_of_getElem? (i := 88) (by decide +kernel), List.mem_of_getElem? (i := 589) (by decide +kernel), List.mem_of_getElem? (i := 590) (by decide +kernel)⟩
theorem lw_p10 : lw_okq (⟨"PairMachine$Tree", "entry", "([II)I"⟩, 7) := ⟨⟨by decide +kernel, by decide +kernel⟩, List.mem_of_getElem? (i := 45) (by decide +kernel), List.mem_of_getElem? (i := 597) (by decide +kernel), List.mem_of_getElem? (i := 598) (by decide +kernel)⟩
theorem lw_p11 : lw_okq (⟨"PairMachine$Reader", "letterNotAmong", "(I)I"⟩, 3) := ⟨⟨by decide +kernel, by decide +kernel⟩, List.mem_of_getElem? (i := 88) (by decide +kernel), List.mem_of_getElem? (i := 601) (by decide +kernel), List.mem_of_getElem? (i := 602) (by decide +kernel)⟩
theorem lw_p12 : lw_okq (⟨"PairMachine$Reader", "bound", "(II)I"⟩, 3) := ⟨⟨by decide +kernel, by decide +kernel⟩, List.mem_of_getElem? (i := 88) (by decide +kernel), List.mem_of_getElem? (i := 616) (by decide +kernel), List.mem_of_getElem? (i := 617) (by decide +kernel)⟩
theorem lw_p13 : lw_okq (⟨"PairMachine$Reader", "binding", "(II)V"⟩, 3) := ⟨⟨by decide +kernel, by decide +kernel⟩, List.mem_of_getElem? (i := 88) (by decide +kernel), List.mem_of_getElem? (i := 620) (by decide +kernel), List.mem_of_getElem? (i := 621) (by decide +kernel)⟩
theorem lw_p14 : lw_okq (⟨"PairMachine$Reader", "call", "(I)I"⟩, 3) := ⟨⟨by decide +kernel, by decide +kernel⟩, List.mem_of_getElem? (i := 88) (by decide +kernel), List.mem_of_getElem? (i := 712) (by decide +kernel), List.mem_of_getElem? (i := 713) (by decide +kernel)⟩
theorem lw_p15 : lw_okq (⟨"PairMachine$Reader", "operation", "(II)I"⟩, 3) := ⟨⟨by decide +kernel, by decide +kernel⟩, List.mem_of_getElem? (i := 88) (by decide +kernel), List.mem_of_getElem? (i := 716) (by decide +kernel), List.mem_of_getElem? (i := 717) (by decide +kernel)⟩
def lw_privs_1 : List (MethodName × Nat) := [(⟨"PairMachine$Machine", "setRegisters", "(J)V"⟩, 10), (⟨"PairMachine$Store", "reach", "(J)V"⟩, 9), (⟨"PairMachine$Reader", "expression", "(I)I"⟩, 3), (⟨"PairMachine$Reader", "bracketed", "(I)I"⟩, 3), (⟨"PairMachine$Reader", "open", "(I)V"⟩, 3), (⟨"java/lang/Throwable", "fillInStackTrace", "(I)Ljava/lang/Throwable;"⟩, 6), (⟨"PairMachine$Reader", "need", "(I)V"⟩, 3), (⟨"PairMachine$Reader", "function", "(I)I"⟩, 3), (⟨"PairMachine$Reader", "parameters", "(I)I"⟩, 3), (⟨"PairMachine$Reader", "parameter", "(I)V"⟩, 3), (⟨"PairMachine$Tree", "entry", "([II)I"⟩, 7), (⟨"PairMachine$Reader", "letterNotAmong", "(I)I"⟩, 3), (⟨"PairMachine$Reader", "bound", "(II)I"⟩, 3), (⟨"PairMachine$Reader", "binding", "(II)V"⟩, 3), (⟨"PairMachine$Reader", "call", "(I)I"⟩, 3), (⟨"PairMachine$Reader", "operation", "(II)I"⟩, 3)]
theorem lw_r1 : ∀ q ∈ lw_privs_1, lw_okq q := List.forall_mem_cons.mpr ⟨lw_p0, List.forall_mem_cons.mpr ⟨lw_p1, List.forall_mem_cons.mpr ⟨lw_p2, List.forall_mem_cons.mpr ⟨lw_p3, List.forall_mem_cons.mpr ⟨lw_p4, List.forall_mem_cons.mpr ⟨lw_p5, List.forall_mem_cons.mpr ⟨lw_p6, List.forall_mem_cons.mpr ⟨lw_p7, List.forall_mem_cons.mpr ⟨lw_p8, List.forall_mem_cons.mpr ⟨lw_p9, List.forall_mem_cons.mpr ⟨lw_p10, List.forall_mem_cons.mpr ⟨lw_p11, List.forall_mem_cons.mpr ⟨lw_p12, List.forall_mem_cons.mpr ⟨lw_p13, List.forall_mem_cons.mpr ⟨lw_p14, List.forall_mem_cons.mpr ⟨lw_p15, fun _ h => absurd h List.not_mem_nil⟩⟩⟩⟩⟩⟩⟩⟩⟩⟩⟩⟩⟩⟩⟩⟩
theorem lw_p16 : lw_okq (⟨"PairMachine$Reader", "atom", "()I"⟩, 3) := ⟨⟨by decide +kernel, by decide +kernel⟩, List.mem_of_getElem? (i := 88) (by decide +kernel), List.mem_of_getElem? (i := 723) (by decide +kernel), List.mem_of_getElem? (i := 724) (by decide +kernel)⟩
theorem lw_p17 : lw_okq (⟨"PairMachine$Reader", "number", "()I"⟩, 3) := ⟨⟨by decide +kernel, by decide +kernel⟩, List.mem_of_getElem? (i := 88) (by decide +kernel), List.mem_of_getElem? (i := 727) (by decide +kernel), List.mem_of_getElem? (i := 728) (by decide +kernel)⟩
theorem lw_p18 : lw_okq (⟨"PairMachine$Reader", "datum", "(I)I"⟩, 3) := ⟨⟨by decide +kernel, by decide +kernel⟩, List.mem_of_getElem? (i := 88) (by decide +kernel), List.mem_of_getElem? (i := 731) (by decide +kernel), List.mem_of_getElem? (i := 732) (by decide +kernel)⟩
theorem lw_p19 : lw_okq (⟨"PairMachine$Coder", "expression", "(II)V"⟩, 5) := ⟨⟨by decide +kernel, by decide +kernel⟩, List.mem_of_getElem? (i := 127) (by decide +kernel), List.mem_of_getElem? (i := 751) (by decide +kernel), List.mem_of_getElem? (i := 752) (by decide +kernel)⟩
theorem lw_p20 : lw_okq (⟨"PairMachine$Coder", "constant", "(II)V"⟩, 5) := ⟨⟨by decide +kernel, by decide +kernel⟩, List.mem_of_getElem? (i := 127) (by decide +kernel), List.mem_of_getElem? (i := 756) (by decide +kernel), List.mem_of_getElem? (i := 757) (by decide +kernel)⟩
theorem lw_p21 : lw_okq (⟨"PairMachine$Code", "link", "(J)V"⟩, 5) := ⟨⟨by decide +kernel, by decide +kernel⟩, List.mem_of_getElem? (i := 104) (by decide +kernel), List.mem_of_getElem? (i := 773) (by decide +kernel), List.mem_of_getElem? (i := 774) (by decide +kernel)⟩
theorem lw_p22 : lw_okq (⟨"PairMachine$Coder", "datum", "(II)V"⟩, 5) := ⟨⟨by decide +kernel, by decide +kernel⟩, List.mem_of_getElem? (i := 127) (by decide +kernel), List.mem_of_getElem? (i := 777) (by decide +kernel), List.mem_of_getElem? (i := 778) (by decide +kernel)⟩
theorem lw_p23 : lw_okq (⟨"PairMachine$Coder", "variable", "(I)V"⟩, 5) := ⟨⟨by decide +kernel, by decide +kernel⟩, List.mem_of_getElem? (i := 127) (by decide +kernel), List.mem_of_getElem? (i := 801) (by decide +kernel), List.mem_of_getElem? (i := 802) (by decide +kernel)⟩
theorem lw_p24 : lw_okq (⟨"PairMachine$Coder", "placeOf", "(I)I"⟩, 5) := ⟨⟨by decide +kernel, by decide +kernel⟩, List.mem_of_getElem? (i := 127) (by decide +kernel), List.mem_of_getElem? (i := 805) (by decide +kernel), List.mem_of_getElem? (i := 806) (by decide +kernel)⟩
theorem lw_p25 : lw_okq (⟨"PairMachine$Coder", "noteUnknown", "(I)V"⟩, 5) := ⟨⟨by decide +kernel, by decide +kernel⟩, List.mem_of_getElem? (i := 127) (by decide +kernel), List.mem_of_getElem? (i := 814) (by decide +kernel), List.mem_of_getElem? (i := 815) (by decide +kernel)⟩
theorem lw_p26 : lw_okq (⟨"PairMachine$Coder", "operation", "(II)V"⟩, 5) := ⟨⟨by decide +kernel, by decide +kernel⟩, List.mem_of_getElem? (i := 127) (by decide +kernel), List.mem_of_getElem? (i := 818) (by decide +kernel), List.mem_of_getElem? (i := 819) (by decide +kernel)⟩
theorem lw_p27 : lw_okq (⟨"PairMachine$Coder", "choice", "(II)V"⟩, 5) := ⟨⟨by decide +kernel, by decide +kernel⟩, List.mem_of_getElem? (i := 127) (by decide +kernel), List.mem_of_getElem? (i := 822) (by decide +kernel), List.mem_of_getElem? (i := 823) (by decide +kernel)⟩
theorem lw_p28 : lw_okq (⟨"PairMachine$Coder", "list", "(III)V"⟩, 5) := ⟨⟨by decide +kernel, by decide +kernel⟩, List.mem_of_getElem? (i := 127) (by decide +kernel), List.mem_of_getElem? (i := 827) (by decide +kernel), List.mem_of_getElem? (i := 828) (by decide +kernel)⟩
theorem lw_p29 : lw_okq (⟨"PairMachine$Coder", "function", "(II)V"⟩, 5) := ⟨⟨by decide +kernel, by decide +kernel⟩, List.mem_of_getElem? (i := 127) (by decide +kernel), List.mem_of_getElem? (i := 835) (by decide +kernel), List.mem_of_getElem? (i := 836) (by decide +kernel)⟩
theorem lw_p30 : lw_okq (⟨"PairMachine$Coder", "body", "(III)V"⟩, 5) := ⟨⟨by decide +kernel, by decide +kernel⟩, List.mem_of_getElem? (i := 127) (by decide +kernel), List.mem_of_getElem? (i := 839) (by decide +kernel), List.mem_of_getElem? (i := 840) (by decide +kernel)⟩
theorem lw_p31 : lw_okq (⟨"PairMachine$Coder", "enter", "(I)V"⟩, 5) := ⟨⟨by decide +kernel, by decide +kernel⟩, List.mem_of_getElem? (i := 127) (by decide +kernel), List.mem_of_getElem? (i := 843) (by decide +kernel), List.mem_of_getElem? (i := 844) (by decide +kernel)⟩
def lw_privs_2 : List (MethodName × Nat) := [(⟨"PairMachine$Reader", "atom", "()I"⟩, 3), (⟨"PairMachine$Reader", "number", "()I"⟩, 3), (⟨"PairMachine$Reader", "datum", "(I)I"⟩, 3), (⟨"PairMachine$Coder", "expression", "(II)V"⟩, 5), (⟨"PairMachine$Coder", "constant", "(II)V"⟩, 5), (⟨"PairMachine$Code", "link", "(J)V"⟩, 5), (⟨"PairMachine$Coder", "datum", "(II)V"⟩, 5), (⟨"PairMachine$Coder", "variable", "(I)V"⟩, 5), (⟨"PairMachine$Coder", "placeOf", "(I)I"⟩, 5), (⟨"PairMachine$Coder", "noteUnknown", "(I)V"⟩, 5), (⟨"PairMachine$Coder", "operation", "(II)V"⟩, 5), (⟨"PairMachine$Coder", "choice", "(II)V"⟩, 5), (⟨"PairMachine$Coder", "list", "(III)V"⟩, 5), (⟨"PairMachine$Coder", "function", "(II)V"⟩, 5), (⟨"PairMachine$Coder", "body", "(III)V"⟩, 5), (⟨"PairMachine$Coder", "enter", "(I)V"⟩, 5)]
theorem lw_r2 : ∀ q ∈ lw_privs_2, lw_okq q := List.forall_mem_cons.mpr ⟨lw_p16, List.forall_mem_cons.mpr ⟨lw_p17, List.forall_mem_cons.mpr ⟨lw_p18, List.forall_mem_cons.mpr ⟨lw_p19, List.forall_mem_cons.mpr ⟨lw_p20, List.forall_mem_cons.mpr ⟨lw_p21, List.forall_mem_cons.mpr ⟨lw_p22, List.forall_mem_cons.mpr ⟨lw_p23, List.forall_mem_cons.mpr ⟨lw_p24, List.forall_mem_cons.mpr ⟨lw_p25, List.forall_mem_cons.mpr ⟨lw_p26, List.forall_mem_cons.mpr ⟨lw_p27, List.forall_mem_cons.mpr ⟨lw_p28, List.forall_mem_cons.mpr ⟨lw_p29, List.forall_mem_cons.mpr ⟨lw_p30, List.forall_mem_cons.mpr ⟨lw_p31, fun _ h => absurd h List.not_mem_nil⟩⟩⟩⟩⟩⟩⟩⟩⟩⟩⟩⟩⟩⟩⟩⟩
theorem lw_p32 : lw_okq (⟨"PairMachine$Coder", "leave", "()V"⟩, 5) := ⟨⟨by decide +kernel, by decide +kernel⟩, List.mem_of_getElem? (i := 127) (by decide +kernel), List.mem_of_getElem? (i := 847) (by decide +kernel), List.mem_of_getElem? (i := 848) (by decide +kernel)⟩
theorem lw_p33 : lw_okq (⟨"PairMachine$Coder", "call", "(II)V"⟩, 5) := ⟨⟨by decide +kernel, by decide +kernel⟩, List.mem_of_getElem? (i := 127) (by decide +kernel), List.mem_of_getElem? (i := 851) (by decide +kernel), List.mem_of_getElem? (i := 852) (by decide +kernel)⟩
theorem lw_p34 : lw_okq (⟨"PairMachine$Coder", "beginArguments", "()V"⟩, 5) := ⟨⟨by decide +kernel, by decide +kernel⟩, List.mem_of_getElem? (i := 127) (by decide +kernel), List.mem_of_getElem? (i := 855) (by decide +kernel), List.mem_of_getElem? (i := 856) (by decide +kernel)⟩
theorem lw_p35 : lw_okq (⟨"PairMachine$Coder", "argument", "(II)V"⟩, 5) := ⟨⟨by decide +kernel, by decide +kernel⟩, List.mem_of_getElem? (i := 127) (by decide +kernel), List.mem_of_getElem? (i := 859) (by decide +kernel), List.mem_of_getElem? (i := 860) (by decide +kernel)⟩
theorem lw_p36 : lw_okq (⟨"PairMachine$Coder", "bound", "(II)V"⟩, 5) := ⟨⟨by decide +kernel, by decide +kernel⟩, List.mem_of_getElem? (i := 127) (by decide +kernel), List.mem_of_getElem? (i := 863) (by decide +kernel), List.mem_of_getElem? (i := 864) (by decide +kernel)⟩
theorem lw_p37 : lw_okq (⟨"PairMachine$Coder", "boundArguments", "(II)V"⟩, 5) := ⟨⟨by decide +kernel, by decide +kernel⟩, List.mem_of_getElem? (i := 127) (by decide +kernel), List.mem_of_getElem? (i := 867) (by decide +kernel), List.mem_of_getElem? (i := 868) (by decide +kernel)⟩
theorem lw_p38 : lw_okq (⟨"PairMachine$Coder", "boundInFrame", "(II)V"⟩, 5) := ⟨⟨by decide +kernel, by decide +kernel⟩, List.mem_of_getElem? (i := 127) (by decide +kernel), List.mem_of_getElem? (i := 871) (by decide +kernel), List.mem_of_getElem? (i := 872) (by decide +kernel)⟩
theorem lw_p39 : lw_okq (⟨"PairMachine$Machine", "collect", "()V"⟩, 10) := ⟨⟨by decide +kernel, by decide +kernel⟩, List.mem_of_getElem? (i := 149) (by decide +kernel), List.mem_of_getElem? (i := 939) (by decide +kernel), List.mem_of_getElem? (i := 940) (by decide +kernel)⟩
theorem lw_p40 : lw_okq (⟨"PairMachine$Machine", "act", "(I)Z"⟩, 10) := ⟨⟨by decide +kernel, by decide +kernel⟩, List.mem_of_getElem? (i := 149) (by decide +kernel), List.mem_of_getElem? (i := 947) (by decide +kernel), List.mem_of_getElem? (i := 948) (by decide +kernel)⟩
theorem lw_p41 : lw_okq (⟨"PairMachine$Machine", "constant", "()Z"⟩, 10) := ⟨⟨by decide +kernel, by decide +kernel⟩, List.mem_of_getElem? (i := 149) (by decide +kernel), List.mem_of_getElem? (i := 951) (by decide +kernel), List.mem_of_getElem? (i := 952) (by decide +kernel)⟩
theorem lw_p42 : lw_okq (⟨"PairMachine$Store", "newCell", "(JJ)I"⟩, 9) := ⟨⟨by decide +kernel, by decide +kernel⟩, List.mem_of_getElem? (i := 155) (by decide +kernel), List.mem_of_getElem? (i := 960) (by decide +kernel), List.mem_of_getElem? (i := 961) (by decide +kernel)⟩
theorem lw_p43 : lw_okq (⟨"PairMachine$Machine", "variable", "()Z"⟩, 10) := ⟨⟨by decide +kernel, by decide +kernel⟩, List.mem_of_getElem? (i := 149) (by decide +kernel), List.mem_of_getElem? (i := 964) (by decide +kernel), List.mem_of_getElem? (i := 965) (by decide +kernel)⟩
theorem lw_p44 : lw_okq (⟨"PairMachine$Machine", "function", "()Z"⟩, 10) := ⟨⟨by decide +kernel, by decide +kernel⟩, List.mem_of_getElem? (i := 149) (by decide +kernel), List.mem_of_getElem? (i := 973) (by decide +kernel), List.mem_of_getElem? (i := 974) (by decide +kernel)⟩
theorem lw_p45 : lw_okq (⟨"PairMachine$Machine", "apply", "()Z"⟩, 10) := ⟨⟨by decide +kernel, by decide +kernel⟩, List.mem_of_getElem? (i := 149) (by decide +kernel), List.mem_of_getElem? (i := 985) (by decide +kernel), List.mem_of_getElem? (i := 986) (by decide +kernel)⟩
theorem lw_p46 : lw_okq (⟨"PairMachine$Machine", "save", "(J)V"⟩, 10) := ⟨⟨by decide +kernel, by decide +kernel⟩, List.mem_of_getElem? (i := 149) (by decide +kernel), List.mem_of_getElem? (i := 993) (by decide +kernel), List.mem_of_getElem? (i := 994) (by decide +kernel)⟩
theorem lw_p47 : lw_okq (⟨"PairMachine$Machine", "giveBack", "()Z"⟩, 10) := ⟨⟨by decide +kernel, by decide +kernel⟩, List.mem_of_getElem? (i := 149) (by decide +kernel), List.mem_of_getElem? (i := 997) (by decide +kernel), List.mem_of_getElem? (i := 998) (by decide +kernel)⟩
def lw_privs_3 : List (MethodName × Nat) := [(⟨"PairMachine$Coder", "leave", "()V"⟩, 5), (⟨"PairMachine$Coder", "call", "(II)V"⟩, 5), (⟨"PairMachine$Coder", "beginArguments", "()V"⟩, 5), (⟨"PairMachine$Coder", "argument", "(II)V"⟩, 5), (⟨"PairMachine$Coder", "bound", "(II)V"⟩, 5), (⟨"PairMachine$Coder", "boundArguments", "(II)V"⟩, 5), (⟨"PairMachine$Coder", "boundInFrame", "(II)V"⟩, 5), (⟨"PairMachine$Machine", "collect", "()V"⟩, 10), (⟨"PairMachine$Machine", "act", "(I)Z"⟩, 10), (⟨"PairMachine$Machine", "constant", "()Z"⟩, 10), (⟨"PairMachine$Store", "newCell", "(JJ)I"⟩, 9), (⟨"PairMachine$Machine", "variable", "()Z"⟩, 10), (⟨"PairMachine$Machine", "function", "()Z"⟩, 10), (⟨"PairMachine$Machine", "apply", "()Z"⟩, 10), (⟨"PairMachine$Machine", "save", "(J)V"⟩, 10), (⟨"PairMachine$Machine", "giveBack", "()Z"⟩, 10)]
theorem lw_r3 : ∀ q ∈ lw_privs_3, lw_okq q := List.forall_mem_cons.mpr ⟨lw_p32, List.forall_mem_cons.mpr ⟨lw_p33, List.forall_mem_cons.mpr ⟨lw_p34, List.forall_mem_cons.mpr ⟨lw_p35, List.forall_mem_cons.mpr ⟨lw_p36, List.forall_mem_cons.mpr ⟨lw_p37, List.forall_mem_cons.mpr ⟨lw_p38, List.forall_mem_cons.mpr ⟨lw_p39, List.forall_mem_cons.mpr ⟨lw_p40, List.forall_mem_cons.mpr ⟨lw_p41, List.forall_mem_cons.mpr ⟨lw_p42, List.forall_mem_cons.mpr ⟨lw_p43, List.forall_mem_cons.mpr ⟨lw_p44, List.forall_mem_cons.mpr ⟨lw_p45, List.forall_mem_cons.mpr ⟨lw_p46, List.forall_mem_cons.mpr ⟨lw_p47, fun _ h => absurd h List.not_mem_nil⟩⟩⟩⟩⟩⟩⟩⟩⟩⟩⟩⟩⟩⟩⟩⟩
theorem lw_p48 : lw_okq (⟨"PairMachine$Machine", "frame", "()Z"⟩, 10) := ⟨⟨by decide +kernel, by decide +kernel⟩, List.mem_of_getElem? (i := 149) (by decide +kernel), List.mem_of_getElem? (i := 1001) (by decide +kernel), List.mem_of_getElem? (i := 1002) (by decide +kernel)⟩
theorem lw_p49 : lw_okq (⟨"PairMachine$Machine", "applyInFrame", "()Z"⟩, 10) := ⟨⟨by decide +kernel, by decide +kernel⟩, List.mem_of_getElem? (i := 149) (by decide +kernel), List.mem_of_getElem? (i := 1005) (by decide +kernel), List.mem_of_getElem? (i := 1006) (by decide +kernel)⟩
theorem lw_p50 : lw_okq (⟨"PairMachine$Machine", "choose", "()Z"⟩, 10) := ⟨⟨by decide +kernel, by decide +kernel⟩, List.mem_of_getElem? (i := 149) (by decide +kernel), List.mem_of_getElem? (i := 1013) (by decide +kernel), List.mem_of_getElem? (i := 1014) (by decide +kernel)⟩
theorem lw_p51 : lw_okq (⟨"PairMachine$Machine", "rejoin", "()Z"⟩, 10) := ⟨⟨by decide +kernel, by decide +kernel⟩, List.mem_of_getElem? (i := 149) (by decide +kernel), List.mem_of_getElem? (i := 1020) (by decide +kernel), List.mem_of_getElem? (i := 1021) (by decide +kernel)⟩
theorem lw_p52 : lw_okq (⟨"PairMachine$Machine", "partOfPair", "(I)Z"⟩, 10) := ⟨⟨by decide +kernel, by decide +kernel⟩, List.mem_of_getElem? (i := 149) (by decide +kernel), List.mem_of_getElem? (i := 1024) (by decide +kernel), List.mem_of_getElem? (i := 1025) (by decide +kernel)⟩
theorem lw_p53 : lw_okq (⟨"PairMachine$Machine", "replace", "(IJ)V"⟩, 10) := ⟨⟨by decide +kernel, by decide +kernel⟩, List.mem_of_getElem? (i := 149) (by decide +kernel), List.mem_of_getElem? (i := 1028) (by decide +kernel), List.mem_of_getElem? (i := 1029) (by decide +kernel)⟩
theorem lw_p54 : lw_okq (⟨"PairMachine$Machine", "isNoPair", "()Z"⟩, 10) := ⟨⟨by decide +kernel, by decide +kernel⟩, List.mem_of_getElem? (i := 149) (by decide +kernel), List.mem_of_getElem? (i := 1032) (by decide +kernel), List.mem_of_getElem? (i := 1033) (by decide +kernel)⟩
theorem lw_p55 : lw_okq (⟨"PairMachine$Machine", "pair", "()Z"⟩, 10) := ⟨⟨by decide +kernel, by decide +kernel⟩, List.mem_of_getElem? (i := 149) (by decide +kernel), List.mem_of_getElem? (i := 1037) (by decide +kernel), List.mem_of_getElem? (i := 1038) (by decide +kernel)⟩
theorem lw_p56 : lw_okq (⟨"PairMachine$Machine", "same", "()Z"⟩, 10) := ⟨⟨by decide +kernel, by decide +kernel⟩, List.mem_of_getElem? (i := 149) (by decide +kernel), List.mem_of_getElem? (i := 1041) (by decide +kernel), List.mem_of_getElem? (i := 1042) (by decide +kernel)⟩
theorem lw_p57 : lw_okq (⟨"PairMachine$Machine", "calculate", "(I)Z"⟩, 10) := ⟨⟨by decide +kernel, by decide +kernel⟩, List.mem_of_getElem? (i := 149) (by decide +kernel), List.mem_of_getElem? (i := 1046) (by decide +kernel), List.mem_of_getElem? (i := 1047) (by decide +kernel)⟩
theorem lw_p58 : lw_okq (⟨"PairMachine$Machine", "stop", "()Z"⟩, 10) := ⟨⟨by decide +kernel, by decide +kernel⟩, List.mem_of_getElem? (i := 149) (by decide +kernel), List.mem_of_getElem? (i := 1053) (by decide +kernel), List.mem_of_getElem? (i := 1054) (by decide +kernel)⟩
theorem lw_p59 : lw_okq (⟨"PairMachine$Display", "showAtom", "(J)V"⟩, 4) := ⟨⟨by decide +kernel, by decide +kernel⟩, List.mem_of_getElem? (i := 190) (by decide +kernel), List.mem_of_getElem? (i := 1272) (by decide +kernel), List.mem_of_getElem? (i := 1273) (by decide +kernel)⟩
theorem lw_p60 : lw_okq (⟨"PairMachine$Display", "endLists", "()V"⟩, 4) := ⟨⟨by decide +kernel, by decide +kernel⟩, List.mem_of_getElem? (i := 190) (by decide +kernel), List.mem_of_getElem? (i := 1286) (by decide +kernel), List.mem_of_getElem? (i := 1287) (by decide +kernel)⟩
theorem lw_p61 : lw_okq (⟨"PairMachineModel", "read", "()Z"⟩, 45) := ⟨⟨by decide +kernel, by decide +kernel⟩, List.mem_of_getElem? (i := 1291) (by decide +kernel), List.mem_of_getElem? (i := 1442) (by decide +kernel), List.mem_of_getElem? (i := 1443) (by decide +kernel)⟩
theorem lw_p62 : lw_okq (⟨"PairMachineModel", "begin", "(I)I"⟩, 45) := ⟨⟨by decide +kernel, by decide +kernel⟩, List.mem_of_getElem? (i := 1291) (by decide +kernel), List.mem_of_getElem? (i := 1446) (by decide +kernel), List.mem_of_getElem? (i := 1447) (by decide +kernel)⟩
theorem lw_p63 : lw_okq (⟨"PairMachineModel", "part", "(II)I"⟩, 45) := ⟨⟨by decide +kernel, by decide +kernel⟩, List.mem_of_getElem? (i := 1291) (by decide +kernel), List.mem_of_getElem? (i := 1450) (by decide +kernel), List.mem_of_getElem? (i := 1451) (by decide +kernel)⟩
def lw_privs_4 : List (MethodName × Nat) := [(⟨"PairMachine$Machine", "frame", "()Z"⟩, 10), (⟨"PairMachine$Machine", "applyInFrame", "()Z"⟩, 10), (⟨"PairMachine$Machine", "choose", "()Z"⟩, 10), (⟨"PairMachine$Machine", "rejoin", "()Z"⟩, 10), (⟨"PairMachine$Machine", "partOfPair", "(I)Z"⟩, 10), (⟨"PairMachine$Machine", "replace", "(IJ)V"⟩, 10), (⟨"PairMachine$Machine", "isNoPair", "()Z"⟩, 10), (⟨"PairMachine$Machine", "pair", "()Z"⟩, 10), (⟨"PairMachine$Machine", "same", "()Z"⟩, 10), (⟨"PairMachine$Machine", "calculate", "(I)Z"⟩, 10), (⟨"PairMachine$Machine", "stop", "()Z"⟩, 10), (⟨"PairMachine$Display", "showAtom", "(J)V"⟩, 4), (⟨"PairMachine$Display", "endLists", "()V"⟩, 4), (⟨"PairMachineModel", "read", "()Z"⟩, 45), (⟨"PairMachineModel", "begin", "(I)I"⟩, 45), (⟨"PairMachineModel", "part", "(II)I"⟩, 45)]
theorem lw_r4 : ∀ q ∈ lw_privs_4, lw_okq q := List.forall_mem_cons.mpr ⟨lw_p48, List.forall_mem_cons.mpr ⟨lw_p49, List.forall_mem_cons.mpr ⟨lw_p50, List.forall_mem_cons.mpr ⟨lw_p51, List.forall_mem_cons.mpr ⟨lw_p52, List.forall_mem_cons.mpr ⟨lw_p53, List.forall_mem_cons.mpr ⟨lw_p54, List.forall_mem_cons.mpr ⟨lw_p55, List.forall_mem_cons.mpr ⟨lw_p56, List.forall_mem_cons.mpr ⟨lw_p57, List.forall_mem_cons.mpr ⟨lw_p58, List.forall_mem_cons.mpr ⟨lw_p59, List.forall_mem_cons.mpr ⟨lw_p60, List.forall_mem_cons.mpr ⟨lw_p61, List.forall_mem_cons.mpr ⟨lw_p62, List.forall_mem_cons.mpr ⟨lw_p63, fun _ h => absurd h List.not_mem_nil⟩⟩⟩⟩⟩⟩⟩⟩⟩⟩⟩⟩⟩⟩⟩⟩
theorem lw_p64 : lw_okq (⟨"PairMachineModel", "here", "(I)C"⟩, 45) := ⟨⟨by decide +kernel, by decide +kernel⟩, List.mem_of_getElem? (i := 1291) (by decide +kernel), List.mem_of_getElem? (i := 1454) (by decide +kernel), List.mem_of_getElem? (i := 1455) (by decide +kernel)⟩
theorem lw_p65 : lw_okq (⟨"PairMachineModel", "datum", "()Z"⟩, 45) := ⟨⟨by decide +kernel, by decide +kernel⟩, List.mem_of_getElem? (i := 1291) (by decide +kernel), List.mem_of_getElem? (i := 1461) (by decide +kernel), List.mem_of_getElem? (i := 1462) (by decide +kernel)⟩
theorem lw_p66 : lw_okq (⟨"PairMachineModel", "opens", "()Z"⟩, 45) := ⟨⟨by decide +kernel, by decide +kernel⟩, List.mem_of_getElem? (i := 1291) (by decide +kernel), List.mem_of_getElem? (i := 1465) (by decide +kernel), List.mem_of_getElem? (i := 1466) (by decide +kernel)⟩
theorem lw_p67 : lw_okq (⟨"PairMachineModel", "number", "()Z"⟩, 45) := ⟨⟨by decide +kernel, by decide +kernel⟩, List.mem_of_getElem? (i := 1291) (by decide +kernel), List.mem_of_getElem? (i := 1469) (by decide +kernel), List.mem_of_getElem? (i := 1470) (by decide +kernel)⟩
theorem lw_p68 : lw_okq (⟨"PairMachineModel", "takes", "(C)Z"⟩, 45) := ⟨⟨by decide +kernel, by decide +kernel⟩, List.mem_of_getElem? (i := 1291) (by decide +kernel), List.mem_of_getElem? (i := 1473) (by decide +kernel), List.mem_of_getElem? (i := 1474) (by decide +kernel)⟩
theorem lw_p69 : lw_okq (⟨"PairMachineModel", "numberAt", "(I)I"⟩, 45) := ⟨⟨by decide +kernel, by decide +kernel⟩, List.mem_of_getElem? (i := 1291) (by decide +kernel), List.mem_of_getElem? (i := 1480) (by decide +kernel), List.mem_of_getElem? (i := 1481) (by decide +kernel)⟩
theorem lw_p70 : lw_okq (⟨"PairMachineModel", "parameters", "(I)Z"⟩, 45) := ⟨⟨by decide +kernel, by decide +kernel⟩, List.mem_of_getElem? (i := 1291) (by decide +kernel), List.mem_of_getElem? (i := 1487) (by decide +kernel), List.mem_of_getElem? (i := 1488) (by decide +kernel)⟩
theorem lw_p71 : lw_okq (⟨"PairMachineModel", "closes", "()Z"⟩, 45) := ⟨⟨by decide +kernel, by decide +kernel⟩, List.mem_of_getElem? (i := 1291) (by decide +kernel), List.mem_of_getElem? (i := 1491) (by decide +kernel), List.mem_of_getElem? (i := 1492) (by decide +kernel)⟩
theorem lw_p72 : lw_okq (⟨"PairMachineModel", "goOn", "(I)I"⟩, 45) := ⟨⟨by decide +kernel, by decide +kernel⟩, List.mem_of_getElem? (i := 1291) (by decide +kernel), List.mem_of_getElem? (i := 1495) (by decide +kernel), List.mem_of_getElem? (i := 1496) (by decide +kernel)⟩
theorem lw_p73 : lw_okq (⟨"PairMachineModel", "binding", "(I)Z"⟩, 45) := ⟨⟨by decide +kernel, by decide +kernel⟩, List.mem_of_getElem? (i := 1291) (by decide +kernel), List.mem_of_getElem? (i := 1499) (by decide +kernel), List.mem_of_getElem? (i := 1500) (by decide +kernel)⟩
theorem lw_p74 : lw_okq (⟨"PairMachineModel", "firstUnknown", "()I"⟩, 45) := ⟨⟨by decide +kernel, by decide +kernel⟩, List.mem_of_getElem? (i := 1291) (by decide +kernel), List.mem_of_getElem? (i := 1503) (by decide +kernel), List.mem_of_getElem? (i := 1504) (by decide +kernel)⟩
theorem lw_p75 : lw_okq (⟨"PairMachineModel", "resolved", "(I)I"⟩, 45) := ⟨⟨by decide +kernel, by decide +kernel⟩, List.mem_of_getElem? (i := 1291) (by decide +kernel), List.mem_of_getElem? (i := 1507) (by decide +kernel), List.mem_of_getElem? (i := 1508) (by decide +kernel)⟩
theorem lw_p76 : lw_okq (⟨"PairMachineModel", "placeIn", "(II)I"⟩, 45) := ⟨⟨by decide +kernel, by decide +kernel⟩, List.mem_of_getElem? (i := 1291) (by decide +kernel), List.mem_of_getElem? (i := 1511) (by decide +kernel), List.mem_of_getElem? (i := 1512) (by decide +kernel)⟩
theorem lw_p77 : lw_okq (⟨"PairMachineModel", "writeCode", "()V"⟩, 45) := ⟨⟨by decide +kernel, by decide +kernel⟩, List.mem_of_getElem? (i := 1291) (by decide +kernel), List.mem_of_getElem? (i := 1515) (by decide +kernel), List.mem_of_getElem? (i := 1516) (by decide +kernel)⟩
theorem lw_p78 : lw_okq (⟨"PairMachineModel", "later", "(II)V"⟩, 45) := ⟨⟨by decide +kernel, by decide +kernel⟩, List.mem_of_getElem? (i := 1291) (by decide +kernel), List.mem_of_getElem? (i := 1519) (by decide +kernel), List.mem_of_getElem? (i := 1520) (by decide +kernel)⟩
theorem lw_p79 : lw_okq (⟨"PairMachineModel", "writePart", "(I)V"⟩, 45) := ⟨⟨by decide +kernel, by decide +kernel⟩, List.mem_of_getElem? (i := 1291) (by decide +kernel), List.mem_of_getElem? (i := 1523) (by decide +kernel), List.mem_of_getElem? (i := 1524) (by decide +kernel)⟩
def lw_privs_5 : List (MethodName × Nat) := [(⟨"PairMachineModel", "here", "(I)C"⟩, 45), (⟨"PairMachineModel", "datum", "()Z"⟩, 45), (⟨"PairMachineModel", "opens", "()Z"⟩, 45), (⟨"PairMachineModel", "number", "()Z"⟩, 45), (⟨"PairMachineModel", "takes", "(C)Z"⟩, 45), (⟨"PairMachineModel", "numberAt", "(I)I"⟩, 45), (⟨"PairMachineModel", "parameters", "(I)Z"⟩, 45), (⟨"PairMachineModel", "closes", "()Z"⟩, 45), (⟨"PairMachineModel", "goOn", "(I)I"⟩, 45), (⟨"PairMachineModel", "binding", "(I)Z"⟩, 45), (⟨"PairMachineModel", "firstUnknown", "()I"⟩, 45), (⟨"PairMachineModel", "resolved", "(I)I"⟩, 45), (⟨"PairMachineModel", "placeIn", "(II)I"⟩, 45), (⟨"PairMachineModel", "writeCode", "()V"⟩, 45), (⟨"PairMachineModel", "later", "(II)V"⟩, 45), (⟨"PairMachineModel", "writePart", "(I)V"⟩, 45)]
theorem lw_r5 : ∀ q ∈ lw_privs_5, lw_okq q := List.forall_mem_cons.mpr ⟨lw_p64, List.forall_mem_cons.mpr ⟨lw_p65, List.forall_mem_cons.mpr ⟨lw_p66, List.forall_mem_cons.mpr ⟨lw_p67, List.forall_mem_cons.mpr ⟨lw_p68, List.forall_mem_cons.mpr ⟨lw_p69, List.forall_mem_cons.mpr ⟨lw_p70, List.forall_mem_cons.mpr ⟨lw_p71, List.forall_mem_cons.mpr ⟨lw_p72, List.forall_mem_cons.mpr ⟨lw_p73, List.forall_mem_cons.mpr ⟨lw_p74, List.forall_mem_cons.mpr ⟨lw_p75, List.forall_mem_cons.mpr ⟨lw_p76, List.forall_mem_cons.mpr ⟨lw_p77, List.forall_mem_cons.mpr ⟨lw_p78, List.forall_mem_cons.mpr ⟨lw_p79, fun _ h => absurd h List.not_mem_nil⟩⟩⟩⟩⟩⟩⟩⟩⟩⟩⟩⟩⟩⟩⟩⟩
theorem lw_p80 : lw_okq (⟨"PairMachineModel", "sign", "(II)V"⟩, 45) := ⟨⟨by decide +kernel, by decide +kernel⟩, List.mem_of_getElem? (i := 1291) (by decide +kernel), List.mem_of_getElem? (i := 1527) (by decide +kernel), List.mem_of_getElem? (i := 1528) (by decide +kernel)⟩
theorem lw_p81 : lw_okq (⟨"PairMachineModel", "writeDatum", "(I)V"⟩, 45) := ⟨⟨by decide +kernel, by decide +kernel⟩, List.mem_of_getElem? (i := 1291) (by decide +kernel), List.mem_of_getElem? (i := 1531) (by decide +kernel), List.mem_of_getElem? (i := 1532) (by decide +kernel)⟩
theorem lw_p82 : lw_okq (⟨"PairMachineModel", "laterRow", "(I)V"⟩, 45) := ⟨⟨by decide +kernel, by decide +kernel⟩, List.mem_of_getElem? (i := 1291) (by decide +kernel), List.mem_of_getElem? (i := 1535) (by decide +kernel), List.mem_of_getElem? (i := 1536) (by decide +kernel)⟩
theorem lw_p83 : lw_okq (⟨"PairMachineModel", "laterCode", "(II)V"⟩, 45) := ⟨⟨by decide +kernel, by decide +kernel⟩, List.mem_of_getElem? (i := 1291) (by decide +kernel), List.mem_of_getElem? (i := 1539) (by decide +kernel), List.mem_of_getElem? (i := 1540) (by decide +kernel)⟩
theorem lw_p84 : lw_okq (⟨"PairMachineModel", "writeSign", "(II)V"⟩, 45) := ⟨⟨by decide +kernel, by decide +kernel⟩, List.mem_of_getElem? (i := 1291) (by decide +kernel), List.mem_of_getElem? (i := 1543) (by decide +kernel), List.mem_of_getElem? (i := 1544) (by decide +kernel)⟩
theorem lw_p85 : lw_okq (⟨"PairMachineModel", "lay", "()I"⟩, 45) := ⟨⟨by decide +kernel, by decide +kernel⟩, List.mem_of_getElem? (i := 1291) (by decide +kernel), List.mem_of_getElem? (i := 1550) (by decide +kernel), List.mem_of_getElem? (i := 1551) (by decide +kernel)⟩
theorem lw_p86 : lw_okq (⟨"PairMachineModel", "makeOf", "(II)I"⟩, 45) := ⟨⟨by decide +kernel, by decide +kernel⟩, List.mem_of_getElem? (i := 1291) (by decide +kernel), List.mem_of_getElem? (i := 1554) (by decide +kernel), List.mem_of_getElem? (i := 1555) (by decide +kernel)⟩
theorem lw_p87 : lw_okq (⟨"PairMachineModel", "make", "(III)I"⟩, 45) := ⟨⟨by decide +kernel, by decide +kernel⟩, List.mem_of_getElem? (i := 1291) (by decide +kernel), List.mem_of_getElem? (i := 1558) (by decide +kernel), List.mem_of_getElem? (i := 1559) (by decide +kernel)⟩
theorem lw_p88 : lw_okq (⟨"PairMachineModel", "sweep", "()I"⟩, 45) := ⟨⟨by decide +kernel, by decide +kernel⟩, List.mem_of_getElem? (i := 1291) (by decide +kernel), List.mem_of_getElem? (i := 1570) (by decide +kernel), List.mem_of_getElem? (i := 1571) (by decide +kernel)⟩
theorem lw_p89 : lw_okq (⟨"PairMachineModel", "reach", "()I"⟩, 45) := ⟨⟨by decide +kernel, by decide +kernel⟩, List.mem_of_getElem? (i := 1291) (by decide +kernel), List.mem_of_getElem? (i := 1574) (by decide +kernel), List.mem_of_getElem? (i := 1575) (by decide +kernel)⟩
theorem lw_p90 : lw_okq (⟨"PairMachineModel", "mark", "(II)V"⟩, 45) := ⟨⟨by decide +kernel, by decide +kernel⟩, List.mem_of_getElem? (i := 1291) (by decide +kernel), List.mem_of_getElem? (i := 1578) (by decide +kernel), List.mem_of_getElem? (i := 1579) (by decide +kernel)⟩
theorem lw_p91 : lw_okq (⟨"PairMachineModel", "step", "()V"⟩, 45) := ⟨⟨by decide +kernel, by decide +kernel⟩, List.mem_of_getElem? (i := 1291) (by decide +kernel), List.mem_of_getElem? (i := 1586) (by decide +kernel), List.mem_of_getElem? (i := 1587) (by decide +kernel)⟩
theorem lw_p92 : lw_okq (⟨"PairMachineModel", "free", "()I"⟩, 45) := ⟨⟨by decide +kernel, by decide +kernel⟩, List.mem_of_getElem? (i := 1291) (by decide +kernel), List.mem_of_getElem? (i := 1590) (by decide +kernel), List.mem_of_getElem? (i := 1591) (by decide +kernel)⟩
theorem lw_p93 : lw_okq (⟨"PairMachineModel", "stop", "(I)V"⟩, 45) := ⟨⟨by decide +kernel, by decide +kernel⟩, List.mem_of_getElem? (i := 1291) (by decide +kernel), List.mem_of_getElem? (i := 1597) (by decide +kernel), List.mem_of_getElem? (i := 1598) (by decide +kernel)⟩
theorem lw_p94 : lw_okq (⟨"PairMachineModel", "rest", "(I)I"⟩, 45) := ⟨⟨by decide +kernel, by decide +kernel⟩, List.mem_of_getElem? (i := 1291) (by decide +kernel), List.mem_of_getElem? (i := 1601) (by decide +kernel), List.mem_of_getElem? (i := 1602) (by decide +kernel)⟩
theorem lw_p95 : lw_okq (⟨"PairMachineModel", "push", "(II)V"⟩, 45) := ⟨⟨by decide +kernel, by decide +kernel⟩, List.mem_of_getElem? (i := 1291) (by decide +kernel), List.mem_of_getElem? (i := 1605) (by decide +kernel), List.mem_of_getElem? (i := 1606) (by decide +kernel)⟩
def lw_privs_6 : List (MethodName × Nat) := [(⟨"PairMachineModel", "sign", "(II)V"⟩, 45), (⟨"PairMachineModel", "writeDatum", "(I)V"⟩, 45), (⟨"PairMachineModel", "laterRow", "(I)V"⟩, 45), (⟨"PairMachineModel", "laterCode", "(II)V"⟩, 45), (⟨"PairMachineModel", "writeSign", "(II)V"⟩, 45), (⟨"PairMachineModel", "lay", "()I"⟩, 45), (⟨"PairMachineModel", "makeOf", "(II)I"⟩, 45), (⟨"PairMachineModel", "make", "(III)I"⟩, 45), (⟨"PairMachineModel", "sweep", "()I"⟩, 45), (⟨"PairMachineModel", "reach", "()I"⟩, 45), (⟨"PairMachineModel", "mark", "(II)V"⟩, 45), (⟨"PairMachineModel", "step", "()V"⟩, 45), (⟨"PairMachineModel", "free", "()I"⟩, 45), (⟨"PairMachineModel", "stop", "(I)V"⟩, 45), (⟨"PairMachineModel", "rest", "(I)I"⟩, 45), (⟨"PairMachineModel", "push", "(II)V"⟩, 45)]
theorem lw_r6 : ∀ q ∈ lw_privs_6, lw_okq q := List.forall_mem_cons.mpr ⟨lw_p80, List.forall_mem_cons.mpr ⟨lw_p81, List.forall_mem_cons.mpr ⟨lw_p82, List.forall_mem_cons.mpr ⟨lw_p83, List.forall_mem_cons.mpr ⟨lw_p84, List.forall_mem_cons.mpr ⟨lw_p85, List.forall_mem_cons.mpr ⟨lw_p86, List.forall_mem_cons.mpr ⟨lw_p87, List.forall_mem_cons.mpr ⟨lw_p88, List.forall_mem_cons.mpr ⟨lw_p89, List.forall_mem_cons.mpr ⟨lw_p90, List.forall_mem_cons.mpr ⟨lw_p91, List.forall_mem_cons.mpr ⟨lw_p92, List.forall_mem_cons.mpr ⟨lw_p93, List.forall_mem_cons.mpr ⟨lw_p94, List.forall_mem_cons.mpr ⟨lw_p95, fun _ h => absurd h List.not_mem_nil⟩⟩⟩⟩⟩⟩⟩⟩⟩⟩⟩⟩⟩⟩⟩⟩
theorem lw_p96 : lw_okq (⟨"PairMachineModel", "look", "(II)V"⟩, 45) := ⟨⟨by decide +kernel, by decide +kernel⟩, List.mem_of_getElem? (i := 1291) (by decide +kernel), List.mem_of_getElem? (i := 1609) (by decide +kernel), List.mem_of_getElem? (i := 1610) (by decide +kernel)⟩
theorem lw_p97 : lw_okq (⟨"PairMachineModel", "headList", "(I)I"⟩, 45) := ⟨⟨by decide +kernel, by decide +kernel⟩, List.mem_of_getElem? (i := 1291) (by decide +kernel), List.mem_of_getElem? (i := 1613) (by decide +kernel), List.mem_of_getElem? (i := 1614) (by decide +kernel)⟩
theorem lw_p98 : lw_okq (⟨"PairMachineModel", "call", "(ZI)V"⟩, 45) := ⟨⟨by decide +kernel, by decide +kernel⟩, List.mem_of_getElem? (i := 1291) (by decide +kernel), List.mem_of_getElem? (i := 1617) (by decide +kernel), List.mem_of_getElem? (i := 1618) (by decide +kernel)⟩
theorem lw_p99 : lw_okq (⟨"PairMachineModel", "peek", "(I)V"⟩, 45) := ⟨⟨by decide +kernel, by decide +kernel⟩, List.mem_of_getElem? (i := 1291) (by decide +kernel), List.mem_of_getElem? (i := 1621) (by decide +kernel), List.mem_of_getElem? (i := 1622) (by decide +kernel)⟩
theorem lw_p100 : lw_okq (⟨"PairMachineModel", "isFunction", "()Z"⟩, 45) := ⟨⟨by decide +kernel, by decide +kernel⟩, List.mem_of_getElem? (i := 1291) (by decide +kernel), List.mem_of_getElem? (i := 1625) (by decide +kernel), List.mem_of_getElem? (i := 1626) (by decide +kernel)⟩
theorem lw_p101 : lw_okq (⟨"PairMachineModel", "drop", "()V"⟩, 45) := ⟨⟨by decide +kernel, by decide +kernel⟩, List.mem_of_getElem? (i := 1291) (by decide +kernel), List.mem_of_getElem? (i := 1629) (by decide +kernel), List.mem_of_getElem? (i := 1630) (by decide +kernel)⟩
theorem lw_p102 : lw_okq (⟨"PairMachineModel", "comeBack", "()V"⟩, 45) := ⟨⟨by decide +kernel, by decide +kernel⟩, List.mem_of_getElem? (i := 1291) (by decide +kernel), List.mem_of_getElem? (i := 1633) (by decide +kernel), List.mem_of_getElem? (i := 1634) (by decide +kernel)⟩
theorem lw_p103 : lw_okq (⟨"PairMachineModel", "choose", "(I)V"⟩, 45) := ⟨⟨by decide +kernel, by decide +kernel⟩, List.mem_of_getElem? (i := 1291) (by decide +kernel), List.mem_of_getElem? (i := 1637) (by decide +kernel), List.mem_of_getElem? (i := 1638) (by decide +kernel)⟩
theorem lw_p104 : lw_okq (⟨"PairMachineModel", "ofOne", "(II)V"⟩, 45) := ⟨⟨by decide +kernel, by decide +kernel⟩, List.mem_of_getElem? (i := 1291) (by decide +kernel), List.mem_of_getElem? (i := 1641) (by decide +kernel), List.mem_of_getElem? (i := 1642) (by decide +kernel)⟩
theorem lw_p105 : lw_okq (⟨"PairMachineModel", "isPair", "()Z"⟩, 45) := ⟨⟨by decide +kernel, by decide +kernel⟩, List.mem_of_getElem? (i := 1291) (by decide +kernel), List.mem_of_getElem? (i := 1645) (by decide +kernel), List.mem_of_getElem? (i := 1646) (by decide +kernel)⟩
theorem lw_p106 : lw_okq (⟨"PairMachineModel", "ofTwo", "(II)V"⟩, 45) := ⟨⟨by decide +kernel, by decide +kernel⟩, List.mem_of_getElem? (i := 1291) (by decide +kernel), List.mem_of_getElem? (i := 1649) (by decide +kernel), List.mem_of_getElem? (i := 1650) (by decide +kernel)⟩
theorem lw_p107 : lw_okq (⟨"PairMachineModel", "showAll", "()V"⟩, 45) := ⟨⟨by decide +kernel, by decide +kernel⟩, List.mem_of_getElem? (i := 1291) (by decide +kernel), List.mem_of_getElem? (i := 1653) (by decide +kernel), List.mem_of_getElem? (i := 1654) (by decide +kernel)⟩
theorem lw_p108 : lw_okq (⟨"PairMachineModel", "sayHead", "(II)V"⟩, 45) := ⟨⟨by decide +kernel, by decide +kernel⟩, List.mem_of_getElem? (i := 1291) (by decide +kernel), List.mem_of_getElem? (i := 1657) (by decide +kernel), List.mem_of_getElem? (i := 1658) (by decide +kernel)⟩
theorem lw_p109 : lw_okq (⟨"PairMachineModel", "say", "(I)V"⟩, 45) := ⟨⟨by decide +kernel, by decide +kernel⟩, List.mem_of_getElem? (i := 1291) (by decide +kernel), List.mem_of_getElem? (i := 1661) (by decide +kernel), List.mem_of_getElem? (i := 1662) (by decide +kernel)⟩
theorem lw_p110 : lw_okq (⟨"PairMachineModel", "sayNumber", "(I)V"⟩, 45) := ⟨⟨by decide +kernel, by decide +kernel⟩, List.mem_of_getElem? (i := 1291) (by decide +kernel), List.mem_of_getElem? (i := 1665) (by decide +kernel), List.mem_of_getElem? (i := 1666) (by decide +kernel)⟩
theorem lw_p111 : lw_okq (⟨"PairMachineModel", "lengthOf", "(I)I"⟩, 45) := ⟨⟨by decide +kernel, by decide +kernel⟩, List.mem_of_getElem? (i := 1291) (by decide +kernel), List.mem_of_getElem? (i := 1679) (by decide +kernel), List.mem_of_getElem? (i := 1680) (by decide +kernel)⟩
def lw_privs_7 : List (MethodName × Nat) := [(⟨"PairMachineModel", "look", "(II)V"⟩, 45), (⟨"PairMachineModel", "headList", "(I)I"⟩, 45), (⟨"PairMachineModel", "call", "(ZI)V"⟩, 45), (⟨"PairMachineModel", "peek", "(I)V"⟩, 45), (⟨"PairMachineModel", "isFunction", "()Z"⟩, 45), (⟨"PairMachineModel", "drop", "()V"⟩, 45), (⟨"PairMachineModel", "comeBack", "()V"⟩, 45), (⟨"PairMachineModel", "choose", "(I)V"⟩, 45), (⟨"PairMachineModel", "ofOne", "(II)V"⟩, 45), (⟨"PairMachineModel", "isPair", "()Z"⟩, 45), (⟨"PairMachineModel", "ofTwo", "(II)V"⟩, 45), (⟨"PairMachineModel", "showAll", "()V"⟩, 45), (⟨"PairMachineModel", "sayHead", "(II)V"⟩, 45), (⟨"PairMachineModel", "say", "(I)V"⟩, 45), (⟨"PairMachineModel", "sayNumber", "(I)V"⟩, 45), (⟨"PairMachineModel", "lengthOf", "(I)I"⟩, 45)]
theorem lw_r7 : ∀ q ∈ lw_privs_7, lw_okq q := List.forall_mem_cons.mpr ⟨lw_p96, List.forall_mem_cons.mpr ⟨lw_p97, List.forall_mem_cons.mpr ⟨lw_p98, List.forall_mem_cons.mpr ⟨lw_p99, List.forall_mem_cons.mpr ⟨lw_p100, List.forall_mem_cons.mpr ⟨lw_p101, List.forall_mem_cons.mpr ⟨lw_p102, List.forall_mem_cons.mpr ⟨lw_p103, List.forall_mem_cons.mpr ⟨lw_p104, List.forall_mem_cons.mpr ⟨lw_p105, List.forall_mem_cons.mpr ⟨lw_p106, List.forall_mem_cons.mpr ⟨lw_p107, List.forall_mem_cons.mpr ⟨lw_p108, List.forall_mem_cons.mpr ⟨lw_p109, List.forall_mem_cons.mpr ⟨lw_p110, List.forall_mem_cons.mpr ⟨lw_p111, fun _ h => absurd h List.not_mem_nil⟩⟩⟩⟩⟩⟩⟩⟩⟩⟩⟩⟩⟩⟩⟩⟩
def lw_privs : List (MethodName × Nat) := lw_privs_1 ++ (lw_privs_2 ++ (lw_privs_3 ++ (lw_privs_4 ++ (lw_privs_5 ++ (lw_privs_6 ++ (lw_privs_7))))))
def lw_tbl : List Cond := k2_sels lw_privs ++ tables_1
theorem lw_privs_ok : ∀ q ∈ lw_privs, lw_okq q := by
  show ∀ q ∈ lw_privs_1 ++ (lw_privs_2 ++ (lw_privs_3 ++ (lw_privs_4 ++ (lw_privs_5 ++ (lw_privs_6 ++ (lw_privs_7)))))), lw_okq q
  exact List.forall_mem_append.mpr ⟨lw_r1, List.forall_mem_append.mpr ⟨lw_r2, List.forall_mem_append.mpr ⟨lw_r3, List.forall_mem_append.mpr ⟨lw_r4, List.forall_mem_append.mpr ⟨lw_r5, List.forall_mem_append.mpr ⟨lw_r6, lw_r7⟩⟩⟩⟩⟩⟩
-- ===== end of PART A; then your names; then what follows =====
end
section
def mj_nth {α : Type} : List α → Nat → Option α
  | [], _ => none
  | a :: _, 0 => some a
  | _ :: l, n + 1 => mj_nth l n
def mj_stn {α : Type} : List α → Nat → α → List α
  | [], _, _ => []
  | _ :: l, 0, b => b :: l
  | a :: l, n + 1, b => a :: mj_stn l n b
abbrev mj_O : Type := (Nat × vp_A) ⊕ (Nat × List Value) ⊕ (Nat × (Nat → Nat)) ⊕ Unit
abbrev mj_H : Type := List mj_O × Nat × Nat × Bool
abbrev mj_R : Type := (Option Value ⊕ Nat) × mj_H
abbrev mj_L : Type := List (Option Value)
abbrev mj_C : Type := List (Bool × Instr)
def mj_obj (o : Nat × List Value) : mj_O := .inr (.inl o)
def mj_set (h : mj_H) (i : Nat) (o : mj_O) : mj_H := (mj_stn h.1 i o, h.2)
def mj_kill : mj_L → Nat → mj_L
  | ls, 0 => ls
  | ls, k + 1 => match mj_nth ls k with
    | some (some (.long _)) => mj_stn ls k none
    | some (some (.double _)) => mj_stn ls k none
    | _ => ls
def mj_st1 (ls : mj_L) (k : Nat) (v : Value) : mj_L := mj_stn (mj_kill ls k) k (some v)
def mj_st2 (ls : mj_L) (k : Nat) (v : Value) : mj_L := mj_stn (mj_stn (mj_kill ls k) k (some v)) (k + 1) none
def mj_lay : List Value → Nat → mj_L
  | [], n => List.replicate n none
  | .long x :: r, n => some (.long x) :: none :: mj_lay r (n - 2)
  | .double x :: r, n => some (.double x) :: none :: mj_lay r (n - 2)
  | v :: r, n => some v :: mj_lay r (n - 1)
def mj_pop : Nat → List Value → List Value → Option (List Value × List Value)
  | 0, st, as => some (as, st)
  | _ + 1, [], _ => none
  | n + 1, v :: st, as => mj_pop n st (v :: as)
abbrev mj_N : Type := Nat → Option (List Value)
def mj_fresh (t n : Nat) : Option vp_A := match t with
  | 1 => some (n, .inr (.inl (fun _ => 0)))
  | 0 => some (n, .inl (fun _ => 0))
  | 2 => some (n, .inl (fun _ => 0))
  | 3 => some (n, .inl (fun _ => 0))
  | 4 => some (n, .inl (fun _ => 0))
  | _ => none
def mj_tag : ArrayType → Option Nat
  | .int => some 0
  | .long => some 1
  | .char => some 2
  | .boolean => some 3
  | .byte => some 4
  | _ => none
def mj_wt (st : List Value) : Nat := (st.map fun v => v.category).sum
def mj_sw (go : Int → Prop) (d : Int) (x : Int32) : List (Int × Int) → Prop
  | [] => go d
  | (v, t) :: l => (x = Int32.ofInt v → go t) ∧ (¬ x = Int32.ofInt v → mj_sw go d x l)
def mj_thr (hd : Nat → Nat → Option (Option (Nat × Nat))) (Q : mj_R → Prop) (k : Nat → mj_L → List Value → mj_H → Prop) (pc : Nat) (ls : mj_L) (c : Nat) (h : mj_H) : Prop := match hd pc c with
  | some (some (t, j)) => k (t + 1) (mj_stn (mj_kill ls j) j none) [] h
  | some none => Q (.inr c, h)
  | none => False
def mj_after (hd : Nat → Nat → Option (Option (Nat × Nat))) (Q : mj_R → Prop) (k : Nat → mj_L → List Value → mj_H → Prop) (pc : Nat) (ls : mj_L) (r : List Value) : mj_R → Prop
  | (.inl none, h) => k (pc + 1) ls r h
  | (.inl (some v), h) => k (pc + 1) ls (v :: r) h
  | (.inr c, h) => mj_thr hd Q k pc ls c h
def mj_recv (n : Nat) (as : List Value) (h : mj_H) : Bool := match n % 4 with
  | 0 => match as with
    | .ref a :: _ => match mj_nth h.1 a with
      | some (.inr (.inl (ci, _))) => Nat.beq ci (n / 64)
      | _ => false
    | _ => false
  | 2 => match as with
    | .ref a :: _ => match mj_nth h.1 a with
      | some (.inr (.inl (ci, _))) => Nat.beq ci (n / 64)
      | _ => false
    | _ => false
  | 3 => match as with
    | .ref a :: _ => match mj_nth h.1 a with
      | some (.inr (.inl (ci, _))) => Nat.beq ci (n / 64)
      | _ => false
    | _ => false
  | _ => true
def mj_put (k : mj_O → Prop) (ci : Nat) (fs : List Value) (j ty : Nat) (v : Value) : Prop := match ty, v with
  | 0, .int x => k (.inr (.inl (ci, mj_stn fs j (.int x))))
  | 1, .long x => k (.inr (.inl (ci, mj_stn fs j (.long x))))
  | 2, .ref x => k (.inr (.inl (ci, mj_stn fs j (.ref x))))
  | 3, .int x => (x = 0 ∨ x = 1) ∧ k (.inr (.inl (ci, mj_stn fs j (.int x))))
  | _, _ => False
def mj_ni : List Value → Bool
  | [] => true
  | .int _ :: r => mj_ni r
  | .retAddr _ :: r => mj_ni r
  | .ref a :: r => match Nat.ble 1000 a with
    | true => mj_ni r
    | false => false
  | _ => false
def mj_bp (k : Nat → mj_L → List Value → mj_H → Prop) (pc : Nat) (ls : mj_L) (r : List Value) (h : mj_H) (a : Nat) : mj_R → Prop
  | (.inl v, os, bc, bs, _) => ∃ (j N : Nat) (g : Nat → Int32) (n : Nat) (f : Nat → Nat) (ml : Int32), mj_nth os 0 = some (.inr (.inl (9, [.ref j, .int 0, .int ml, .int (nI n)]))) ∧ mj_nth os j = some (.inl (4, N, .inl g)) ∧ 0 < j ∧ n ≤ N ∧ N ≤ 65536 ∧ sb_Lat f n g ∧ sb_Fit g ∧ match v with
    | none => k (pc + 1) ls r (mj_stn h.1 a (.inr (.inr (.inl (n, f)))), bc, bs, false)
    | some (.int x) => k (pc + 1) ls (.int x :: r) (mj_stn h.1 a (.inr (.inr (.inl (n, f)))), bc, bs, false)
    | some (.ref 0) => k (pc + 1) ls (.ref a :: r) (mj_stn h.1 a (.inr (.inr (.inl (n, f)))), bc, bs, false)
    | _ => False
  | _ => False
def mj_ip (k : Nat → mj_L → List Value → mj_H → Prop) (pc : Nat) (ls : mj_L) (r : List Value) (a : Nat) : mj_R → Prop
  | (.inl none, os, bc, bs, fl) => ∃ (N : Nat) (g : Nat → Int32) (ml : Int32), mj_nth os a = some (.inr (.inl (9, [.ref (a + 1), .int 0, .int ml, .int (nI 0)]))) ∧ mj_nth os (a + 1) = some (.inl (4, N, .inl g)) ∧ N ≤ 65536 ∧ sb_Fit g ∧ k (pc + 1) ls r (mj_stn (mj_stn os a (.inr (.inr (.inl (0, fun _ => 0))))) (a + 1) (.inr (.inr (.inr ()))), bc, bs, fl)
  | _ => False
section MJ
variable (call : Nat → List Value → mj_H → (mj_R → Prop) → Prop) (cst : Nat → Option (Nat × (Nat → Int32))) (nw : mj_N) (hd : Nat → Nat → Option (Option (Nat × Nat))) (Q : mj_R → Prop) (k : Nat → mj_L → List Value → mj_H → Prop)
def mj_stp (i : Instr) (pc : Nat) (ls : mj_L) (st : List Value) (h : mj_H) : Prop := match i with
  | .iconst v => k (pc + 1) ls (.int (Int32.ofInt v) :: st) h
  | .ldc2_w n => k (pc + 1) ls (.long (Int64.ofNat n) :: st) h
  | .iload n => match mj_nth ls n with
    | some (some (.int x)) => k (pc + 1) ls (.int x :: st) h
    | _ => False
  | .lload n => match mj_nth ls n with
    | some (some (.long x)) => k (pc + 1) ls (.long x :: st) h
    | _ => False
  | .aload n => match mj_nth ls n with
    | some (some (.ref x)) => k (pc + 1) ls (.ref x :: st) h
    | _ => False
  | .istore n => match st with
    | .int x :: r => k (pc + 1) (mj_st1 ls n (.int x)) r h
    | _ => False
  | .lstore n => match st with
    | .long x :: r => k (pc + 1) (mj_st2 ls n (.long x)) r h
    | _ => False
  | .astore n => match st with
    | .ref x :: r => k (pc + 1) (mj_st1 ls n (.ref x)) r h
    | _ => False
  | .iinc n c => match mj_nth ls n with
    | some (some (.int x)) => k (pc + 1) (mj_st1 ls n (.int (x + Int32.ofInt c))) st h
    | _ => False
  | .iadd => match st with
    | .int y :: .int x :: r => k (pc + 1) ls (.int (x + y) :: r) h
    | _ => False
  | .isub => match st with
    | .int y :: .int x :: r => k (pc + 1) ls (.int (x - y) :: r) h
    | _ => False
  | .imul => match st with
    | .int y :: .int x :: r => k (pc + 1) ls (.int (x * y) :: r) h
    | _ => False
  | .iand => match st with
    | .int y :: .int x :: r => k (pc + 1) ls (.int (x &&& y) :: r) h
    | _ => False
  | .ior => match st with
    | .int y :: .int x :: r => k (pc + 1) ls (.int (x ||| y) :: r) h
    | _ => False
  | .ixor => match st with
    | .int y :: .int x :: r => k (pc + 1) ls (.int (x ^^^ y) :: r) h
    | _ => False
  | .ishl => match st with
    | .int y :: .int x :: r => k (pc + 1) ls (.int (x <<< (y &&& 31)) :: r) h
    | _ => False
  | .ishr => match st with
    | .int y :: .int x :: r => k (pc + 1) ls (.int (x >>> (y &&& 31)) :: r) h
    | _ => False
  | .iushr => match st with
    | .int y :: .int x :: r => k (pc + 1) ls (.int (x.toUInt32 >>> (y.toUInt32 &&& Int32.toUInt32 31)).toInt32 :: r) h
    | _ => False
  | .idiv => match st with
    | .int y :: .int x :: r => ¬ y = 0 ∧ k (pc + 1) ls (.int (x / y) :: r) h
    | _ => False
  | .irem => match st with
    | .int y :: .int x :: r => ¬ y = 0 ∧ k (pc + 1) ls (.int (x - x / y * y) :: r) h
    | _ => False
  | .ineg => match st with
    | .int x :: r => k (pc + 1) ls (.int (-x) :: r) h
    | _ => False
  | .ladd => match st with
    | .long y :: .long x :: r => k (pc + 1) ls (.long (x + y) :: r) h
    | _ => False
  | .lsub => match st with
    | .long y :: .long x :: r => k (pc + 1) ls (.long (x - y) :: r) h
    | _ => False
  | .land => match st with
    | .long y :: .long x :: r => k (pc + 1) ls (.long (x &&& y) :: r) h
    | _ => False
  | .lor => match st with
    | .long y :: .long x :: r => k (pc + 1) ls (.long (x ||| y) :: r) h
    | _ => False
  | .lshl => match st with
    | .int y :: .long x :: r => k (pc + 1) ls (.long (x <<< (y.toInt64 &&& 63)) :: r) h
    | _ => False
  | .lshr => match st with
    | .int y :: .long x :: r => k (pc + 1) ls (.long (x >>> (y.toInt64 &&& 63)) :: r) h
    | _ => False
  | .lushr => match st with
    | .int y :: .long x :: r => k (pc + 1) ls (.long (x.toUInt64 >>> (y.toInt64.toUInt64 &&& Int64.toUInt64 63)).toInt64 :: r) h
    | _ => False
  | .lcmp => match st with
    | .long y :: .long x :: r => k (pc + 1) ls (.int (lg_cmp x y) :: r) h
    | _ => False
  | .i2l => match st with
    | .int x :: r => k (pc + 1) ls (.long x.toInt64 :: r) h
    | _ => False
  | .l2i => match st with
    | .long x :: r => k (pc + 1) ls (.int x.toInt32 :: r) h
    | _ => False
  | .i2c => match st with
    | .int x :: r => k (pc + 1) ls (.int (x.toUInt32 % 65536).toInt32 :: r) h
    | _ => False
  | .i2b => match st with
    | .int x :: r => k (pc + 1) ls (.int x.toInt8.toInt32 :: r) h
    | _ => False
  | .dup => match st with
    | .int x :: r => k (pc + 1) ls (.int x :: .int x :: r) h
    | .ref x :: r => k (pc + 1) ls (.ref x :: .ref x :: r) h
    | _ => False
  | .dup_x1 => match st with
    | .int x :: .ref y :: r => k (pc + 1) ls (.int x :: .ref y :: .int x :: r) h
    | .int x :: .int y :: r => k (pc + 1) ls (.int x :: .int y :: .int x :: r) h
    | _ => False
  | .dup2 => match st with
    | .int x :: .ref y :: r => k (pc + 1) ls (.int x :: .ref y :: .int x :: .ref y :: r) h
    | .int x :: .int y :: r => k (pc + 1) ls (.int x :: .int y :: .int x :: .int y :: r) h
    | .long x :: r => k (pc + 1) ls (.long x :: .long x :: r) h
    | _ => False
  | .pop => match st with
    | .int _ :: r => k (pc + 1) ls r h
    | .ref _ :: r => k (pc + 1) ls r h
    | _ => False
  | .monitorenter => match st with
    | .ref _ :: r => match Nat.ble (mj_wt r) 8 with
      | true => k (pc + 1) ls r h
      | false => False
    | _ => False
  | .pop2 => match st with
    | .long _ :: r => k (pc + 1) ls r h
    | _ => False
  | .ifCond c t => match st with
    | .int x :: r => match c with
      | .eq => (x = 0 → k t.toNat ls r h) ∧ (¬ x = 0 → k (pc + 1) ls r h)
      | .ne => (¬ x = 0 → k t.toNat ls r h) ∧ (x = 0 → k (pc + 1) ls r h)
      | .lt => (x < 0 → k t.toNat ls r h) ∧ (¬ x < 0 → k (pc + 1) ls r h)
      | .ge => (0 ≤ x → k t.toNat ls r h) ∧ (¬ 0 ≤ x → k (pc + 1) ls r h)
      | .gt => (0 < x → k t.toNat ls r h) ∧ (¬ 0 < x → k (pc + 1) ls r h)
      | .le => (x ≤ 0 → k t.toNat ls r h) ∧ (¬ x ≤ 0 → k (pc + 1) ls r h)
    | _ => False
  | .if_icmp c t => match st with
    | .int y :: .int x :: r => match c with
      | .eq => (x = y → k t.toNat ls r h) ∧ (¬ x = y → k (pc + 1) ls r h)
      | .ne => (¬ x = y → k t.toNat ls r h) ∧ (x = y → k (pc + 1) ls r h)
      | .lt => (x < y → k t.toNat ls r h) ∧ (¬ x < y → k (pc + 1) ls r h)
      | .ge => (y ≤ x → k t.toNat ls r h) ∧ (¬ y ≤ x → k (pc + 1) ls r h)
      | .gt => (y < x → k t.toNat ls r h) ∧ (¬ y < x → k (pc + 1) ls r h)
      | .le => (x ≤ y → k t.toNat ls r h) ∧ (¬ x ≤ y → k (pc + 1) ls r h)
    | _ => False
  | .goto t => k t.toNat ls st h
  | .lookupswitch d ps => match st with
    | .int x :: r => mj_sw (fun t => k t.toNat ls r h) d x ps.toList
    | _ => False
  | .ireturn => match st with
    | [.int x] => Q (.inl (some (.int x)), h)
    | _ => False
  | .freturn => match st with
    | [.int x] => (x = 0 ∨ x = 1) ∧ Q (.inl (some (.int x)), h)
    | _ => False
  | .dreturn => match st with
    | [.int x] => narrow .char (.int x) = .int x ∧ Q (.inl (some (.int x)), h)
    | _ => False
  | .lneg => match st with
    | .long x :: r => k (pc + 1) ls (.long (-x) :: r) h
    | _ => False
  | .athrow => match st with
    | [.int x] => narrow .byte (.int x) = .int x ∧ Q (.inl (some (.int x)), h)
    | _ => False
  | .lmul => match st with
    | .long y :: .long x :: r => k (pc + 1) ls (.long (x * y) :: r) h
    | _ => False
  | .ldiv => match st with
    | .long y :: .long x :: r => ¬ y = 0 ∧ k (pc + 1) ls (.long (x / y) :: r) h
    | _ => False
  | .lrem => match st with
    | .long y :: .long x :: r => ¬ y = 0 ∧ k (pc + 1) ls (.long (x - x / y * y) :: r) h
    | _ => False
  | .ifnonnull t => match st with
    | .ref _ :: r => k t.toNat ls r h
    | _ => False
  | .dload _ => k (pc + 1) ls (.retAddr 0 :: st) h
  | .ldc w => k (pc + 1) ls (.ref w :: st) h
  | .anewarray w => match st with
    | .ref a :: r => match cst a, Nat.ble 2000 a, w with
      | some _, true, 0 => k (pc + 1) ls (.ref (a - 900) :: r) h
      | some _, true, 1 => k (pc + 1) ls (.int 0 :: r) h
      | _, _, _ => False
    | _ => False
  | .instanceof w => match mj_pop (w / 4 % 16) st [] with
    | some (.ref a :: as, r) => match cst a, Nat.ble 2000 a, Nat.ble (mj_wt r) 8 with
      | some _, true, true => call (w / 1024) (.ref a :: as) h (mj_after hd Q k pc ls r)
      | _, _, _ => False
    | _ => False
  | .fload _ => match st with
    | .int n :: .int dp :: .ref a :: .int sp :: .ref a0 :: r => match Nat.ble (mj_wt r) 8, cst a0, mj_nth h.1 a with
      | true, some (n0, f), some (.inl (4, n1, .inl g)) => 1100 ≤ a0 ∧ a0 < 2000 ∧ ¬ sp < 0 ∧ ¬ dp < 0 ∧ ¬ n < 0 ∧ sp.toNatClampNeg + n.toNatClampNeg ≤ n0 ∧ dp.toNatClampNeg + n.toNatClampNeg ≤ n1 ∧ sb_Fit f ∧ k (pc + 1) ls r (mj_set h a (.inl (4, n1, .inl (va_cpy f g sp.toNatClampNeg dp.toNatClampNeg n.toNatClampNeg))))
      | _, _, _ => False
    | _ => False
  | .lreturn => match st with
    | [.long x] => Q (.inl (some (.long x)), h)
    | _ => False
  | .return_ => match st with
    | [] => Q (.inl none, h)
    | _ => False
  | .getfield f => match st with
    | .ref a :: r => match mj_nth h.1 a with
      | some (.inr (.inl (ci, fs))) => match Nat.beq ci (f / 256), mj_nth fs (f / 4 % 64) with
        | true, some v => k (pc + 1) ls (v :: r) h
        | _, _ => False
      | _ => False
    | _ => False
  | .putfield f => match st with
    | v :: .ref a :: r => match mj_nth h.1 a with
      | some (.inr (.inl (ci, fs))) => match Nat.beq ci (f / 256), Nat.blt (f / 4 % 64) fs.length with
        | true, true => mj_put (fun o => k (pc + 1) ls r (mj_set h a o)) ci fs (f / 4 % 64) (f % 4) v
        | _, _ => False
      | _ => False
    | _ => False
  | .getstatic j => k (pc + 1) ls (.ref j :: st) h
  | .iaload => match st with
    | .int i :: .ref a :: r => match Nat.ble 1000 a with
      | true => match cst a, Nat.blt a 1100 with
        | some (n, g), true => vp_in i n ∧ k (pc + 1) ls (.int (g i.toNatClampNeg) :: r) h
        | _, _ => False
      | false => match mj_nth h.1 a with
        | some (.inl (0, n, .inl g)) => vp_in i n ∧ k (pc + 1) ls (.int (g i.toNatClampNeg) :: r) h
        | _ => False
    | _ => False
  | .laload => match st with
    | .int i :: .ref a :: r => match mj_nth h.1 a with
      | some (.inl (1, n, .inr (.inl g))) => vp_in i n ∧ k (pc + 1) ls (.long (g i.toNatClampNeg) :: r) h
      | _ => False
    | _ => False
  | .caload => match st with
    | .int i :: .ref a :: r => match mj_nth h.1 a with
      | some (.inl (2, n, .inl g)) => vp_in i n ∧ k (pc + 1) ls (.int (g i.toNatClampNeg) :: r) h
      | _ => False
    | _ => False
  | .baload => match st with
    | .int i :: .ref a :: r => match Nat.ble 1000 a with
      | true => match cst a, Nat.ble 1100 a, Nat.blt a 2000 with
        | some (n, g), true, true => vp_in i n ∧ k (pc + 1) ls (.int (g i.toNatClampNeg) :: r) h
        | _, _, _ => False
      | false => match mj_nth h.1 a with
        | some (.inl (3, n, .inl g)) => vp_in i n ∧ k (pc + 1) ls (.int (g i.toNatClampNeg) :: r) h
        | some (.inl (4, n, .inl g)) => vp_in i n ∧ k (pc + 1) ls (.int (g i.toNatClampNeg) :: r) h
        | _ => False
    | _ => False
  | .iastore => match st with
    | .int x :: .int i :: .ref a :: r => match mj_nth h.1 a with
      | some (.inl (0, n, .inl g)) => vp_in i n ∧ k (pc + 1) ls r (mj_set h a (.inl (0, n, .inl (upd g i.toNatClampNeg x))))
      | _ => False
    | _ => False
  | .lastore => match st with
    | .long x :: .int i :: .ref a :: r => match mj_nth h.1 a with
      | some (.inl (1, n, .inr (.inl g))) => vp_in i n ∧ k (pc + 1) ls r (mj_set h a (.inl (1, n, .inr (.inl (vp_updL g i.toNatClampNeg x)))))
      | _ => False
    | _ => False
  | .castore => match st with
    | .int x :: .int i :: .ref a :: r => match mj_nth h.1 a with
      | some (.inl (2, n, .inl g)) => vp_in i n ∧ k (pc + 1) ls r (mj_set h a (.inl (2, n, .inl (upd g i.toNatClampNeg (vp_nar .char x)))))
      | _ => False
    | _ => False
  | .bastore => match st with
    | .int x :: .int i :: .ref a :: r => match mj_nth h.1 a with
      | some (.inl (3, n, .inl g)) => vp_in i n ∧ k (pc + 1) ls r (mj_set h a (.inl (3, n, .inl (upd g i.toNatClampNeg (vp_nar .boolean x)))))
      | some (.inl (4, n, .inl g)) => vp_in i n ∧ k (pc + 1) ls r (mj_set h a (.inl (4, n, .inl (upd g i.toNatClampNeg (vp_nar .byte x)))))
      | _ => False
    | _ => False
  | .arraylength => match st with
    | .ref a :: r => match Nat.ble 1000 a with
      | true => match cst a, Nat.blt a 2000 with
        | some (n, _), true => k (pc + 1) ls (.int (Int32.ofNat n) :: r) h
        | _, _ => False
      | false => match mj_nth h.1 a with
        | some (.inl (t, n, _)) => match Nat.blt t 5 with
          | true => k (pc + 1) ls (.int (Int32.ofNat n) :: r) h
          | false => False
        | _ => False
    | _ => False
  | .new c => match nw c, h with
    | some fs, (os, bc + 1, bs, true) => os.length < 999 ∧ fs.length ≤ bs ∧ k (pc + 1) ls (.ref os.length :: st) (os ++ [.inr (.inl (c, fs))], bc, bs - fs.length, true)
    | _, _ => False
  | .newarray t => match mj_tag t, st, h with
    | some g, .int n :: r, (os, bc + 1, bs, true) => match mj_fresh g n.toNatClampNeg with
      | some a => os.length < 999 ∧ ¬ n < 0 ∧ n.toNatClampNeg ≤ bs ∧ n.toNatClampNeg ≤ 2000 ∧ k (pc + 1) ls (.ref os.length :: r) (os ++ [.inl (g, a)], bc, bs - n.toNatClampNeg, true)
      | none => False
    | _, _, _ => False
  | .invokeinterface y n => match mj_pop (n / 4 % 16) st [] with
    | some (as, r) => match mj_recv n as h, Nat.ble (mj_wt r) 8 with
      | true, true => call y as h (mj_after hd Q k pc ls r)
      | _, _ => False
    | none => False
  | .areturn => match st with
    | [.ref x] => Q (.inl (some (.ref x)), h)
    | _ => False
  | .invokestatic _ => match st with
    | .int n :: .int dp :: .ref a :: .int sp :: .ref a0 :: r => match Nat.ble (mj_wt r) 8, mj_nth h.1 a0, mj_nth h.1 a with
      | true, some (.inl (4, n0, .inl f)), some (.inl (4, n1, .inl g)) => ¬ sp < 0 ∧ ¬ dp < 0 ∧ ¬ n < 0 ∧ sp.toNatClampNeg + n.toNatClampNeg ≤ n0 ∧ dp.toNatClampNeg + n.toNatClampNeg ≤ n1 ∧ sb_Fit f ∧ k (pc + 1) ls r (mj_set h a (.inl (4, n1, .inl (va_cpy f g sp.toNatClampNeg dp.toNatClampNeg n.toNatClampNeg))))
      | _, _, _ => False
    | _ => False
  | .invokespecial w => match st with
    | .ref a :: r => match Nat.ble (mj_wt r) 8 with
      | true => call (w / 1024) [.ref a] h (mj_ip k pc ls r a)
      | false => False
    | _ => False
  | .invokevirtual w => match mj_pop (w / 4 % 16) st [] with
    | some (.ref a :: as, r) => match mj_nth h.1 a, mj_ni as, Nat.ble (mj_wt r) 8 with
      | some (.inr (.inr (.inl (n, f)))), true, true => ∀ (ml : Int32) (N : Nat) (g : Nat → Int32), n ≤ N → N ≤ 65536 → sb_Lat f n g → sb_Fit g → call (w / 1024) (.ref 0 :: as) ([.inr (.inl (9, [.ref 1, .int 0, .int ml, .int (nI n)])), .inl (4, N, .inl g)], h.2.1, h.2.2.1, true) (mj_bp k pc ls r h a)
      | _, _, _ => False
    | _ => False
  | .invokedynamic w => match st, w with
    | .int y :: .int x :: r, 0 => match Nat.ble (mj_wt r) 8 with
      | true => k (pc + 1) ls (.int (if x < y then y else x) :: r) h
      | false => False
    | .int y :: .int x :: r, 1 => match Nat.ble (mj_wt r) 8 with
      | true => k (pc + 1) ls (.int (if y < x then y else x) :: r) h
      | false => False
    | _, _ => False
  | .checkcast c => match Nat.ble (mj_wt st) 8, h with
    | true, (os, bc + 1, bs, _) => 6 ≤ bs ∧ mj_thr hd Q k pc ls c (os, bc, bs - 6, false)
    | _, _ => False
  | _ => False
end MJ
def mj_sg (call : Nat → List Value → mj_H → (mj_R → Prop) → Prop) (cst : Nat → Option (Nat × (Nat → Int32))) (nw : mj_N) (hd : Nat → Nat → Option (Option (Nat × Nat))) (code : mj_C) (J : Nat → mj_L → List Value → mj_H → Prop) (Q : mj_R → Prop) : Nat → Bool → Nat → mj_L → List Value → mj_H → Prop
  | 0, _, _, _, _, _ => False
  | f + 1, fst, pc, ls, st, h => match mj_nth code pc with
    | none => False
    | some (cu, i) => match cu, fst with
      | true, false => J pc ls st h
      | _, _ => mj_stp call cst nw hd Q (mj_sg call cst nw hd code J Q f false) i pc ls st h
def mj_Wp (call : Nat → List Value → mj_H → (mj_R → Prop) → Prop) (cst : Nat → Option (Nat × (Nat → Int32))) (nw : mj_N) (hd : Nat → Nat → Option (Option (Nat × Nat))) (code : mj_C) (Q : mj_R → Prop) (pc : Nat) (ls : mj_L) (st : List Value) (h : mj_H) : Prop :=
  ∀ J : Nat → mj_L → List Value → mj_H → Prop, (∀ pc ls st h, mj_sg call cst nw hd code J Q 400 true pc ls st h → J pc ls st h) → J pc ls st h
abbrev mj_X : Type := List (Nat × Nat × Nat × Nat × Nat)
def mj_hd (off : Nat → Nat) : mj_X → Nat → Nat → Option (Option (Nat × Nat))
  | [], _, _ => some none
  | (a, b, t, j, q0) :: r, pc, q => match Nat.ble a (off pc) && Nat.blt (off pc) b with
    | true => match Nat.beq q q0 with
      | true => some (some (t, j))
      | false => match Nat.blt q 2, mj_hd off r pc q with
        | true, some (some x) => some (some x)
        | _, _ => none
    | false => mj_hd off r pc q
def mj_off (os : List Nat) (pc : Nat) : Nat := (mj_nth os pc).getD 0
abbrev mj_T : Type := Nat → Option (mj_C × Nat × List Nat × mj_X)
def mj_Mt (T : mj_T) (cst : Nat → Option (Nat × (Nat → Int32))) (nw : mj_N) : Nat → Nat → List Value → mj_H → (mj_R → Prop) → Prop
  | 0, _, _, _, _ => False
  | n + 1, y, as, h, Q => match T y with
    | none => False
    | some (code, nL, os, hx) => match Nat.ble (mj_wt as) nL with
      | true => mj_Wp (mj_Mt T cst nw n) cst nw (mj_hd (mj_off os) hx) code Q 0 (mj_lay as nL) [] h
      | false => False
end
section
theorem mj_nth_get {α : Type} (l : List α) (i : Nat) : mj_nth l i = l[i]? := by
  induction l generalizing i with
  | nil => cases i <;> rfl
  | cons a l ih => cases i with
    | zero => rfl
    | succ n => simpa [mj_nth] using ih n
theorem mj_stn_set {α : Type} (l : List α) (i : Nat) (b : α) : mj_stn l i b = l.set i b := by
  induction l generalizing i with
  | nil => cases i <;> rfl
  | cons a l ih => cases i with
    | zero => rfl
    | succ n => simpa [mj_stn] using ih n
def mj_tr (ad : Nat → Nat) : Value → Value
  | .ref i => .ref (ad i)
  | .retAddr _ => if ad 1999 = 0 then .null else .ref (ad 1999 - 1)
  | v => v
theorem mj_tr_cat (ad : Nat → Nat) (v : Value) : (mj_tr ad v).category = v.category := by
  cases v with
  | retAddr x =>
    show (if ad 1999 = 0 then Value.null else .ref (ad 1999 - 1)).category = 1
    split <;> rfl
  | _ => rfl
theorem mj_wt_tr (ad : Nat → Nat) (st : List Value) : mj_wt (st.map (mj_tr ad)) = mj_wt st := by
  unfold mj_wt
  induction st with
  | nil => rfl
  | cons v st ih => simp only [List.map_cons, List.sum_cons, mj_tr_cat]; rw [ih]
def mj_lv (ad : Nat → Nat) : Nat → mj_L → List (Nat × Value)
  | _, [] => []
  | i, none :: r => mj_lv ad (i + 1) r
  | i, some v :: r => (i, mj_tr ad v) :: mj_lv ad (i + 1) r
theorem mj_lv_mem {ad : Nat → Nat} {i : Nat} {ls : mj_L} {q : Nat × Value} : q ∈ mj_lv ad i ls ↔ ∃ (j : Nat) (v : Value), ls[j]? = some (some v) ∧ q = (i + j, mj_tr ad v) := by
  induction ls generalizing i with
  | nil => simp [mj_lv]
  | cons a r ih =>
    cases a with
    | none =>
      simp only [mj_lv, ih]
      constructor
      · rintro ⟨j, v, h, rfl⟩
        exact ⟨j + 1, v, by simpa using h, by rw [Nat.add_assoc, Nat.add_comm 1 j]⟩
      · rintro ⟨j, v, h, rfl⟩
        cases j with
        | zero => simp at h
        | succ j => exact ⟨j, v, by simpa using h, by rw [Nat.add_assoc, Nat.add_comm 1 j]⟩
    | some w =>
      simp only [mj_lv, List.mem_cons, ih]
      constructor
      · rintro (rfl | ⟨j, v, h, rfl⟩)
        · exact ⟨0, w, by simp, by simp⟩
        · exact ⟨j + 1, v, by simpa using h, by rw [Nat.add_assoc, Nat.add_comm 1 j]⟩
      · rintro ⟨j, v, h, rfl⟩
        cases j with
        | zero => left; simp at h; subst h; simp
        | succ j => right; exact ⟨j, v, by simpa using h, by rw [Nat.add_assoc, Nat.add_comm 1 j]⟩
theorem mj_kill_at {ls : mj_L} {n j : Nat} {u : Value} (h : (mj_kill ls n)[j]? = some (some u)) : ls[j]? = some (some u) ∧ ¬ (j + 1 = n ∧ u.category = 2) := by
  cases n with
  | zero => exact ⟨h, by omega⟩
  | succ k =>
    simp only [mj_kill] at h
    rw [mj_nth_get] at h
    split at h
    · next x hx =>
      rw [mj_stn_set] at h
      by_cases hj : j = k
      · subst hj
        rw [List.getElem?_set_self (List.getElem?_eq_some_iff.mp hx).1] at h
        cases h
      · rw [List.getElem?_set_ne (fun e => hj e.symm)] at h
        exact ⟨h, by omega⟩
    · next x hx =>
      rw [mj_stn_set] at h
      by_cases hj : j = k
      · subst hj
        rw [List.getElem?_set_self (List.getElem?_eq_some_iff.mp hx).1] at h
        cases h
      · rw [List.getElem?_set_ne (fun e => hj e.symm)] at h
        exact ⟨h, by omega⟩
    · next h1 h2 =>
      refine ⟨h, ?_⟩
      rintro ⟨e, hc⟩
      have e : j = k := by omega
      subst e
      cases u with
      | long x => exact h1 x h
      | double x => exact h2 x h
      | _ => simp [Value.category] at hc
theorem mj_lv_st1 {ad : Nat → Nat} {L' : Array Slot} {nL n : Nat} {ls : mj_L} {v : Value} (h : lv_has L' nL ((n, mj_tr ad v) :: (mj_lv ad 0 ls).filter (fun q => !(q.1 == n) && !(q.1 + 1 == n && q.2.category == 2)))) : lv_has L' nL (mj_lv ad 0 (mj_st1 ls n v)) := by
  refine ⟨h.1, h.2.1, fun q hq => h.2.2 q ?_⟩
  obtain ⟨j, u, hu, rfl⟩ := mj_lv_mem.mp hq
  unfold mj_st1 at hu
  rw [mj_stn_set] at hu
  by_cases hj : j = n
  · subst hj
    have hl : j < (mj_kill ls j).length := by
      have := (List.getElem?_eq_some_iff.mp hu).1
      simpa using this
    rw [List.getElem?_set_self hl] at hu
    cases hu
    simp
  · rw [List.getElem?_set_ne (fun e => hj e.symm)] at hu
    obtain ⟨h1, h2⟩ := mj_kill_at hu
    refine List.mem_cons_of_mem _ (List.mem_filter.mpr ⟨mj_lv_mem.mpr ⟨j, u, h1, rfl⟩, ?_⟩)
    simp only [mj_tr_cat, Nat.zero_add]
    have : (j == n) = false := by simpa using hj
    rw [this]
    by_cases e : j + 1 = n
    · have : ¬ u.category = 2 := fun e2 => h2 ⟨e, e2⟩
      simp [this]
    · simp [e]
theorem mj_lv_st2 {ad : Nat → Nat} {L' : Array Slot} {nL n : Nat} {ls : mj_L} {v : Value} (h : lv_has L' nL ((n, mj_tr ad v) :: (mj_lv ad 0 ls).filter (fun q => !(q.1 == n) && (!(q.1 == n + 1) && !(q.1 + 1 == n && q.2.category == 2))))) : lv_has L' nL (mj_lv ad 0 (mj_st2 ls n v)) := by
  refine ⟨h.1, h.2.1, fun q hq => h.2.2 q ?_⟩
  obtain ⟨j, u, hu, rfl⟩ := mj_lv_mem.mp hq
  unfold mj_st2 at hu
  rw [mj_stn_set, mj_stn_set] at hu
  by_cases hj1 : j = n + 1
  · subst hj1
    have hl := (List.getElem?_eq_some_iff.mp hu).1
    rw [List.getElem?_set_self (by simpa using hl)] at hu
    cases hu
  rw [List.getElem?_set_ne (fun e => hj1 e.symm)] at hu
  by_cases hj : j = n
  · subst hj
    have hl : j < (mj_kill ls j).length := by
      have := (List.getElem?_eq_some_iff.mp hu).1
      simpa using this
    rw [List.getElem?_set_self hl] at hu
    cases hu
    simp
  · rw [List.getElem?_set_ne (fun e => hj e.symm)] at hu
    obtain ⟨h1, h2⟩ := mj_kill_at hu
    refine List.mem_cons_of_mem _ (List.mem_filter.mpr ⟨mj_lv_mem.mpr ⟨j, u, h1, rfl⟩, ?_⟩)
    simp only [mj_tr_cat, Nat.zero_add]
    have : (j == n) = false := by simpa using hj
    rw [this]
    have : (j == n + 1) = false := by simpa using hj1
    rw [this]
    by_cases e : j + 1 = n
    · have : ¬ u.category = 2 := fun e2 => h2 ⟨e, e2⟩
      simp [this]
    · simp [e]
theorem mj_lv_stx {ad : Nat → Nat} {L' : Array Slot} {nL n : Nat} {ls : mj_L} {w : Value} (h : lv_has L' nL ((n, w) :: (mj_lv ad 0 ls).filter (fun q => !(q.1 == n) && !(q.1 + 1 == n && q.2.category == 2)))) : lv_has L' nL (mj_lv ad 0 (mj_stn (mj_kill ls n) n none)) := by
  refine ⟨h.1, h.2.1, fun q hq => h.2.2 q ?_⟩
  obtain ⟨j, u, hu, rfl⟩ := mj_lv_mem.mp hq
  rw [mj_stn_set] at hu
  by_cases hj : j = n
  · subst hj
    have hl := (List.getElem?_eq_some_iff.mp hu).1
    rw [List.getElem?_set_self (by simpa using hl)] at hu
    cases hu
  · rw [List.getElem?_set_ne (fun e => hj e.symm)] at hu
    obtain ⟨h1, h2⟩ := mj_kill_at hu
    refine List.mem_cons_of_mem _ (List.mem_filter.mpr ⟨mj_lv_mem.mpr ⟨j, u, h1, rfl⟩, ?_⟩)
    simp only [mj_tr_cat, Nat.zero_add]
    have : (j == n) = false := by simpa using hj
    rw [this]
    by_cases e : j + 1 = n
    · have : ¬ u.category = 2 := fun e2 => h2 ⟨e, e2⟩
      simp [this]
    · simp [e]
theorem mj_lv_rep (ad : Nat → Nat) (i n : Nat) : mj_lv ad i (List.replicate n none) = [] := by
  induction n generalizing i with
  | zero => rfl
  | succ n ih => simpa [List.replicate_succ, mj_lv] using ih (i + 1)
theorem mj_lv_lay (ad : Nat → Nat) (as : List Value) (i n : Nat) : mj_lv ad i (mj_lay as n) = lv_args i (as.map (mj_tr ad)) := by
  induction as generalizing i n with
  | nil => simpa [mj_lay, lv_args] using mj_lv_rep ad i n
  | cons v r ih =>
    cases v <;> first
      | (simp [mj_lay, mj_lv, lv_args, mj_tr, Value.category, ih]; done)
      | (by_cases hz : ad 1999 = 0 <;> simp [mj_lay, mj_lv, lv_args, mj_tr, Value.category, ih, hz])
theorem mj_pop_eq {n : Nat} {st acc as r : List Value} (h : mj_pop n st acc = some (as, r)) : ∃ f : List Value, st = f ++ r ∧ as = f.reverse ++ acc ∧ f.length = n := by
  induction n generalizing st acc with
  | zero => simp only [mj_pop, Option.some.injEq, Prod.mk.injEq] at h; exact ⟨[], by simp [h.2], by simp [h.1], rfl⟩
  | succ n ih =>
    cases st with
    | nil => simp [mj_pop] at h
    | cons v st =>
      obtain ⟨f, h1, h2, h3⟩ := ih (show mj_pop n st (v :: acc) = some (as, r) from h)
      exact ⟨v :: f, by rw [h1]; rfl, by rw [h2]; simp, by simp [h3]⟩
end
section
def mj_A (z : Nat → Prop) : Nat → Prop := z
abbrev mj_B : Type := (Nat → Nat) × (Nat → Nat) × (Nat → Nat → Int32) × (Nat → Int32)
def mj_tc (tys : List (ClassId × FieldType)) (t : Nat) : ClassId := ((tys[t]?).map (·.1)).getD 0
def mj_en (tys : List (ClassId × FieldType)) (ad : Nat → Nat) (bi : Nat) (b : mj_B) (i : Nat) : mj_O → Nat × va_E
  | .inl (t, a) => (ad i, .inl (mj_tc tys t, a))
  | .inr (.inl (ci, fs)) => (ad i, .inr (ci, fs.map (mj_tr ad)))
  | .inr (.inr (.inl (n, _))) => (ad i, .inr (bi, [.ref (b.1 i), .int 0, .int (b.2.2.2 i), .int (nI n)]))
  | .inr (.inr (.inr _)) => (b.1 (i - 1), .inl (mj_tc tys 4, b.2.1 (i - 1), .inl (b.2.2.1 (i - 1))))
def mj_ws (tys : List (ClassId × FieldType)) (ad : Nat → Nat) (bi : Nat) (b : mj_B) : Nat → List mj_O → va_W
  | _, [] => []
  | i, o :: r => mj_en tys ad bi b i o :: mj_ws tys ad bi b (i + 1) r
theorem mj_ws_at {tys : List (ClassId × FieldType)} {ad : Nat → Nat} {bi : Nat} {b : mj_B} {k i : Nat} {os : List mj_O} {o : mj_O} (h : mj_nth os i = some o) : (mj_ws tys ad bi b k os)[i]? = some (mj_en tys ad bi b (k + i) o) := by
  induction os generalizing k i with
  | nil => simp [mj_nth] at h
  | cons a r ih =>
    cases i with
    | zero => simp only [mj_nth, Option.some.injEq] at h; subst h; simp [mj_ws]
    | succ j =>
      have h1 : mj_nth r j = some o := h
      simp only [mj_ws, List.getElem?_cons_succ]
      rw [ih (k := k + 1) h1, show k + 1 + j = k + (j + 1) by omega]
theorem mj_ws_len {tys : List (ClassId × FieldType)} {ad : Nat → Nat} {bi : Nat} {b : mj_B} {k : Nat} {os : List mj_O} : (mj_ws tys ad bi b k os).length = os.length := by
  induction os generalizing k with
  | nil => rfl
  | cons a r ih => simp [mj_ws, ih]
theorem mj_ws_set {tys : List (ClassId × FieldType)} {ad : Nat → Nat} {bi : Nat} {b : mj_B} {k i : Nat} {os : List mj_O} {o : mj_O} : (mj_ws tys ad bi b k os).set i (mj_en tys ad bi b (k + i) o) = mj_ws tys ad bi b k (mj_stn os i o) := by
  induction os generalizing k i with
  | nil => cases i <;> rfl
  | cons a r ih =>
    cases i with
    | zero => simp [mj_ws, mj_stn]
    | succ j =>
      simp only [mj_ws, mj_stn, List.set_cons_succ]
      rw [← ih (k := k + 1), show k + 1 + j = k + (j + 1) by omega]
theorem mj_ws_app {tys : List (ClassId × FieldType)} {ad : Nat → Nat} {bi : Nat} {b : mj_B} {k : Nat} {os : List mj_O} {o : mj_O} : mj_ws tys ad bi b k (os ++ [o]) = mj_ws tys ad bi b k os ++ [mj_en tys ad bi b (k + os.length) o] := by
  induction os generalizing k with
  | nil => simp [mj_ws]
  | cons a r ih =>
    simp only [List.cons_append, mj_ws, ih, List.length_cons]
    rw [show k + 1 + r.length = k + (r.length + 1) by omega]
def mj_bd (b : mj_B) (os : List mj_O) : Prop := ∀ (i n : Nat) (f : Nat → Nat), mj_nth os i = some (.inr (.inr (.inl (n, f)))) →
  mj_nth os (i + 1) = some (.inr (.inr (.inr ()))) ∧ n ≤ b.2.1 i ∧ b.2.1 i ≤ 65536 ∧ sb_Lat f n (b.2.2.1 i) ∧ sb_Fit (b.2.2.1 i)
def mj_nu (ad : Nat → Nat) (k : Nat) (H : Heap) : Prop := H.size = ad k ∧ ∀ i, k ≤ i → i < 999 → ad (i + 1) = ad i + 1
def mj_rep (D : va_G) (cl : List vw_C) (tys : List (ClassId × FieldType)) (ad : Nat → Nat) (bi : Nat) (z : Nat → Prop) (h : mj_H) (H : Heap) : Prop :=
  (∃ b : mj_B, va_P D cl (mj_ws tys ad bi b 0 h.1) H ∧ va_D (mj_A z) (mj_ws tys ad bi b 0 h.1) ∧ mj_bd b h.1) ∧ (h.2.2.2 = true → mj_nu ad h.1.length H) ∧ (∀ (q : Nat) (cell : Cell), z q → H[q]? = some cell → cell.vm.isStatics = false) ∧ ∀ q : Nat, H.size ≤ q → z q
theorem mj_at_vm {D : va_G} {cl : List vw_C} {q : Nat × va_E} {H : Heap} {cell : Cell} (h : va_at D cl q H) (hc : H[q.1]? = some cell) : cell.vm.isStatics = false := by
  obtain ⟨a, e⟩ := q
  rcases e with ⟨cA, n, x⟩ | ⟨ci, fs⟩
  · have h1 : H[a]? = some (vp_cell cA (n, x)) := h
    have h2 : cell = vp_cell cA (n, x) := Option.some.inj (hc.symm.trans h1)
    subst h2
    rcases x with x | x | x | x | x <;> rfl
  · obtain ⟨r, -, cell', q1, q2, q3, -⟩ := h
    have h2 : cell = cell' := Option.some.inj (hc.symm.trans q1)
    subst h2
    rw [q3]
    rfl
end
section
section MJR
variable {p : Program} {l : Launch} {e : Env} {R : Room} {s : State} {m : MethodId} {args : Array Value} {below : List Frame} {meth : Method} {c : Code} {H : Heap} {locs : List Loc} {cells slots : Nat}
def mj_Z (below : List Frame) (s : State) (Qo : Outcome → State → Prop) : State → Prop := fun t => ∃ o, t.status = .running ∧ Ended t below o ∧ Qo o t
def mj_fe (s : State) (t : State) (L : List Loc) (k n : Nat) : Prop := s.WarmedH t.vm ∧ s.sameButNew ({ t with vm := s.vm } : State) L k n
theorem mj_iret {cc : ByteArray} {Qo : Outcome → State → Prop} {v : Int32} {ty : FieldType} (hexec : p.tables.exec = Jvm.exec) (hb : c.code = cc) (hr : meth.sig.returnType = some ty) (hn : narrow ty (.int v) = .int v) (hlocks : meth.locks = false)
    (hq : ∀ t : State, t.heap = H → mj_fe s t locs cells slots → Qo (.returned (some (.int v))) t)
    {pc : Nat} {ls : Array Slot} (hdg : decode cc pc = .ok (.ireturn, 1)) : W p l e R s m args below meth c H locs cells slots (mj_Z below s Qo) (F0 m pc ls [.int v]) := by
  intro T hT X
  obtain ⟨fs, hret, hrun, hended, hW, hframe⟩ := X.leave (v := some (.int v)) (hlocks := hlocks) (fun h => by rw [hr] at h; cases h)
  have hmeth' : T.vm.method? m = some meth := X.method'
  refine ⟨T.setFrames fs, ?_, .returned (some (.int v)), hrun, hended, hq _ hT ⟨hW, hframe⟩⟩
  jvm_step X.here [X.here.top, hexec, hb, hdg, hmeth', hr, hn]
  (try refine ⟨rfl, ?_⟩); (try refine ⟨rfl, ?_⟩)
  first | (intro acts; rw [hret _ acts rfl rfl rfl]) | rw [hret _ _ rfl rfl rfl]
  exact Steps.refl _
theorem mj_vret {cc : ByteArray} {Qo : Outcome → State → Prop} (hexec : p.tables.exec = Jvm.exec) (hb : c.code = cc) (hr : meth.sig.returnType = none) (hlocks : meth.locks = false)
    (hq : ∀ t : State, t.heap = H → mj_fe s t locs cells slots → Qo (.returned none) t)
    {pc : Nat} {ls : Array Slot} (hdg : decode cc pc = .ok (.return_, 1)) : W p l e R s m args below meth c H locs cells slots (mj_Z below s Qo) (F0 m pc ls []) := by
  intro T hT X
  obtain ⟨fs, hret, hrun, hended, hW, hframe⟩ := X.leave (v := none) (hlocks := hlocks) (fun _ => rfl)
  have hmeth' : T.vm.method? m = some meth := X.method'
  refine ⟨T.setFrames fs, ?_, .returned none, hrun, hended, hq _ hT ⟨hW, hframe⟩⟩
  jvm_step X.here [X.here.top, hexec, hb, hdg, hmeth', hr]
  (try refine ⟨rfl, ?_⟩); (try refine ⟨rfl, ?_⟩)
  first | (intro acts; rw [hret _ acts rfl rfl rfl]) | rw [hret _ _ rfl rfl rfl]
  exact Steps.refl _
theorem mj_lret {cc : ByteArray} {Qo : Outcome → State → Prop} {v : Int64} (hexec : p.tables.exec = Jvm.exec) (hb : c.code = cc) (hr : meth.sig.returnType = some .long) (hlocks : meth.locks = false)
    (hq : ∀ t : State, t.heap = H → mj_fe s t locs cells slots → Qo (.returned (some (.long v))) t)
    {pc : Nat} {ls : Array Slot} (hdg : decode cc pc = .ok (.lreturn, 1)) : W p l e R s m args below meth c H locs cells slots (mj_Z below s Qo) (F0 m pc ls [.long v]) := by
  intro T hT X
  obtain ⟨fs, hret, hrun, hended, hW, hframe⟩ := X.leave (v := some (.long v)) (hlocks := hlocks) (fun h => by rw [hr] at h; cases h)
  have hmeth' : T.vm.method? m = some meth := X.method'
  refine ⟨T.setFrames fs, ?_, .returned (some (.long v)), hrun, hended, hq _ hT ⟨hW, hframe⟩⟩
  jvm_step X.here [X.here.top, hexec, hb, hdg, hmeth', hr, narrow]
  (try refine ⟨rfl, ?_⟩); (try refine ⟨rfl, ?_⟩)
  first | (intro acts; rw [hret _ acts rfl rfl rfl]) | rw [hret _ _ rfl rfl rfl]
  exact Steps.refl _
theorem mj_aret {cc : ByteArray} {Qo : Outcome → State → Prop} {v : Nat} {ty : FieldType} (hexec : p.tables.exec = Jvm.exec) (hb : c.code = cc) (hr : meth.sig.returnType = some ty) (hn : ty.isReference = true) (hlocks : meth.locks = false)
    (hq : ∀ t : State, t.heap = H → mj_fe s t locs cells slots → Qo (.returned (some (.ref v))) t)
    {pc : Nat} {ls : Array Slot} (hdg : decode cc pc = .ok (.areturn, 1)) : W p l e R s m args below meth c H locs cells slots (mj_Z below s Qo) (F0 m pc ls [.ref v]) := by
  intro T hT X
  obtain ⟨fs, hret, hrun, hended, hW, hframe⟩ := X.leave (v := some (.ref v)) (hlocks := hlocks) (fun h => by rw [hr] at h; cases h)
  have hmeth' : T.vm.method? m = some meth := X.method'
  refine ⟨T.setFrames fs, ?_, .returned (some (.ref v)), hrun, hended, hq _ hT ⟨hW, hframe⟩⟩
  jvm_step X.here [X.here.top, hexec, hb, hdg, hmeth', hr]
  refine ⟨rfl, hn, ?_⟩
  (try refine ⟨rfl, ?_⟩); (try refine ⟨rfl, ?_⟩)
  first | (intro acts; rw [hret _ acts rfl rfl rfl]) | rw [hret _ _ rfl rfl rfl]
  exact Steps.refl _
theorem mj_back {y : MethodName} {ws : List Cond} {rm : Room} {P : Array Value → State → Prop} {Qy : Array Value → State → Outcome → State → Prop} {bytes : ByteArray} {maxL Wt len : Nat} {ret : Option FieldType} {hh : List (Nat × Nat × Nat × Nat)} {ig : Instr} {U : State}
    (hM : MetFree l y (headSpec ws rm) P (fun _ _ _ _ _ => True) Qy)
    (hframes : rm.frames + 1 ≤ R.frames) (hlocals : Wt + (maxL + 11) + rm.locals ≤ R.locals)
    (X : Stand p l e R s m args below meth c U locs cells slots) {g : JFrame} (hg : g.method = m) (hsize : g.locals.size = c.maxLocals) (hdg : decode c.code g.pc = .ok (ig, len)) (hW : 2 * g.monitorRoom + (g.stack.map fun v => v.category).sum ≤ Wt)
    {mk : MethodId} {a : Array Value} (hn : U.methodNamed? y = some mk)
    (hpre : ∀ w ∈ ws, w.before a U = true) (hcode : (Cond.code y bytes maxL ret).before a U = true ∨ (Cond.codeWith y bytes maxL ret hh).before a U = true) (hinit : (Cond.initialized y.cls).before a U = true)
    (hcells : cells + rm.cells ≤ R.cells) (hslots : slots + rm.slots ≤ R.slots) (hP : P a (U.calling g mk a))
    (hQ : ∀ o t, Qy a (U.calling g mk a) o t → ∃ L k n, mj_fe (U.calling g mk a) t L k n) :
    ∃ (o : Outcome) (t : State), Qy a (U.calling g mk a) o t ∧ ∀ (L : List Loc) (k n : Nat), mj_fe (U.calling g mk a) t L k n → ∃ U' : State, U'.heap = t.heap ∧ U'.vm = t.vm ∧ Stand p l e R s m args below meth c U' (locs ++ L) (cells + k) (slots + n) ∧
      (∀ v, o = .returned v → ∀ target, Steps p.tables e below (U'.setTop { g with pc := g.pc + len, stack := v.toList ++ g.stack }) target → Steps p.tables e below (doInvoke e (U.setTop g) [] mk a).1 target) ∧
      (∀ x, o = .threw x → ∀ target, Steps p.tables e below ((U'.setTop g).pushFrame (.throwing x)) target → Steps p.tables e below (doInvoke e (U.setTop g) [] mk a).1 target) := by
  obtain ⟨methY, cY, hmY, hcY, hlY⟩ : ∃ methY cY, U.vm.method? mk = some methY ∧ methY.code = some cY ∧ cY.maxLocals = maxL := by
    rcases hcode with hcode | hcode
    · obtain ⟨methY, cY, hmY, hcY, -, hlY, -⟩ := Cond.code_spec hn hcode
      exact ⟨methY, cY, hmY, hcY, hlY⟩
    · obtain ⟨m9, methY, cY, hn9, hmY, hcY, -, hlY, -⟩ := Cond.codeWith_spec hcode
      cases hn.symm.trans hn9
      exact ⟨methY, cY, hmY, hcY, hlY⟩
  obtain ⟨kY, hkY, -⟩ := className_of_methodNamed hn
  have hinitY : kY.init = .initialized := Cond.initialized_spec (findClass_of_methodNamed hn) hkY hinit
  have h : At U g.method c below := by rw [hg]; exact X.here
  have happ : (headSpec ws rm).appliesLoose y e.platform (U.calling g mk a) = true :=
    Spec.appliesLoose_calling (g := g) h hdg hn hkY hinitY
      (X.room_calling (g := g) (R' := (headSpec ws rm).room) hsize hmY hcY hframes (by rw [hlY]; show _ + rm.locals ≤ _; omega) hcells hslots) (atoms_intro hpre)
  obtain ⟨mid, hmid⟩ := h.above
  have hfr : (U.setTop g).frames = (.java g :: mid) ++ below := by rw [State.frames_setTop' g h.top, hmid]; rfl
  obtain ⟨o, s₂, hsteps, -, hend, hq⟩ := Steps.callFree hM p X.admits X.cas X.clock (acts := []) hfr happ hP trivial
  have hq' : Qy a (U.calling g mk a) o s₂ := hq
  rw [State.frames_setTop' g h.top] at hend
  refine ⟨o, s₂, hq', fun L k n hfe => ?_⟩
  cases o with
  | returned v =>
    obtain ⟨hW₂, e2, q2, q3, q4, q5, q6⟩ := id hfe
    have e3 : s₂ = ({ (U.calling g mk a).setFrames s₂.frames with heap := s₂.heap, slotsUsed := s₂.slotsUsed } : State).setVm s₂.vm := by
      have : s₂ = ({ s₂ with vm := (U.calling g mk a).vm } : State).setVm s₂.vm := rfl
      rw [e2] at this
      exact this
    obtain ⟨c₂, i₂, len₂, hc₂, hd₂, hf₂⟩ := hend
    have hW' : U.WarmedH s₂.vm := hW₂
    have hcc : c₂ = c := by
      have h1 : s₂.code? g.method = U.code? g.method := by
        rw [State.code?_eq, State.code?_eq, hW'.alike.method?]
      exact Option.some.inj (hc₂.symm.trans (h1.trans h.code))
    subst hcc
    have hlen : len₂ = len := by rw [hdg] at hd₂; cases hd₂; rfl
    subst hlen
    obtain ⟨g₀, hg0⟩ := Option.isSome_iff_exists.mp h.top
    obtain ⟨r, hr⟩ := State.topJava?_eq_some.mp hg0
    have hs₂ : s₂ = (({ U with heap := s₂.heap, slotsUsed := s₂.slotsUsed } : State).setVm s₂.vm).setTop { g with pc := g.pc + len₂, stack := v.toList ++ g.stack } := by
      have hr' : (({ U with heap := s₂.heap, slotsUsed := s₂.slotsUsed } : State).setVm s₂.vm).frames = .java g₀ :: r := hr
      refine e3.trans ?_
      rw [hf₂, State.calling_eq h.top, State.setFrames_setFrames, State.setTop_of_frames _ hr', hr]
      rfl
    have hsame : U.sameButNew ({ U with heap := s₂.heap, slotsUsed := s₂.slotsUsed } : State) L k n := by
      refine ⟨?_, q2, q3, q4, q5, q6⟩
      obtain ⟨t, ht, -⟩ := State.frames_cons hr
      show ({ U with heap := s₂.heap, slotsUsed := s₂.slotsUsed } : State) = { U.setFrames U.frames with heap := s₂.heap, slotsUsed := s₂.slotsUsed }
      rw [State.setFrames_self ht]
    subst hg
    refine ⟨(({ U with heap := s₂.heap, slotsUsed := s₂.slotsUsed } : State).setVm s₂.vm), rfl, rfl,
      ⟨X.admits, X.cas, X.clock, X.frames, X.room, X.hears, X.method, X.code, (X.here.setHeapUsed s₂.heap s₂.slotsUsed).setVm hW'.alike, X.tail, State.WarmedH.trans X.warmed hW', X.limits, X.bytes, X.same.trans (hsame.setVm s.vm)⟩, fun w hw target ht => ?_, fun x hx => by cases hx⟩
    cases hw
    rw [hs₂] at hsteps
    exact hsteps.trans ht
  | threw x =>
    obtain ⟨hW₂, hsame⟩ := hfe
    have hend' : Ended s₂ (.java g :: below) (.threw x) := by
      have e0 : U.frames.tail = below := X.tail
      rw [e0] at hend
      exact hend
    obtain ⟨T', X', hw', hs', ht'⟩ := X.outOfThrown hg hend' hW₂ hsame
    refine ⟨T', ?_, ?_, X', fun v hv => (by cases hv), fun z hz target ht => ?_⟩
    · rw [ht', Stand.throwing_heap]
    · rw [ht', Stand.throwing_vm]
    · cases hz
      rw [ht'] at hsteps
      exact hsteps.trans ht
end MJR
end
section
def mj_ok (TS : List Cond) (own : String) (cc : ByteArray) (nL : Nat) (off : Nat → Nat) (rt : Option FieldType) (pc : Nat) (i : Instr) : Prop := match i with
  | .iconst v => (decode cc (off pc) = .ok (.iconst v, 1) ∧ off (pc + 1) = off pc + 1) ∨ (decode cc (off pc) = .ok (.bipush v, 2) ∧ off (pc + 1) = off pc + 2 ∧ (Int8.ofInt v).toInt32 = Int32.ofInt v) ∨ (decode cc (off pc) = .ok (.sipush v, 3) ∧ off (pc + 1) = off pc + 3 ∧ (Int16.ofInt v).toInt32 = Int32.ofInt v) ∨ (∃ j, decode cc (off pc) = .ok (.ldc j, 2) ∧ off (pc + 1) = off pc + 2 ∧ Jvm.Cond.constant own j (Int32.ofInt v) ∈ TS)
  | .ldc2_w n => (∃ f : Fin 2, (f : Nat) = n ∧ decode cc (off pc) = .ok (.lconst f, 1) ∧ off (pc + 1) = off pc + 1) ∨ (∃ j, decode cc (off pc) = .ok (.ldc2_w j, 3) ∧ off (pc + 1) = off pc + 3 ∧ Jvm.Cond.constantLong own j (Int64.ofNat n) ∈ TS)
  | .iload n => (∃ f : Fin 4, (f : Nat) = n ∧ decode cc (off pc) = .ok (.iload_n f, 1) ∧ off (pc + 1) = off pc + 1) ∨ (decode cc (off pc) = .ok (.iload n, 2) ∧ off (pc + 1) = off pc + 2)
  | .lload n => (∃ f : Fin 4, (f : Nat) = n ∧ decode cc (off pc) = .ok (.lload_n f, 1) ∧ off (pc + 1) = off pc + 1) ∨ (decode cc (off pc) = .ok (.lload n, 2) ∧ off (pc + 1) = off pc + 2)
  | .aload n => (∃ f : Fin 4, (f : Nat) = n ∧ decode cc (off pc) = .ok (.aload_n f, 1) ∧ off (pc + 1) = off pc + 1) ∨ (decode cc (off pc) = .ok (.aload n, 2) ∧ off (pc + 1) = off pc + 2)
  | .istore n => n < nL ∧ ((∃ f : Fin 4, (f : Nat) = n ∧ decode cc (off pc) = .ok (.istore_n f, 1) ∧ off (pc + 1) = off pc + 1) ∨ (decode cc (off pc) = .ok (.istore n, 2) ∧ off (pc + 1) = off pc + 2))
  | .lstore n => n + 1 < nL ∧ ((∃ f : Fin 4, (f : Nat) = n ∧ decode cc (off pc) = .ok (.lstore_n f, 1) ∧ off (pc + 1) = off pc + 1) ∨ (decode cc (off pc) = .ok (.lstore n, 2) ∧ off (pc + 1) = off pc + 2))
  | .astore n => n < nL ∧ ((∃ f : Fin 4, (f : Nat) = n ∧ decode cc (off pc) = .ok (.astore_n f, 1) ∧ off (pc + 1) = off pc + 1) ∨ (decode cc (off pc) = .ok (.astore n, 2) ∧ off (pc + 1) = off pc + 2))
  | .iinc n v => n < nL ∧ decode cc (off pc) = .ok (.iinc n v, 3) ∧ off (pc + 1) = off pc + 3
  | .ifCond q t => ∃ o : Int, decode cc (off pc) = .ok (.ifCond q o, 3) ∧ off (pc + 1) = off pc + 3 ∧ (off pc : Int) + o = (off t.toNat : Int)
  | .if_icmp q t => ∃ o : Int, decode cc (off pc) = .ok (.if_icmp q o, 3) ∧ off (pc + 1) = off pc + 3 ∧ (off pc : Int) + o = (off t.toNat : Int)
  | .goto t => ∃ o : Int, decode cc (off pc) = .ok (.goto o, 3) ∧ (off pc : Int) + o = (off t.toNat : Int)
  | .lookupswitch d ps => (∃ (d' : Int) (ps' : Array (Int × Int)) (len : Nat), decode cc (off pc) = .ok (.lookupswitch d' ps', len) ∧ (ps'.toList.zip (ps'.toList.drop 1)).all (fun (a, b) => a.1 < b.1) = true ∧ (off pc : Int) + d' = (off d.toNat : Int) ∧ ps'.toList.length = ps.toList.length ∧ ∀ x ∈ ps'.toList.zip ps.toList, x.1.1 = x.2.1 ∧ (Int32.ofInt x.1.1).toInt = x.1.1 ∧ (off pc : Int) + x.1.2 = (off x.2.2.toNat : Int)) ∨
      (∃ (d' lo : Int) (os : Array Int) (len : Nat), decode cc (off pc) = .ok (.tableswitch d' lo (lo + os.size - 1) os, len) ∧ (off pc : Int) + d' = (off d.toNat : Int) ∧ os.toList.length = ps.toList.length ∧ ∀ j : Nat, j < os.size → ∃ (o t : Int), os[j]? = some o ∧ ps.toList[j]? = some (lo + j, t) ∧ (Int32.ofInt (lo + j)).toInt = lo + j ∧ (off pc : Int) + o = (off t.toNat : Int))
  | .ireturn => decode cc (off pc) = .ok (.ireturn, 1) ∧ rt = some .int
  | .freturn => decode cc (off pc) = .ok (.ireturn, 1) ∧ rt = some .boolean
  | .dreturn => decode cc (off pc) = .ok (.ireturn, 1) ∧ rt = some .char
  | .lreturn => decode cc (off pc) = .ok (.lreturn, 1) ∧ rt = some .long
  | .return_ => decode cc (off pc) = .ok (.return_, 1) ∧ rt = none
  | i => decode cc (off pc) = .ok (i, 1) ∧ off (pc + 1) = off pc + 1
section MJS
variable {p : Program} {l : Launch} {e : Env} {R : Room} {s : State} {m : MethodId} {args : Array Value} {below : List Frame} {meth : Method} {c : Code}
def mj_J (p : Program) (l : Launch) (e : Env) (R : Room) (s : State) (m : MethodId) (args : Array Value) (below : List Frame) (meth : Method) (c : Code) (D : va_G) (cl : List vw_C) (tys : List (ClassId × FieldType)) (ad : Nat → Nat) (bi : Nat) (z : Nat → Prop) (nL : Nat) (off : Nat → Nat) (QQ : State → Prop) (b0 b1 : Nat) (pc : Nat) (ls : mj_L) (st : List Value) (h : mj_H) : Prop :=
  ∀ (H : Heap) (locs : List Loc) (k n : Nat) (L : Array Slot), lv_has L nL (mj_lv ad 0 ls) → mj_rep D cl tys ad bi z h H → va_S (mj_A z) s.heap H locs → k + h.2.1 ≤ b0 → n + h.2.2.1 ≤ b1 →
    W p l e R s m args below meth c H locs k n QQ (F0 m (off pc) L (st.map (mj_tr ad)))
theorem mj_loc {ad : Nat → Nat} {L : Array Slot} {nL n : Nat} {ls : mj_L} {v : Value} (hl : lv_has L nL (mj_lv ad 0 ls)) (h : mj_nth ls n = some (some v)) : L[n]? = some (.val (mj_tr ad v)) := by
  rw [mj_nth_get] at h
  have := hl.2.2 (0 + n, mj_tr ad v) (mj_lv_mem.mpr ⟨n, v, h, rfl⟩)
  simpa using this
theorem mj_locAt {ad : Nat → Nat} {n : Nat} {ls : mj_L} {v : Value} (h : mj_nth ls n = some (some v)) : ∃ k : Nat, (mj_lv ad 0 ls)[k]? = some (n, mj_tr ad v) := by
  rw [mj_nth_get] at h
  have := mj_lv_mem (ad := ad) (i := 0).mpr ⟨n, v, h, rfl⟩
  rw [Nat.zero_add] at this
  exact List.mem_iff_getElem?.mp this
end MJS
end
section
section MJP
variable {p : Program} {l : Launch} {e : Env} {R : Room} {s : State} {m : MethodId} {args : Array Value} {below : List Frame} {meth : Method} {c : Code}
variable {D : va_G} {cl : List vw_C} {tys : List (ClassId × FieldType)} {ad : Nat → Nat} {bi : Nat} {z : Nat → Prop} {nL : Nat} {off : Nat → Nat} {QQ : State → Prop} {b0 b1 : Nat} {cc : ByteArray} {pc : Nat} {ls : mj_L} {r : List Value} {h : mj_H}
theorem mj_so_iadd (hx : p.tables.exec = Jvm.exec) (hb : c.code = cc) {x y : Int32} (hd : decode cc (off pc) = .ok (.iadd, 1)) (ho : off (pc + 1) = off pc + 1) (kk : mj_J p l e R s m args below meth c D cl tys ad bi z nL off QQ b0 b1 (pc + 1) ls (.int (x + y) :: r) h) : mj_J p l e R s m args below meth c D cl tys ad bi z nL off QQ b0 b1 pc ls (.int y :: .int x :: r) h := by
  intro H locs k n L hl hr hS h1 h2
  have K := kk H locs k n L hl hr hS h1 h2
  rw [ho] at K
  exact lv_iadd hx hb hd K
theorem mj_so_isub (hx : p.tables.exec = Jvm.exec) (hb : c.code = cc) {x y : Int32} (hd : decode cc (off pc) = .ok (.isub, 1)) (ho : off (pc + 1) = off pc + 1) (kk : mj_J p l e R s m args below meth c D cl tys ad bi z nL off QQ b0 b1 (pc + 1) ls (.int (x - y) :: r) h) : mj_J p l e R s m args below meth c D cl tys ad bi z nL off QQ b0 b1 pc ls (.int y :: .int x :: r) h := by
  intro H locs k n L hl hr hS h1 h2
  have K := kk H locs k n L hl hr hS h1 h2
  rw [ho] at K
  exact lv_isub hx hb hd K
theorem mj_so_imul (hx : p.tables.exec = Jvm.exec) (hb : c.code = cc) {x y : Int32} (hd : decode cc (off pc) = .ok (.imul, 1)) (ho : off (pc + 1) = off pc + 1) (kk : mj_J p l e R s m args below meth c D cl tys ad bi z nL off QQ b0 b1 (pc + 1) ls (.int (x * y) :: r) h) : mj_J p l e R s m args below meth c D cl tys ad bi z nL off QQ b0 b1 pc ls (.int y :: .int x :: r) h := by
  intro H locs k n L hl hr hS h1 h2
  have K := kk H locs k n L hl hr hS h1 h2
  rw [ho] at K
  exact lv_imul hx hb hd K
theorem mj_so_iand (hx : p.tables.exec = Jvm.exec) (hb : c.code = cc) {x y : Int32} (hd : decode cc (off pc) = .ok (.iand, 1)) (ho : off (pc + 1) = off pc + 1) (kk : mj_J p l e R s m args below meth c D cl tys ad bi z nL off QQ b0 b1 (pc + 1) ls (.int (x &&& y) :: r) h) : mj_J p l e R s m args below meth c D cl tys ad bi z nL off QQ b0 b1 pc ls (.int y :: .int x :: r) h := by
  intro H locs k n L hl hr hS h1 h2
  have K := kk H locs k n L hl hr hS h1 h2
  rw [ho] at K
  exact lv_iand hx hb hd K
theorem mj_so_ior (hx : p.tables.exec = Jvm.exec) (hb : c.code = cc) {x y : Int32} (hd : decode cc (off pc) = .ok (.ior, 1)) (ho : off (pc + 1) = off pc + 1) (kk : mj_J p l e R s m args below meth c D cl tys ad bi z nL off QQ b0 b1 (pc + 1) ls (.int (x ||| y) :: r) h) : mj_J p l e R s m args below meth c D cl tys ad bi z nL off QQ b0 b1 pc ls (.int y :: .int x :: r) h := by
  intro H locs k n L hl hr hS h1 h2
  have K := kk H locs k n L hl hr hS h1 h2
  rw [ho] at K
  exact lv_ior hx hb hd K
theorem mj_so_ixor (hx : p.tables.exec = Jvm.exec) (hb : c.code = cc) {x y : Int32} (hd : decode cc (off pc) = .ok (.ixor, 1)) (ho : off (pc + 1) = off pc + 1) (kk : mj_J p l e R s m args below meth c D cl tys ad bi z nL off QQ b0 b1 (pc + 1) ls (.int (x ^^^ y) :: r) h) : mj_J p l e R s m args below meth c D cl tys ad bi z nL off QQ b0 b1 pc ls (.int y :: .int x :: r) h := by
  intro H locs k n L hl hr hS h1 h2
  have K := kk H locs k n L hl hr hS h1 h2
  rw [ho] at K
  exact lv_ixor hx hb hd K
theorem mj_so_ishl (hx : p.tables.exec = Jvm.exec) (hb : c.code = cc) {x y : Int32} (hd : decode cc (off pc) = .ok (.ishl, 1)) (ho : off (pc + 1) = off pc + 1) (kk : mj_J p l e R s m args below meth c D cl tys ad bi z nL off QQ b0 b1 (pc + 1) ls (.int (x <<< (y &&& 31)) :: r) h) : mj_J p l e R s m args below meth c D cl tys ad bi z nL off QQ b0 b1 pc ls (.int y :: .int x :: r) h := by
  intro H locs k n L hl hr hS h1 h2
  have K := kk H locs k n L hl hr hS h1 h2
  rw [ho] at K
  exact lv_ishl hx hb hd K
theorem mj_so_ishr (hx : p.tables.exec = Jvm.exec) (hb : c.code = cc) {x y : Int32} (hd : decode cc (off pc) = .ok (.ishr, 1)) (ho : off (pc + 1) = off pc + 1) (kk : mj_J p l e R s m args below meth c D cl tys ad bi z nL off QQ b0 b1 (pc + 1) ls (.int (x >>> (y &&& 31)) :: r) h) : mj_J p l e R s m args below meth c D cl tys ad bi z nL off QQ b0 b1 pc ls (.int y :: .int x :: r) h := by
  intro H locs k n L hl hr hS h1 h2
  have K := kk H locs k n L hl hr hS h1 h2
  rw [ho] at K
  exact lv_ishr hx hb hd K
theorem mj_so_iushr (hx : p.tables.exec = Jvm.exec) (hb : c.code = cc) {x y : Int32} (hd : decode cc (off pc) = .ok (.iushr, 1)) (ho : off (pc + 1) = off pc + 1) (kk : mj_J p l e R s m args below meth c D cl tys ad bi z nL off QQ b0 b1 (pc + 1) ls (.int (x.toUInt32 >>> (y.toUInt32 &&& Int32.toUInt32 31)).toInt32 :: r) h) : mj_J p l e R s m args below meth c D cl tys ad bi z nL off QQ b0 b1 pc ls (.int y :: .int x :: r) h := by
  intro H locs k n L hl hr hS h1 h2
  have K := kk H locs k n L hl hr hS h1 h2
  rw [ho] at K
  exact lv_iushr hx hb hd rfl K
theorem mj_so_idiv (hx : p.tables.exec = Jvm.exec) (hb : c.code = cc) {x y : Int32} (hd : decode cc (off pc) = .ok (.idiv, 1)) (ho : off (pc + 1) = off pc + 1) (hne : ¬ y = 0) (kk : mj_J p l e R s m args below meth c D cl tys ad bi z nL off QQ b0 b1 (pc + 1) ls (.int (x / y) :: r) h) : mj_J p l e R s m args below meth c D cl tys ad bi z nL off QQ b0 b1 pc ls (.int y :: .int x :: r) h := by
  intro H locs k n L hl hr hS h1 h2
  have K := kk H locs k n L hl hr hS h1 h2
  rw [ho] at K
  exact lv_idiv hx hb hd hne K
theorem mj_so_irem (hx : p.tables.exec = Jvm.exec) (hb : c.code = cc) {x y : Int32} (hd : decode cc (off pc) = .ok (.irem, 1)) (ho : off (pc + 1) = off pc + 1) (hne : ¬ y = 0) (kk : mj_J p l e R s m args below meth c D cl tys ad bi z nL off QQ b0 b1 (pc + 1) ls (.int (x - x / y * y) :: r) h) : mj_J p l e R s m args below meth c D cl tys ad bi z nL off QQ b0 b1 pc ls (.int y :: .int x :: r) h := by
  intro H locs k n L hl hr hS h1 h2
  have K := kk H locs k n L hl hr hS h1 h2
  rw [ho] at K
  exact lv_irem hx hb hd hne K
theorem mj_so_ineg (hx : p.tables.exec = Jvm.exec) (hb : c.code = cc) {x : Int32} (hd : decode cc (off pc) = .ok (.ineg, 1)) (ho : off (pc + 1) = off pc + 1) (kk : mj_J p l e R s m args below meth c D cl tys ad bi z nL off QQ b0 b1 (pc + 1) ls (.int (-x) :: r) h) : mj_J p l e R s m args below meth c D cl tys ad bi z nL off QQ b0 b1 pc ls (.int x :: r) h := by
  intro H locs k n L hl hr hS h1 h2
  have K := kk H locs k n L hl hr hS h1 h2
  rw [ho] at K
  exact lv_ineg hx hb hd K
theorem mj_so_ladd (hx : p.tables.exec = Jvm.exec) (hb : c.code = cc) {x y : Int64} (hd : decode cc (off pc) = .ok (.ladd, 1)) (ho : off (pc + 1) = off pc + 1) (kk : mj_J p l e R s m args below meth c D cl tys ad bi z nL off QQ b0 b1 (pc + 1) ls (.long (x + y) :: r) h) : mj_J p l e R s m args below meth c D cl tys ad bi z nL off QQ b0 b1 pc ls (.long y :: .long x :: r) h := by
  intro H locs k n L hl hr hS h1 h2
  have K := kk H locs k n L hl hr hS h1 h2
  rw [ho] at K
  exact lv_ladd hx hb hd K
theorem mj_so_lsub (hx : p.tables.exec = Jvm.exec) (hb : c.code = cc) {x y : Int64} (hd : decode cc (off pc) = .ok (.lsub, 1)) (ho : off (pc + 1) = off pc + 1) (kk : mj_J p l e R s m args below meth c D cl tys ad bi z nL off QQ b0 b1 (pc + 1) ls (.long (x - y) :: r) h) : mj_J p l e R s m args below meth c D cl tys ad bi z nL off QQ b0 b1 pc ls (.long y :: .long x :: r) h := by
  intro H locs k n L hl hr hS h1 h2
  have K := kk H locs k n L hl hr hS h1 h2
  rw [ho] at K
  exact lv_lsub hx hb hd K
theorem mj_so_land (hx : p.tables.exec = Jvm.exec) (hb : c.code = cc) {x y : Int64} (hd : decode cc (off pc) = .ok (.land, 1)) (ho : off (pc + 1) = off pc + 1) (kk : mj_J p l e R s m args below meth c D cl tys ad bi z nL off QQ b0 b1 (pc + 1) ls (.long (x &&& y) :: r) h) : mj_J p l e R s m args below meth c D cl tys ad bi z nL off QQ b0 b1 pc ls (.long y :: .long x :: r) h := by
  intro H locs k n L hl hr hS h1 h2
  have K := kk H locs k n L hl hr hS h1 h2
  rw [ho] at K
  exact lv_land hx hb hd K
theorem mj_so_lor (hx : p.tables.exec = Jvm.exec) (hb : c.code = cc) {x y : Int64} (hd : decode cc (off pc) = .ok (.lor, 1)) (ho : off (pc + 1) = off pc + 1) (kk : mj_J p l e R s m args below meth c D cl tys ad bi z nL off QQ b0 b1 (pc + 1) ls (.long (x ||| y) :: r) h) : mj_J p l e R s m args below meth c D cl tys ad bi z nL off QQ b0 b1 pc ls (.long y :: .long x :: r) h := by
  intro H locs k n L hl hr hS h1 h2
  have K := kk H locs k n L hl hr hS h1 h2
  rw [ho] at K
  exact lv_lor hx hb hd K
theorem mj_so_lmul (hx : p.tables.exec = Jvm.exec) (hb : c.code = cc) {x y : Int64} (hd : decode cc (off pc) = .ok (.lmul, 1)) (ho : off (pc + 1) = off pc + 1) (kk : mj_J p l e R s m args below meth c D cl tys ad bi z nL off QQ b0 b1 (pc + 1) ls (.long (x * y) :: r) h) : mj_J p l e R s m args below meth c D cl tys ad bi z nL off QQ b0 b1 pc ls (.long y :: .long x :: r) h := by
  intro H locs k n L hl hr hS h1 h2
  have K := kk H locs k n L hl hr hS h1 h2
  rw [ho] at K
  exact lv_lmul hx hb hd K
theorem mj_so_ldiv (hx : p.tables.exec = Jvm.exec) (hb : c.code = cc) {x y : Int64} (hd : decode cc (off pc) = .ok (.ldiv, 1)) (ho : off (pc + 1) = off pc + 1) (hne : ¬ y = 0) (kk : mj_J p l e R s m args below meth c D cl tys ad bi z nL off QQ b0 b1 (pc + 1) ls (.long (x / y) :: r) h) : mj_J p l e R s m args below meth c D cl tys ad bi z nL off QQ b0 b1 pc ls (.long y :: .long x :: r) h := by
  intro H locs k n L hl hr hS h1 h2
  have K := kk H locs k n L hl hr hS h1 h2
  rw [ho] at K
  exact lv_ldiv hx hb hd hne K
theorem mj_so_lrem (hx : p.tables.exec = Jvm.exec) (hb : c.code = cc) {x y : Int64} (hd : decode cc (off pc) = .ok (.lrem, 1)) (ho : off (pc + 1) = off pc + 1) (hne : ¬ y = 0) (kk : mj_J p l e R s m args below meth c D cl tys ad bi z nL off QQ b0 b1 (pc + 1) ls (.long (x - x / y * y) :: r) h) : mj_J p l e R s m args below meth c D cl tys ad bi z nL off QQ b0 b1 pc ls (.long y :: .long x :: r) h := by
  intro H locs k n L hl hr hS h1 h2
  have K := kk H locs k n L hl hr hS h1 h2
  rw [ho] at K
  exact lv_lrem hx hb hd hne K
theorem mj_so_lneg (hx : p.tables.exec = Jvm.exec) (hb : c.code = cc) {x : Int64} (hd : decode cc (off pc) = .ok (.lneg, 1)) (ho : off (pc + 1) = off pc + 1) (kk : mj_J p l e R s m args below meth c D cl tys ad bi z nL off QQ b0 b1 (pc + 1) ls (.long (-x) :: r) h) : mj_J p l e R s m args below meth c D cl tys ad bi z nL off QQ b0 b1 pc ls (.long x :: r) h := by
  intro H locs k n L hl hr hS h1 h2
  have K := kk H locs k n L hl hr hS h1 h2
  rw [ho] at K
  exact lv_lneg hx hb hd K
theorem mj_so_lshl (hx : p.tables.exec = Jvm.exec) (hb : c.code = cc) {x : Int64} {y : Int32} (hd : decode cc (off pc) = .ok (.lshl, 1)) (ho : off (pc + 1) = off pc + 1) (kk : mj_J p l e R s m args below meth c D cl tys ad bi z nL off QQ b0 b1 (pc + 1) ls (.long (x <<< (y.toInt64 &&& 63)) :: r) h) : mj_J p l e R s m args below meth c D cl tys ad bi z nL off QQ b0 b1 pc ls (.int y :: .long x :: r) h := by
  intro H locs k n L hl hr hS h1 h2
  have K := kk H locs k n L hl hr hS h1 h2
  rw [ho] at K
  exact lv_lshl hx hb hd rfl K
theorem mj_so_lshr (hx : p.tables.exec = Jvm.exec) (hb : c.code = cc) {x : Int64} {y : Int32} (hd : decode cc (off pc) = .ok (.lshr, 1)) (ho : off (pc + 1) = off pc + 1) (kk : mj_J p l e R s m args below meth c D cl tys ad bi z nL off QQ b0 b1 (pc + 1) ls (.long (x >>> (y.toInt64 &&& 63)) :: r) h) : mj_J p l e R s m args below meth c D cl tys ad bi z nL off QQ b0 b1 pc ls (.int y :: .long x :: r) h := by
  intro H locs k n L hl hr hS h1 h2
  have K := kk H locs k n L hl hr hS h1 h2
  rw [ho] at K
  exact lv_lshr hx hb hd rfl K
theorem mj_so_lushr (hx : p.tables.exec = Jvm.exec) (hb : c.code = cc) {x : Int64} {y : Int32} (hd : decode cc (off pc) = .ok (.lushr, 1)) (ho : off (pc + 1) = off pc + 1) (kk : mj_J p l e R s m args below meth c D cl tys ad bi z nL off QQ b0 b1 (pc + 1) ls (.long (x.toUInt64 >>> (y.toInt64.toUInt64 &&& Int64.toUInt64 63)).toInt64 :: r) h) : mj_J p l e R s m args below meth c D cl tys ad bi z nL off QQ b0 b1 pc ls (.int y :: .long x :: r) h := by
  intro H locs k n L hl hr hS h1 h2
  have K := kk H locs k n L hl hr hS h1 h2
  rw [ho] at K
  exact lv_lushr hx hb hd rfl K
theorem mj_so_lcmp (hx : p.tables.exec = Jvm.exec) (hb : c.code = cc) {x y : Int64} (hd : decode cc (off pc) = .ok (.lcmp, 1)) (ho : off (pc + 1) = off pc + 1) (kk : mj_J p l e R s m args below meth c D cl tys ad bi z nL off QQ b0 b1 (pc + 1) ls (.int (lg_cmp x y) :: r) h) : mj_J p l e R s m args below meth c D cl tys ad bi z nL off QQ b0 b1 pc ls (.long y :: .long x :: r) h := by
  intro H locs k n L hl hr hS h1 h2
  have K := kk H locs k n L hl hr hS h1 h2
  rw [ho] at K
  exact W.lcmp hx hb hd K
theorem mj_so_i2l (hx : p.tables.exec = Jvm.exec) (hb : c.code = cc) {x : Int32} (hd : decode cc (off pc) = .ok (.i2l, 1)) (ho : off (pc + 1) = off pc + 1) (kk : mj_J p l e R s m args below meth c D cl tys ad bi z nL off QQ b0 b1 (pc + 1) ls (.long x.toInt64 :: r) h) : mj_J p l e R s m args below meth c D cl tys ad bi z nL off QQ b0 b1 pc ls (.int x :: r) h := by
  intro H locs k n L hl hr hS h1 h2
  have K := kk H locs k n L hl hr hS h1 h2
  rw [ho] at K
  exact lv_i2l hx hb hd rfl K
theorem mj_so_l2i (hx : p.tables.exec = Jvm.exec) (hb : c.code = cc) {x : Int64} (hd : decode cc (off pc) = .ok (.l2i, 1)) (ho : off (pc + 1) = off pc + 1) (kk : mj_J p l e R s m args below meth c D cl tys ad bi z nL off QQ b0 b1 (pc + 1) ls (.int x.toInt32 :: r) h) : mj_J p l e R s m args below meth c D cl tys ad bi z nL off QQ b0 b1 pc ls (.long x :: r) h := by
  intro H locs k n L hl hr hS h1 h2
  have K := kk H locs k n L hl hr hS h1 h2
  rw [ho] at K
  exact lv_l2i hx hb hd rfl K
theorem mj_so_i2c (hx : p.tables.exec = Jvm.exec) (hb : c.code = cc) {x : Int32} (hd : decode cc (off pc) = .ok (.i2c, 1)) (ho : off (pc + 1) = off pc + 1) (kk : mj_J p l e R s m args below meth c D cl tys ad bi z nL off QQ b0 b1 (pc + 1) ls (.int (x.toUInt32 % 65536).toInt32 :: r) h) : mj_J p l e R s m args below meth c D cl tys ad bi z nL off QQ b0 b1 pc ls (.int x :: r) h := by
  intro H locs k n L hl hr hS h1 h2
  have K := kk H locs k n L hl hr hS h1 h2
  rw [ho] at K
  exact lv_i2c hx hb hd rfl K
theorem mj_so_i2b (hx : p.tables.exec = Jvm.exec) (hb : c.code = cc) {x : Int32} (hd : decode cc (off pc) = .ok (.i2b, 1)) (ho : off (pc + 1) = off pc + 1) (kk : mj_J p l e R s m args below meth c D cl tys ad bi z nL off QQ b0 b1 (pc + 1) ls (.int x.toInt8.toInt32 :: r) h) : mj_J p l e R s m args below meth c D cl tys ad bi z nL off QQ b0 b1 pc ls (.int x :: r) h := by
  intro H locs k n L hl hr hS h1 h2
  have K := kk H locs k n L hl hr hS h1 h2
  rw [ho] at K
  exact lv_i2b hx hb hd rfl K
theorem mj_so_dup (hx : p.tables.exec = Jvm.exec) (hb : c.code = cc) {v : Value} (hd : decode cc (off pc) = .ok (.dup, 1)) (ho : off (pc + 1) = off pc + 1) (h9 : v.category = 1) (kk : mj_J p l e R s m args below meth c D cl tys ad bi z nL off QQ b0 b1 (pc + 1) ls (v :: v :: r) h) : mj_J p l e R s m args below meth c D cl tys ad bi z nL off QQ b0 b1 pc ls (v :: r) h := by
  intro H locs k n L hl hr hS h1 h2
  have K := kk H locs k n L hl hr hS h1 h2
  rw [ho] at K
  exact lv_dup hx hb hd (by rw [mj_tr_cat]; exact h9) K
theorem mj_so_dup_x1 (hx : p.tables.exec = Jvm.exec) (hb : c.code = cc) {v w : Value} (hd : decode cc (off pc) = .ok (.dup_x1, 1)) (ho : off (pc + 1) = off pc + 1) (h9 : v.category = 1) (h8 : w.category = 1) (kk : mj_J p l e R s m args below meth c D cl tys ad bi z nL off QQ b0 b1 (pc + 1) ls (v :: w :: v :: r) h) : mj_J p l e R s m args below meth c D cl tys ad bi z nL off QQ b0 b1 pc ls (v :: w :: r) h := by
  intro H locs k n L hl hr hS h1 h2
  have K := kk H locs k n L hl hr hS h1 h2
  rw [ho] at K
  exact lv_dup_x1 hx hb hd (by rw [mj_tr_cat]; exact h9) (by rw [mj_tr_cat]; exact h8) K

theorem mj_so_dup2 (hx : p.tables.exec = Jvm.exec) (hb : c.code = cc) {v w : Value} (hd : decode cc (off pc) = .ok (.dup2, 1)) (ho : off (pc + 1) = off pc + 1) (h9 : v.category = 1) (h8 : w.category = 1) (kk : mj_J p l e R s m args below meth c D cl tys ad bi z nL off QQ b0 b1 (pc + 1) ls (v :: w :: v :: w :: r) h) : mj_J p l e R s m args below meth c D cl tys ad bi z nL off QQ b0 b1 pc ls (v :: w :: r) h := by
  intro H locs k n L hl hr hS h1 h2
  have K := kk H locs k n L hl hr hS h1 h2
  rw [ho] at K
  exact lv_dup2_11 hx hb hd (by rw [mj_tr_cat]; exact h9) (by rw [mj_tr_cat]; exact h8) K
theorem mj_so_dup2l (hx : p.tables.exec = Jvm.exec) (hb : c.code = cc) {v : Value} (hd : decode cc (off pc) = .ok (.dup2, 1)) (ho : off (pc + 1) = off pc + 1) (h9 : v.category = 2) (kk : mj_J p l e R s m args below meth c D cl tys ad bi z nL off QQ b0 b1 (pc + 1) ls (v :: v :: r) h) : mj_J p l e R s m args below meth c D cl tys ad bi z nL off QQ b0 b1 pc ls (v :: r) h := by
  intro H locs k n L hl hr hS h1 h2
  have K := kk H locs k n L hl hr hS h1 h2
  rw [ho] at K
  exact lv_dup2_2 hx hb hd (by rw [mj_tr_cat]; exact h9) K
theorem mj_so_pop (hx : p.tables.exec = Jvm.exec) (hb : c.code = cc) {v : Value} (hd : decode cc (off pc) = .ok (.pop, 1)) (ho : off (pc + 1) = off pc + 1) (h9 : v.category = 1) (kk : mj_J p l e R s m args below meth c D cl tys ad bi z nL off QQ b0 b1 (pc + 1) ls (r) h) : mj_J p l e R s m args below meth c D cl tys ad bi z nL off QQ b0 b1 pc ls (v :: r) h := by
  intro H locs k n L hl hr hS h1 h2
  have K := kk H locs k n L hl hr hS h1 h2
  rw [ho] at K
  exact lv_pop hx hb hd (by rw [mj_tr_cat]; exact h9) K
theorem mj_so_pop2 (hx : p.tables.exec = Jvm.exec) (hb : c.code = cc) {v : Value} (hd : decode cc (off pc) = .ok (.pop2, 1)) (ho : off (pc + 1) = off pc + 1) (h9 : v.category = 2) (kk : mj_J p l e R s m args below meth c D cl tys ad bi z nL off QQ b0 b1 (pc + 1) ls (r) h) : mj_J p l e R s m args below meth c D cl tys ad bi z nL off QQ b0 b1 pc ls (v :: r) h := by
  intro H locs k n L hl hr hS h1 h2
  have K := kk H locs k n L hl hr hS h1 h2
  rw [ho] at K
  exact lv_pop2_2 hx hb hd (by rw [mj_tr_cat]; exact h9) K
theorem mj_so_if_eq (hx : p.tables.exec = Jvm.exec) (hb : c.code = cc) {x : Int32} {o : Int} {t : Nat} (hd : decode cc (off pc) = .ok (.ifCond .eq o, 3)) (ho : off (pc + 1) = off pc + 3) (ht : (off pc : Int) + o = (off t : Int)) (ka : x = 0 → mj_J p l e R s m args below meth c D cl tys ad bi z nL off QQ b0 b1 t ls r h) (kb : ¬ x = 0 → mj_J p l e R s m args below meth c D cl tys ad bi z nL off QQ b0 b1 (pc + 1) ls r h) : mj_J p l e R s m args below meth c D cl tys ad bi z nL off QQ b0 b1 pc ls (.int x :: r) h := by
  intro H locs k n L hl hr hS h1 h2
  refine lv_if_eq (tgt := off t) hx hb hd ht (fun g => ka g H locs k n L hl hr hS h1 h2) (fun g => ?_)
  have K := kb g H locs k n L hl hr hS h1 h2
  rw [ho] at K
  exact K
theorem mj_so_if_ne (hx : p.tables.exec = Jvm.exec) (hb : c.code = cc) {x : Int32} {o : Int} {t : Nat} (hd : decode cc (off pc) = .ok (.ifCond .ne o, 3)) (ho : off (pc + 1) = off pc + 3) (ht : (off pc : Int) + o = (off t : Int)) (ka : ¬ x = 0 → mj_J p l e R s m args below meth c D cl tys ad bi z nL off QQ b0 b1 t ls r h) (kb : x = 0 → mj_J p l e R s m args below meth c D cl tys ad bi z nL off QQ b0 b1 (pc + 1) ls r h) : mj_J p l e R s m args below meth c D cl tys ad bi z nL off QQ b0 b1 pc ls (.int x :: r) h := by
  intro H locs k n L hl hr hS h1 h2
  refine lv_if_ne (tgt := off t) hx hb hd ht (fun g => ka g H locs k n L hl hr hS h1 h2) (fun g => ?_)
  have K := kb g H locs k n L hl hr hS h1 h2
  rw [ho] at K
  exact K
theorem mj_so_if_lt (hx : p.tables.exec = Jvm.exec) (hb : c.code = cc) {x : Int32} {o : Int} {t : Nat} (hd : decode cc (off pc) = .ok (.ifCond .lt o, 3)) (ho : off (pc + 1) = off pc + 3) (ht : (off pc : Int) + o = (off t : Int)) (ka : x < 0 → mj_J p l e R s m args below meth c D cl tys ad bi z nL off QQ b0 b1 t ls r h) (kb : ¬ x < 0 → mj_J p l e R s m args below meth c D cl tys ad bi z nL off QQ b0 b1 (pc + 1) ls r h) : mj_J p l e R s m args below meth c D cl tys ad bi z nL off QQ b0 b1 pc ls (.int x :: r) h := by
  intro H locs k n L hl hr hS h1 h2
  refine lv_if_lt (tgt := off t) hx hb hd ht (fun g => ka g H locs k n L hl hr hS h1 h2) (fun g => ?_)
  have K := kb g H locs k n L hl hr hS h1 h2
  rw [ho] at K
  exact K
theorem mj_so_if_ge (hx : p.tables.exec = Jvm.exec) (hb : c.code = cc) {x : Int32} {o : Int} {t : Nat} (hd : decode cc (off pc) = .ok (.ifCond .ge o, 3)) (ho : off (pc + 1) = off pc + 3) (ht : (off pc : Int) + o = (off t : Int)) (ka : 0 ≤ x → mj_J p l e R s m args below meth c D cl tys ad bi z nL off QQ b0 b1 t ls r h) (kb : ¬ 0 ≤ x → mj_J p l e R s m args below meth c D cl tys ad bi z nL off QQ b0 b1 (pc + 1) ls r h) : mj_J p l e R s m args below meth c D cl tys ad bi z nL off QQ b0 b1 pc ls (.int x :: r) h := by
  intro H locs k n L hl hr hS h1 h2
  refine lv_if_ge (tgt := off t) hx hb hd ht (fun g => ka g H locs k n L hl hr hS h1 h2) (fun g => ?_)
  have K := kb g H locs k n L hl hr hS h1 h2
  rw [ho] at K
  exact K
theorem mj_so_if_gt (hx : p.tables.exec = Jvm.exec) (hb : c.code = cc) {x : Int32} {o : Int} {t : Nat} (hd : decode cc (off pc) = .ok (.ifCond .gt o, 3)) (ho : off (pc + 1) = off pc + 3) (ht : (off pc : Int) + o = (off t : Int)) (ka : 0 < x → mj_J p l e R s m args below meth c D cl tys ad bi z nL off QQ b0 b1 t ls r h) (kb : ¬ 0 < x → mj_J p l e R s m args below meth c D cl tys ad bi z nL off QQ b0 b1 (pc + 1) ls r h) : mj_J p l e R s m args below meth c D cl tys ad bi z nL off QQ b0 b1 pc ls (.int x :: r) h := by
  intro H locs k n L hl hr hS h1 h2
  refine lv_if_gt (tgt := off t) hx hb hd ht (fun g => ka g H locs k n L hl hr hS h1 h2) (fun g => ?_)
  have K := kb g H locs k n L hl hr hS h1 h2
  rw [ho] at K
  exact K
theorem mj_so_if_le (hx : p.tables.exec = Jvm.exec) (hb : c.code = cc) {x : Int32} {o : Int} {t : Nat} (hd : decode cc (off pc) = .ok (.ifCond .le o, 3)) (ho : off (pc + 1) = off pc + 3) (ht : (off pc : Int) + o = (off t : Int)) (ka : x ≤ 0 → mj_J p l e R s m args below meth c D cl tys ad bi z nL off QQ b0 b1 t ls r h) (kb : ¬ x ≤ 0 → mj_J p l e R s m args below meth c D cl tys ad bi z nL off QQ b0 b1 (pc + 1) ls r h) : mj_J p l e R s m args below meth c D cl tys ad bi z nL off QQ b0 b1 pc ls (.int x :: r) h := by
  intro H locs k n L hl hr hS h1 h2
  refine lv_if_le (tgt := off t) hx hb hd ht (fun g => ka g H locs k n L hl hr hS h1 h2) (fun g => ?_)
  have K := kb g H locs k n L hl hr hS h1 h2
  rw [ho] at K
  exact K
theorem mj_so_ic_eq (hx : p.tables.exec = Jvm.exec) (hb : c.code = cc) {x y : Int32} {o : Int} {t : Nat} (hd : decode cc (off pc) = .ok (.if_icmp .eq o, 3)) (ho : off (pc + 1) = off pc + 3) (ht : (off pc : Int) + o = (off t : Int)) (ka : x = y → mj_J p l e R s m args below meth c D cl tys ad bi z nL off QQ b0 b1 t ls r h) (kb : ¬ x = y → mj_J p l e R s m args below meth c D cl tys ad bi z nL off QQ b0 b1 (pc + 1) ls r h) : mj_J p l e R s m args below meth c D cl tys ad bi z nL off QQ b0 b1 pc ls (.int y :: .int x :: r) h := by
  intro H locs k n L hl hr hS h1 h2
  refine lv_icmp_eq (tgt := off t) hx hb hd ht (fun g => ka g H locs k n L hl hr hS h1 h2) (fun g => ?_)
  have K := kb g H locs k n L hl hr hS h1 h2
  rw [ho] at K
  exact K
theorem mj_so_ic_ne (hx : p.tables.exec = Jvm.exec) (hb : c.code = cc) {x y : Int32} {o : Int} {t : Nat} (hd : decode cc (off pc) = .ok (.if_icmp .ne o, 3)) (ho : off (pc + 1) = off pc + 3) (ht : (off pc : Int) + o = (off t : Int)) (ka : ¬ x = y → mj_J p l e R s m args below meth c D cl tys ad bi z nL off QQ b0 b1 t ls r h) (kb : x = y → mj_J p l e R s m args below meth c D cl tys ad bi z nL off QQ b0 b1 (pc + 1) ls r h) : mj_J p l e R s m args below meth c D cl tys ad bi z nL off QQ b0 b1 pc ls (.int y :: .int x :: r) h := by
  intro H locs k n L hl hr hS h1 h2
  refine lv_icmp_ne (tgt := off t) hx hb hd ht (fun g => ka g H locs k n L hl hr hS h1 h2) (fun g => ?_)
  have K := kb g H locs k n L hl hr hS h1 h2
  rw [ho] at K
  exact K
theorem mj_so_ic_lt (hx : p.tables.exec = Jvm.exec) (hb : c.code = cc) {x y : Int32} {o : Int} {t : Nat} (hd : decode cc (off pc) = .ok (.if_icmp .lt o, 3)) (ho : off (pc + 1) = off pc + 3) (ht : (off pc : Int) + o = (off t : Int)) (ka : x < y → mj_J p l e R s m args below meth c D cl tys ad bi z nL off QQ b0 b1 t ls r h) (kb : ¬ x < y → mj_J p l e R s m args below meth c D cl tys ad bi z nL off QQ b0 b1 (pc + 1) ls r h) : mj_J p l e R s m args below meth c D cl tys ad bi z nL off QQ b0 b1 pc ls (.int y :: .int x :: r) h := by
  intro H locs k n L hl hr hS h1 h2
  refine lv_icmp_lt (tgt := off t) hx hb hd ht (fun g => ka g H locs k n L hl hr hS h1 h2) (fun g => ?_)
  have K := kb g H locs k n L hl hr hS h1 h2
  rw [ho] at K
  exact K
theorem mj_so_ic_ge (hx : p.tables.exec = Jvm.exec) (hb : c.code = cc) {x y : Int32} {o : Int} {t : Nat} (hd : decode cc (off pc) = .ok (.if_icmp .ge o, 3)) (ho : off (pc + 1) = off pc + 3) (ht : (off pc : Int) + o = (off t : Int)) (ka : y ≤ x → mj_J p l e R s m args below meth c D cl tys ad bi z nL off QQ b0 b1 t ls r h) (kb : ¬ y ≤ x → mj_J p l e R s m args below meth c D cl tys ad bi z nL off QQ b0 b1 (pc + 1) ls r h) : mj_J p l e R s m args below meth c D cl tys ad bi z nL off QQ b0 b1 pc ls (.int y :: .int x :: r) h := by
  intro H locs k n L hl hr hS h1 h2
  refine lv_icmp_ge (tgt := off t) hx hb hd ht (fun g => ka g H locs k n L hl hr hS h1 h2) (fun g => ?_)
  have K := kb g H locs k n L hl hr hS h1 h2
  rw [ho] at K
  exact K
theorem mj_so_ic_gt (hx : p.tables.exec = Jvm.exec) (hb : c.code = cc) {x y : Int32} {o : Int} {t : Nat} (hd : decode cc (off pc) = .ok (.if_icmp .gt o, 3)) (ho : off (pc + 1) = off pc + 3) (ht : (off pc : Int) + o = (off t : Int)) (ka : y < x → mj_J p l e R s m args below meth c D cl tys ad bi z nL off QQ b0 b1 t ls r h) (kb : ¬ y < x → mj_J p l e R s m args below meth c D cl tys ad bi z nL off QQ b0 b1 (pc + 1) ls r h) : mj_J p l e R s m args below meth c D cl tys ad bi z nL off QQ b0 b1 pc ls (.int y :: .int x :: r) h := by
  intro H locs k n L hl hr hS h1 h2
  refine lv_icmp_gt (tgt := off t) hx hb hd ht (fun g => ka g H locs k n L hl hr hS h1 h2) (fun g => ?_)
  have K := kb g H locs k n L hl hr hS h1 h2
  rw [ho] at K
  exact K
theorem mj_so_ic_le (hx : p.tables.exec = Jvm.exec) (hb : c.code = cc) {x y : Int32} {o : Int} {t : Nat} (hd : decode cc (off pc) = .ok (.if_icmp .le o, 3)) (ho : off (pc + 1) = off pc + 3) (ht : (off pc : Int) + o = (off t : Int)) (ka : x ≤ y → mj_J p l e R s m args below meth c D cl tys ad bi z nL off QQ b0 b1 t ls r h) (kb : ¬ x ≤ y → mj_J p l e R s m args below meth c D cl tys ad bi z nL off QQ b0 b1 (pc + 1) ls r h) : mj_J p l e R s m args below meth c D cl tys ad bi z nL off QQ b0 b1 pc ls (.int y :: .int x :: r) h := by
  intro H locs k n L hl hr hS h1 h2
  refine lv_icmp_le (tgt := off t) hx hb hd ht (fun g => ka g H locs k n L hl hr hS h1 h2) (fun g => ?_)
  have K := kb g H locs k n L hl hr hS h1 h2
  rw [ho] at K
  exact K
theorem mj_so_ifnn (hx : p.tables.exec = Jvm.exec) (hb : c.code = cc) {a : Nat} {o : Int} {t : Nat} (hd : decode cc (off pc) = .ok (.ifnonnull o, 3)) (ht : (off pc : Int) + o = (off t : Int)) (kk : mj_J p l e R s m args below meth c D cl tys ad bi z nL off QQ b0 b1 t ls r h) : mj_J p l e R s m args below meth c D cl tys ad bi z nL off QQ b0 b1 pc ls (.ref a :: r) h := by
  intro H locs k n L hl hr hS h1 h2
  exact lv_ifnonnull (tgt := off t) hx hb hd ht (kk H locs k n L hl hr hS h1 h2)
theorem mj_so_goto (hx : p.tables.exec = Jvm.exec) (hb : c.code = cc) {o : Int} {t : Nat} (hd : decode cc (off pc) = .ok (.goto o, 3)) (ht : (off pc : Int) + o = (off t : Int)) (kk : mj_J p l e R s m args below meth c D cl tys ad bi z nL off QQ b0 b1 t ls r h) : mj_J p l e R s m args below meth c D cl tys ad bi z nL off QQ b0 b1 pc ls r h := by
  intro H locs k n L hl hr hS h1 h2
  exact lv_goto (tgt := off t) hx hb hd ht (kk H locs k n L hl hr hS h1 h2)
theorem mj_so_iload_n (hx : p.tables.exec = Jvm.exec) (hb : c.code = cc) {i : Nat} {f : Fin 4} (hf : (f : Nat) = i) {x : Int32} (hv : mj_nth ls i = some (some (.int x))) (hd : decode cc (off pc) = .ok (.iload_n f, 1)) (ho : off (pc + 1) = off pc + 1) (kk : mj_J p l e R s m args below meth c D cl tys ad bi z nL off QQ b0 b1 (pc + 1) ls (.int x :: r) h) : mj_J p l e R s m args below meth c D cl tys ad bi z nL off QQ b0 b1 pc ls r h := by
  intro H locs k n L hl hr hS h1 h2
  have K := kk H locs k n L hl hr hS h1 h2
  have G := mj_loc hl hv
  rw [ho] at K
  exact lv_iload_n hx hb hd hf G K
theorem mj_so_iload (hx : p.tables.exec = Jvm.exec) (hb : c.code = cc) {i : Nat} {x : Int32} (hv : mj_nth ls i = some (some (.int x))) (hd : decode cc (off pc) = .ok (.iload i, 2)) (ho : off (pc + 1) = off pc + 2) (kk : mj_J p l e R s m args below meth c D cl tys ad bi z nL off QQ b0 b1 (pc + 1) ls (.int x :: r) h) : mj_J p l e R s m args below meth c D cl tys ad bi z nL off QQ b0 b1 pc ls r h := by
  intro H locs k n L hl hr hS h1 h2
  have K := kk H locs k n L hl hr hS h1 h2
  have G := mj_loc hl hv
  rw [ho] at K
  exact lv_iload hx hb hd G K
theorem mj_so_lload_n (hx : p.tables.exec = Jvm.exec) (hb : c.code = cc) {i : Nat} {f : Fin 4} (hf : (f : Nat) = i) {x : Int64} (hv : mj_nth ls i = some (some (.long x))) (hd : decode cc (off pc) = .ok (.lload_n f, 1)) (ho : off (pc + 1) = off pc + 1) (kk : mj_J p l e R s m args below meth c D cl tys ad bi z nL off QQ b0 b1 (pc + 1) ls (.long x :: r) h) : mj_J p l e R s m args below meth c D cl tys ad bi z nL off QQ b0 b1 pc ls r h := by
  intro H locs k n L hl hr hS h1 h2
  have K := kk H locs k n L hl hr hS h1 h2
  have G := mj_loc hl hv
  rw [ho] at K
  exact lv_lload_n hx hb hd hf G K
theorem mj_so_lload (hx : p.tables.exec = Jvm.exec) (hb : c.code = cc) {i : Nat} {x : Int64} (hv : mj_nth ls i = some (some (.long x))) (hd : decode cc (off pc) = .ok (.lload i, 2)) (ho : off (pc + 1) = off pc + 2) (kk : mj_J p l e R s m args below meth c D cl tys ad bi z nL off QQ b0 b1 (pc + 1) ls (.long x :: r) h) : mj_J p l e R s m args below meth c D cl tys ad bi z nL off QQ b0 b1 pc ls r h := by
  intro H locs k n L hl hr hS h1 h2
  have K := kk H locs k n L hl hr hS h1 h2
  have G := mj_loc hl hv
  rw [ho] at K
  exact lv_lload hx hb hd G K
theorem mj_so_aload_n (hx : p.tables.exec = Jvm.exec) (hb : c.code = cc) {i : Nat} {f : Fin 4} (hf : (f : Nat) = i) {x : Nat} (hv : mj_nth ls i = some (some (.ref x))) (hd : decode cc (off pc) = .ok (.aload_n f, 1)) (ho : off (pc + 1) = off pc + 1) (kk : mj_J p l e R s m args below meth c D cl tys ad bi z nL off QQ b0 b1 (pc + 1) ls (.ref x :: r) h) : mj_J p l e R s m args below meth c D cl tys ad bi z nL off QQ b0 b1 pc ls r h := by
  intro H locs k n L hl hr hS h1 h2
  have K := kk H locs k n L hl hr hS h1 h2
  have G := mj_loc hl hv
  rw [ho] at K
  exact lv_aload_n hx hb hd hf G K
theorem mj_so_aload (hx : p.tables.exec = Jvm.exec) (hb : c.code = cc) {i : Nat} {x : Nat} (hv : mj_nth ls i = some (some (.ref x))) (hd : decode cc (off pc) = .ok (.aload i, 2)) (ho : off (pc + 1) = off pc + 2) (kk : mj_J p l e R s m args below meth c D cl tys ad bi z nL off QQ b0 b1 (pc + 1) ls (.ref x :: r) h) : mj_J p l e R s m args below meth c D cl tys ad bi z nL off QQ b0 b1 pc ls r h := by
  intro H locs k n L hl hr hS h1 h2
  have K := kk H locs k n L hl hr hS h1 h2
  have G := mj_loc hl hv
  rw [ho] at K
  exact lv_aload hx hb hd G K
theorem mj_so_istore_n (hx : p.tables.exec = Jvm.exec) (hb : c.code = cc) {i : Nat} {f : Fin 4} (hf : (f : Nat) = i) {x : Int32} (hi : i < nL) (hd : decode cc (off pc) = .ok (.istore_n f, 1)) (ho : off (pc + 1) = off pc + 1) (kk : mj_J p l e R s m args below meth c D cl tys ad bi z nL off QQ b0 b1 (pc + 1) (mj_st1 ls i (.int x)) r h) : mj_J p l e R s m args below meth c D cl tys ad bi z nL off QQ b0 b1 pc ls (.int x :: r) h := by
  intro H locs k n L hl hr hS h1 h2
  refine lv_istore_n hx hb hd hf hl hi rfl fun L1 hl1 => ?_
  have K := kk H locs k n L1 (mj_lv_st1 (v := .int x) hl1) hr hS h1 h2
  rw [ho] at K
  exact K
theorem mj_so_istore (hx : p.tables.exec = Jvm.exec) (hb : c.code = cc) {i : Nat} {x : Int32} (hi : i < nL) (hd : decode cc (off pc) = .ok (.istore i, 2)) (ho : off (pc + 1) = off pc + 2) (kk : mj_J p l e R s m args below meth c D cl tys ad bi z nL off QQ b0 b1 (pc + 1) (mj_st1 ls i (.int x)) r h) : mj_J p l e R s m args below meth c D cl tys ad bi z nL off QQ b0 b1 pc ls (.int x :: r) h := by
  intro H locs k n L hl hr hS h1 h2
  refine lv_istore hx hb hd hl hi rfl fun L1 hl1 => ?_
  have K := kk H locs k n L1 (mj_lv_st1 (v := .int x) hl1) hr hS h1 h2
  rw [ho] at K
  exact K
theorem mj_so_lstore_n (hx : p.tables.exec = Jvm.exec) (hb : c.code = cc) {i : Nat} {f : Fin 4} (hf : (f : Nat) = i) {x : Int64} (hi : i + 1 < nL) (hd : decode cc (off pc) = .ok (.lstore_n f, 1)) (ho : off (pc + 1) = off pc + 1) (kk : mj_J p l e R s m args below meth c D cl tys ad bi z nL off QQ b0 b1 (pc + 1) (mj_st2 ls i (.long x)) r h) : mj_J p l e R s m args below meth c D cl tys ad bi z nL off QQ b0 b1 pc ls (.long x :: r) h := by
  intro H locs k n L hl hr hS h1 h2
  refine lv_lstore_n hx hb hd hf hl hi rfl fun L1 hl1 => ?_
  have K := kk H locs k n L1 (mj_lv_st2 (v := .long x) hl1) hr hS h1 h2
  rw [ho] at K
  exact K
theorem mj_so_lstore (hx : p.tables.exec = Jvm.exec) (hb : c.code = cc) {i : Nat} {x : Int64} (hi : i + 1 < nL) (hd : decode cc (off pc) = .ok (.lstore i, 2)) (ho : off (pc + 1) = off pc + 2) (kk : mj_J p l e R s m args below meth c D cl tys ad bi z nL off QQ b0 b1 (pc + 1) (mj_st2 ls i (.long x)) r h) : mj_J p l e R s m args below meth c D cl tys ad bi z nL off QQ b0 b1 pc ls (.long x :: r) h := by
  intro H locs k n L hl hr hS h1 h2
  refine lv_lstore hx hb hd hl hi rfl fun L1 hl1 => ?_
  have K := kk H locs k n L1 (mj_lv_st2 (v := .long x) hl1) hr hS h1 h2
  rw [ho] at K
  exact K
theorem mj_so_astore_n (hx : p.tables.exec = Jvm.exec) (hb : c.code = cc) {i : Nat} {f : Fin 4} (hf : (f : Nat) = i) {x : Nat} (hi : i < nL) (hd : decode cc (off pc) = .ok (.astore_n f, 1)) (ho : off (pc + 1) = off pc + 1) (kk : mj_J p l e R s m args below meth c D cl tys ad bi z nL off QQ b0 b1 (pc + 1) (mj_st1 ls i (.ref x)) r h) : mj_J p l e R s m args below meth c D cl tys ad bi z nL off QQ b0 b1 pc ls (.ref x :: r) h := by
  intro H locs k n L hl hr hS h1 h2
  refine lv_astore_n hx hb hd hf hl hi rfl fun L1 hl1 => ?_
  have K := kk H locs k n L1 (mj_lv_st1 (v := .ref x) hl1) hr hS h1 h2
  rw [ho] at K
  exact K
theorem mj_so_astore (hx : p.tables.exec = Jvm.exec) (hb : c.code = cc) {i : Nat} {x : Nat} (hi : i < nL) (hd : decode cc (off pc) = .ok (.astore i, 2)) (ho : off (pc + 1) = off pc + 2) (kk : mj_J p l e R s m args below meth c D cl tys ad bi z nL off QQ b0 b1 (pc + 1) (mj_st1 ls i (.ref x)) r h) : mj_J p l e R s m args below meth c D cl tys ad bi z nL off QQ b0 b1 pc ls (.ref x :: r) h := by
  intro H locs k n L hl hr hS h1 h2
  refine lv_astore hx hb hd hl hi rfl fun L1 hl1 => ?_
  have K := kk H locs k n L1 (mj_lv_st1 (v := .ref x) hl1) hr hS h1 h2
  rw [ho] at K
  exact K
theorem mj_so_iinc (hx : p.tables.exec = Jvm.exec) (hb : c.code = cc) {i : Nat} {v : Int} {x : Int32} (hi : i < nL) (hv : mj_nth ls i = some (some (.int x))) (hd : decode cc (off pc) = .ok (.iinc i v, 3)) (ho : off (pc + 1) = off pc + 3) (kk : mj_J p l e R s m args below meth c D cl tys ad bi z nL off QQ b0 b1 (pc + 1) (mj_st1 ls i (.int (x + Int32.ofInt v))) r h) : mj_J p l e R s m args below meth c D cl tys ad bi z nL off QQ b0 b1 pc ls r h := by
  intro H locs k n L hl hr hS h1 h2
  obtain ⟨j, hj⟩ := mj_locAt (ad := ad) hv
  refine lv_iinc hx hb hd hl (k := j) hj rfl hi rfl fun L1 hl1 => ?_
  have K := kk H locs k n L1 (mj_lv_st1 (v := .int (x + Int32.ofInt v)) hl1) hr hS h1 h2
  rw [ho] at K
  exact K
theorem mj_so_iconst (hx : p.tables.exec = Jvm.exec) (hb : c.code = cc) {own : String} (hown : s.vm.findClass own = some m.cls) {TS : List Cond} (hts : ∀ w ∈ TS, w.before args s = true) {rt : Option FieldType} {v : Int} (hok : mj_ok TS own cc nL off rt pc (.iconst v)) (kk : mj_J p l e R s m args below meth c D cl tys ad bi z nL off QQ b0 b1 (pc + 1) ls (.int (Int32.ofInt v) :: r) h) : mj_J p l e R s m args below meth c D cl tys ad bi z nL off QQ b0 b1 pc ls r h := by
  intro H locs k n L hl hr hS h1 h2
  have K := kk H locs k n L hl hr hS h1 h2
  rcases hok with ⟨hd, ho⟩ | ⟨hd, ho, hv⟩ | ⟨hd, ho, hv⟩ | ⟨j, hd, ho, hw⟩
  · rw [ho] at K
    exact lv_iconst hx hb hd rfl K
  · rw [ho] at K
    exact lv_bipush hx hb hd hv K
  · rw [ho] at K
    exact lv_sipush hx hb hd hv K
  · rw [ho] at K
    exact lv_ldc hx hb hown (hts _ hw) hd K
theorem mj_so_lconst (hx : p.tables.exec = Jvm.exec) (hb : c.code = cc) {own : String} (hown : s.vm.findClass own = some m.cls) {TS : List Cond} (hts : ∀ w ∈ TS, w.before args s = true) {rt : Option FieldType} {v : Nat} (hok : mj_ok TS own cc nL off rt pc (.ldc2_w v)) (kk : mj_J p l e R s m args below meth c D cl tys ad bi z nL off QQ b0 b1 (pc + 1) ls (.long (Int64.ofNat v) :: r) h) : mj_J p l e R s m args below meth c D cl tys ad bi z nL off QQ b0 b1 pc ls r h := by
  intro H locs k n L hl hr hS h1 h2
  have K := kk H locs k n L hl hr hS h1 h2
  rcases hok with ⟨f, hf, hd, ho⟩ | ⟨j, hd, ho, hw⟩
  · rw [ho] at K
    exact lv_lconst hx hb hd (by rw [hf]) K
  · rw [ho] at K
    exact lv_ldc2 hx hb hown (hts _ hw) hd K
end MJP
end
section
theorem mj_at {tys : List (ClassId × FieldType)} {ad : Nat → Nat} {bi : Nat} {b : mj_B} {os : List mj_O} {a : Nat} {o : mj_O} (h : mj_nth os a = some o) : (mj_ws tys ad bi b 0 os)[a]? = some (mj_en tys ad bi b a o) := by
  have h1 := mj_ws_at (tys := tys) (ad := ad) (bi := bi) (b := b) (k := 0) h
  rw [Nat.zero_add] at h1
  exact h1
def mj_nb (o : mj_O) : Prop := match o with
  | .inr (.inr _) => False
  | _ => True
theorem mj_en_nb {tys : List (ClassId × FieldType)} {ad : Nat → Nat} {bi a : Nat} {b : mj_B} {o : mj_O} (h : mj_nb o) : (mj_en tys ad bi b a o).1 = ad a := by
  rcases o with o | o | o
  · rfl
  · rfl
  · exact h.elim
theorem mj_bd_set {b : mj_B} {os : List mj_O} {a : Nat} {o o' : mj_O} (h : mj_bd b os) (ha : mj_nth os a = some o) (ho : mj_nb o) (ho' : mj_nb o') : mj_bd b (mj_stn os a o') := by
  intro i n f hi
  rw [mj_nth_get, mj_stn_set] at hi
  rw [mj_nth_get] at ha
  have ne : i ≠ a := by
    intro e
    subst e
    rw [List.getElem?_set_self (List.getElem?_eq_some_iff.mp ha).1] at hi
    cases hi
    exact ho'.elim
  rw [List.getElem?_set_ne (fun q => ne q.symm)] at hi
  obtain ⟨h1, h2⟩ := h i n f (by rw [mj_nth_get]; exact hi)
  refine ⟨?_, h2⟩
  rw [mj_nth_get] at h1
  have ne2 : i + 1 ≠ a := by
    intro e
    subst e
    rw [ha] at h1
    cases h1
    exact ho.elim
  rw [mj_nth_get, mj_stn_set, List.getElem?_set_ne (fun q => ne2 q.symm)]
  exact h1
theorem mj_rep_put {D : va_G} {cl : List vw_C} {tys : List (ClassId × FieldType)} {ad : Nat → Nat} {bi a : Nat} {z : Nat → Prop} {h : mj_H} {H H1 : Heap} {o o' : mj_O} (hr : mj_rep D cl tys ad bi z h H) (ho : mj_nth h.1 a = some o) (hm : mj_nb o) (hn : mj_nb o') (hat : ∀ b, va_at D cl (mj_en tys ad bi b a o') H1) (hz : H1.size = H.size) (hq : ∀ q : Nat, q ≠ ad a → H1[q]? = H[q]?) : mj_rep D cl tys ad bi z (mj_set h a o') H1 := by
  obtain ⟨⟨b, hP, hD, hB⟩, hs, hvs⟩ := hr
  have he := mj_at (tys := tys) (ad := ad) (bi := bi) (b := b) ho
  have e1 : (mj_ws tys ad bi b 0 h.1).set a (mj_en tys ad bi b a o') = mj_ws tys ad bi b 0 (mj_stn h.1 a o') := by
    have := mj_ws_set (tys := tys) (ad := ad) (bi := bi) (b := b) (k := 0) (i := a) (os := h.1) (o := o')
    rw [Nat.zero_add] at this
    exact this
  have f1 : mj_en tys ad bi b a o = (ad a, (mj_en tys ad bi b a o).2) := Prod.ext (mj_en_nb hm) rfl
  have f2 : mj_en tys ad bi b a o' = (ad a, (mj_en tys ad bi b a o').2) := Prod.ext (mj_en_nb hn) rfl
  rw [f1] at he
  refine ⟨⟨b, ?_, ?_, mj_bd_set hB ho hm hn⟩, fun hop => ?_, fun q cell hq1 hq2 => ?_, fun q hq9 => hvs.2 q (by rw [← hz]; exact hq9)⟩
  · show va_P D cl (mj_ws tys ad bi b 0 (mj_stn h.1 a o')) H1
    rw [← e1, f2]
    exact hP.set hD he (by rw [← f2]; exact hat b) hq
  · show va_D (mj_A z) (mj_ws tys ad bi b 0 (mj_stn h.1 a o'))
    rw [← e1, f2]
    exact hD.set he
  · have h9 := hs hop
    show mj_nu ad (mj_stn h.1 a o').length H1
    rw [mj_stn_set, List.length_set]
    exact ⟨hz.trans h9.1, h9.2⟩
  · by_cases hqa : q = ad a
    · subst hqa
      exact mj_at_vm (hat b) (by rw [mj_en_nb hn]; exact hq2)
    · rw [hq q hqa] at hq2
      exact hvs.1 q cell hq1 hq2
theorem mj_in_A {D : va_G} {cl : List vw_C} {tys : List (ClassId × FieldType)} {ad : Nat → Nat} {bi a : Nat} {z : Nat → Prop} {h : mj_H} {H : Heap} {o : mj_O} (hr : mj_rep D cl tys ad bi z h H) (ho : mj_nth h.1 a = some o) (hm : mj_nb o) : mj_A z (ad a) := by
  obtain ⟨⟨b, hP, hD, hB⟩, hs, hvs⟩ := hr
  have := hD.2 a _ (mj_at ho)
  rw [mj_en_nb hm] at this
  exact this
theorem mj_cellA {D : va_G} {cl : List vw_C} {tys : List (ClassId × FieldType)} {ad : Nat → Nat} {bi a t : Nat} {z : Nat → Prop} {h : mj_H} {H : Heap} {x : vp_A} {cA : ClassId} {ty : FieldType} (ht : tys[t]? = some (cA, ty)) (hr : mj_rep D cl tys ad bi z h H) (ho : mj_nth h.1 a = some (.inl (t, x))) : H[ad a]? = some (vp_cell cA x) := by
  obtain ⟨⟨b, hP, hD, hB⟩, hs, hvs⟩ := hr
  have := hP a _ (mj_at ho)
  simp only [mj_en, va_at, mj_tc, ht, Option.map_some, Option.getD_some] at this
  exact this
section MJQ
variable {p : Program} {l : Launch} {e : Env} {R : Room} {s : State} {m : MethodId} {args : Array Value} {below : List Frame} {meth : Method} {c : Code}
variable {D : va_G} {cl : List vw_C} {tys : List (ClassId × FieldType)} {ad : Nat → Nat} {bi : Nat} {z : Nat → Prop} {nL : Nat} {off : Nat → Nat} {QQ : State → Prop} {b0 b1 : Nat} {cc : ByteArray} {pc : Nat} {ls : mj_L} {r : List Value} {h : mj_H}
theorem mj_so_iald (hx : p.tables.exec = Jvm.exec) (hb : c.code = cc) (hK : va_K D cl tys s) {cA : ClassId} (ht : tys[0]? = some (cA, .int)) {a w : Nat} {g : Nat → Int32} {i : Int32} (ha : mj_nth h.1 a = some (.inl (0, w, .inl g))) (hin : vp_in i w) (hd : decode cc (off pc) = .ok (.iaload, 1)) (ho : off (pc + 1) = off pc + 1) (kk : mj_J p l e R s m args below meth c D cl tys ad bi z nL off QQ b0 b1 (pc + 1) ls (.int (g i.toNatClampNeg) :: r) h) : mj_J p l e R s m args below meth c D cl tys ad bi z nL off QQ b0 b1 pc ls (.int i :: .ref a :: r) h := by
  intro H locs k n L hl hr hS h1 h2
  have K := kk H locs k n L hl hr hS h1 h2
  rw [ho] at K
  have hlt : i.toNatClampNeg < w := Nat.not_le.mp fun q => hin (Or.inr q)
  have hc := mj_cellA ht hr ha
  rw [vp_cell_i] at hc
  exact W.iald (v := .int (g i.toNatClampNeg)) hx hb hc ((hK.2 0 _ ht).1 w (fun j => .int (g j))) (fun q => by cases q) (by rw [arrV_size]; exact hin) (by rw [arrV_read _ _ hlt]) rfl rfl hd K
theorem mj_so_iast (hx : p.tables.exec = Jvm.exec) (hb : c.code = cc) (hK : va_K D cl tys s) {cA : ClassId} (ht : tys[0]? = some (cA, .int)) {a w : Nat} {g : Nat → Int32} {i : Int32} {x : Int32} (ha : mj_nth h.1 a = some (.inl (0, w, .inl g))) (hin : vp_in i w) (hd : decode cc (off pc) = .ok (.iastore, 1)) (ho : off (pc + 1) = off pc + 1) (kk : mj_J p l e R s m args below meth c D cl tys ad bi z nL off QQ b0 b1 (pc + 1) ls r (mj_set h a (.inl (0, w, .inl (upd g i.toNatClampNeg (x)))))) : mj_J p l e R s m args below meth c D cl tys ad bi z nL off QQ b0 b1 pc ls (.int x :: .int i :: .ref a :: r) h := by
  intro H locs k n L hl hr hS h1 h2
  have hc := mj_cellA ht hr ha
  rw [vp_cell_i] at hc
  refine W.iast hx hb hc ((hK.2 0 _ ht).1 w (fun j => .int (g j))) (fun q => by cases q) (by rw [arrV_size]; exact hin) rfl rfl hd fun H1 e9 z9 o9 => ?_
  have hA := mj_in_A hr ha trivial
  have hr1 : mj_rep D cl tys ad bi z (mj_set h a (.inl (0, w, .inl (upd g i.toNatClampNeg (x))))) H1 := by
    refine mj_rep_put hr ha trivial trivial (fun b => ?_) z9 o9
    show H1[ad a]? = some (vp_cell _ _)
    rw [e9, arrV_store]
    simp only [mj_tc, ht, Option.map_some, Option.getD_some]
    rw [vp_cell_i]
    congr 2
    funext q
    by_cases hq : q = i.toNatClampNeg
    · subst hq
      simp [updV, upd, vp_nar]
      try rfl
    · simp [updV, upd, hq]
  have K := kk H1 (locs ++ [⟨ad a, i.toNatClampNeg⟩]) k n L hl hr1 (hS.put z9 o9 hA) h1 h2
  rw [ho] at K
  exact K
theorem mj_so_lald (hx : p.tables.exec = Jvm.exec) (hb : c.code = cc) (hK : va_K D cl tys s) {cA : ClassId} (ht : tys[1]? = some (cA, .long)) {a w : Nat} {g : Nat → Int64} {i : Int32} (ha : mj_nth h.1 a = some (.inl (1, w, .inr (.inl g)))) (hin : vp_in i w) (hd : decode cc (off pc) = .ok (.laload, 1)) (ho : off (pc + 1) = off pc + 1) (kk : mj_J p l e R s m args below meth c D cl tys ad bi z nL off QQ b0 b1 (pc + 1) ls (.long (g i.toNatClampNeg) :: r) h) : mj_J p l e R s m args below meth c D cl tys ad bi z nL off QQ b0 b1 pc ls (.int i :: .ref a :: r) h := by
  intro H locs k n L hl hr hS h1 h2
  have K := kk H locs k n L hl hr hS h1 h2
  rw [ho] at K
  have hlt : i.toNatClampNeg < w := Nat.not_le.mp fun q => hin (Or.inr q)
  have hc := mj_cellA ht hr ha
  rw [vp_cell_l] at hc
  exact W.lald (v := .long (g i.toNatClampNeg)) hx hb hc ((hK.2 1 _ ht).1 w (fun j => .long (g j))) (fun q => by cases q) (by rw [arrV_size]; exact hin) (by rw [arrV_read _ _ hlt]) rfl rfl hd K
theorem mj_so_last (hx : p.tables.exec = Jvm.exec) (hb : c.code = cc) (hK : va_K D cl tys s) {cA : ClassId} (ht : tys[1]? = some (cA, .long)) {a w : Nat} {g : Nat → Int64} {i : Int32} {x : Int64} (ha : mj_nth h.1 a = some (.inl (1, w, .inr (.inl g)))) (hin : vp_in i w) (hd : decode cc (off pc) = .ok (.lastore, 1)) (ho : off (pc + 1) = off pc + 1) (kk : mj_J p l e R s m args below meth c D cl tys ad bi z nL off QQ b0 b1 (pc + 1) ls r (mj_set h a (.inl (1, w, .inr (.inl (vp_updL g i.toNatClampNeg (x))))))) : mj_J p l e R s m args below meth c D cl tys ad bi z nL off QQ b0 b1 pc ls (.long x :: .int i :: .ref a :: r) h := by
  intro H locs k n L hl hr hS h1 h2
  have hc := mj_cellA ht hr ha
  rw [vp_cell_l] at hc
  refine W.last hx hb hc ((hK.2 1 _ ht).1 w (fun j => .long (g j))) (fun q => by cases q) (by rw [arrV_size]; exact hin) rfl rfl hd fun H1 e9 z9 o9 => ?_
  have hA := mj_in_A hr ha trivial
  have hr1 : mj_rep D cl tys ad bi z (mj_set h a (.inl (1, w, .inr (.inl (vp_updL g i.toNatClampNeg (x)))))) H1 := by
    refine mj_rep_put hr ha trivial trivial (fun b => ?_) z9 o9
    show H1[ad a]? = some (vp_cell _ _)
    rw [e9, arrV_store]
    simp only [mj_tc, ht, Option.map_some, Option.getD_some]
    rw [vp_cell_l]
    congr 2
    funext q
    by_cases hq : q = i.toNatClampNeg
    · subst hq
      simp [updV, vp_updL, vp_nar]
      try rfl
    · simp [updV, vp_updL, hq]
  have K := kk H1 (locs ++ [⟨ad a, i.toNatClampNeg⟩]) k n L hl hr1 (hS.put z9 o9 hA) h1 h2
  rw [ho] at K
  exact K
theorem mj_so_cald (hx : p.tables.exec = Jvm.exec) (hb : c.code = cc) (hK : va_K D cl tys s) {cA : ClassId} (ht : tys[2]? = some (cA, .char)) {a w : Nat} {g : Nat → Int32} {i : Int32} (ha : mj_nth h.1 a = some (.inl (2, w, .inl g))) (hin : vp_in i w) (hd : decode cc (off pc) = .ok (.caload, 1)) (ho : off (pc + 1) = off pc + 1) (kk : mj_J p l e R s m args below meth c D cl tys ad bi z nL off QQ b0 b1 (pc + 1) ls (.int (g i.toNatClampNeg) :: r) h) : mj_J p l e R s m args below meth c D cl tys ad bi z nL off QQ b0 b1 pc ls (.int i :: .ref a :: r) h := by
  intro H locs k n L hl hr hS h1 h2
  have K := kk H locs k n L hl hr hS h1 h2
  rw [ho] at K
  have hlt : i.toNatClampNeg < w := Nat.not_le.mp fun q => hin (Or.inr q)
  have hc := mj_cellA ht hr ha
  rw [vp_cell_i] at hc
  exact W.cald (v := .int (g i.toNatClampNeg)) hx hb hc ((hK.2 2 _ ht).1 w (fun j => .int (g j))) (fun q => by cases q) (by rw [arrV_size]; exact hin) (by rw [arrV_read _ _ hlt]) rfl rfl hd K
theorem mj_so_cast (hx : p.tables.exec = Jvm.exec) (hb : c.code = cc) (hK : va_K D cl tys s) {cA : ClassId} (ht : tys[2]? = some (cA, .char)) {a w : Nat} {g : Nat → Int32} {i : Int32} {x : Int32} (ha : mj_nth h.1 a = some (.inl (2, w, .inl g))) (hin : vp_in i w) (hd : decode cc (off pc) = .ok (.castore, 1)) (ho : off (pc + 1) = off pc + 1) (kk : mj_J p l e R s m args below meth c D cl tys ad bi z nL off QQ b0 b1 (pc + 1) ls r (mj_set h a (.inl (2, w, .inl (upd g i.toNatClampNeg (vp_nar .char x)))))) : mj_J p l e R s m args below meth c D cl tys ad bi z nL off QQ b0 b1 pc ls (.int x :: .int i :: .ref a :: r) h := by
  intro H locs k n L hl hr hS h1 h2
  have hc := mj_cellA ht hr ha
  rw [vp_cell_i] at hc
  refine W.cast hx hb hc ((hK.2 2 _ ht).1 w (fun j => .int (g j))) (fun q => by cases q) (by rw [arrV_size]; exact hin) rfl rfl hd fun H1 e9 z9 o9 => ?_
  have hA := mj_in_A hr ha trivial
  have hr1 : mj_rep D cl tys ad bi z (mj_set h a (.inl (2, w, .inl (upd g i.toNatClampNeg (vp_nar .char x))))) H1 := by
    refine mj_rep_put hr ha trivial trivial (fun b => ?_) z9 o9
    show H1[ad a]? = some (vp_cell _ _)
    rw [e9, arrV_store]
    simp only [mj_tc, ht, Option.map_some, Option.getD_some]
    rw [vp_cell_i]
    congr 2
    funext q
    by_cases hq : q = i.toNatClampNeg
    · subst hq
      simp [updV, upd, vp_nar]
      try rfl
    · simp [updV, upd, hq]
  have K := kk H1 (locs ++ [⟨ad a, i.toNatClampNeg⟩]) k n L hl hr1 (hS.put z9 o9 hA) h1 h2
  rw [ho] at K
  exact K
theorem mj_so_zald (hx : p.tables.exec = Jvm.exec) (hb : c.code = cc) (hK : va_K D cl tys s) {cA : ClassId} (ht : tys[3]? = some (cA, .boolean)) {a w : Nat} {g : Nat → Int32} {i : Int32} (ha : mj_nth h.1 a = some (.inl (3, w, .inl g))) (hin : vp_in i w) (hd : decode cc (off pc) = .ok (.baload, 1)) (ho : off (pc + 1) = off pc + 1) (kk : mj_J p l e R s m args below meth c D cl tys ad bi z nL off QQ b0 b1 (pc + 1) ls (.int (g i.toNatClampNeg) :: r) h) : mj_J p l e R s m args below meth c D cl tys ad bi z nL off QQ b0 b1 pc ls (.int i :: .ref a :: r) h := by
  intro H locs k n L hl hr hS h1 h2
  have K := kk H locs k n L hl hr hS h1 h2
  rw [ho] at K
  have hlt : i.toNatClampNeg < w := Nat.not_le.mp fun q => hin (Or.inr q)
  have hc := mj_cellA ht hr ha
  rw [vp_cell_i] at hc
  exact W.zald (v := .int (g i.toNatClampNeg)) hx hb hc ((hK.2 3 _ ht).1 w (fun j => .int (g j))) (fun q => by cases q) (by rw [arrV_size]; exact hin) (by rw [arrV_read _ _ hlt]) rfl rfl hd K
theorem mj_so_zast (hx : p.tables.exec = Jvm.exec) (hb : c.code = cc) (hK : va_K D cl tys s) {cA : ClassId} (ht : tys[3]? = some (cA, .boolean)) {a w : Nat} {g : Nat → Int32} {i : Int32} {x : Int32} (ha : mj_nth h.1 a = some (.inl (3, w, .inl g))) (hin : vp_in i w) (hd : decode cc (off pc) = .ok (.bastore, 1)) (ho : off (pc + 1) = off pc + 1) (kk : mj_J p l e R s m args below meth c D cl tys ad bi z nL off QQ b0 b1 (pc + 1) ls r (mj_set h a (.inl (3, w, .inl (upd g i.toNatClampNeg (vp_nar .boolean x)))))) : mj_J p l e R s m args below meth c D cl tys ad bi z nL off QQ b0 b1 pc ls (.int x :: .int i :: .ref a :: r) h := by
  intro H locs k n L hl hr hS h1 h2
  have hc := mj_cellA ht hr ha
  rw [vp_cell_i] at hc
  refine W.zast hx hb hc ((hK.2 3 _ ht).1 w (fun j => .int (g j))) (fun q => by cases q) (by rw [arrV_size]; exact hin) rfl rfl hd fun H1 e9 z9 o9 => ?_
  have hA := mj_in_A hr ha trivial
  have hr1 : mj_rep D cl tys ad bi z (mj_set h a (.inl (3, w, .inl (upd g i.toNatClampNeg (vp_nar .boolean x))))) H1 := by
    refine mj_rep_put hr ha trivial trivial (fun b => ?_) z9 o9
    show H1[ad a]? = some (vp_cell _ _)
    rw [e9, arrV_store]
    simp only [mj_tc, ht, Option.map_some, Option.getD_some]
    rw [vp_cell_i]
    congr 2
    funext q
    by_cases hq : q = i.toNatClampNeg
    · subst hq
      simp [updV, upd, vp_nar]
      try rfl
    · simp [updV, upd, hq]
  have K := kk H1 (locs ++ [⟨ad a, i.toNatClampNeg⟩]) k n L hl hr1 (hS.put z9 o9 hA) h1 h2
  rw [ho] at K
  exact K
theorem mj_so_bald (hx : p.tables.exec = Jvm.exec) (hb : c.code = cc) (hK : va_K D cl tys s) {cA : ClassId} (ht : tys[4]? = some (cA, .byte)) {a w : Nat} {g : Nat → Int32} {i : Int32} (ha : mj_nth h.1 a = some (.inl (4, w, .inl g))) (hin : vp_in i w) (hd : decode cc (off pc) = .ok (.baload, 1)) (ho : off (pc + 1) = off pc + 1) (kk : mj_J p l e R s m args below meth c D cl tys ad bi z nL off QQ b0 b1 (pc + 1) ls (.int (g i.toNatClampNeg) :: r) h) : mj_J p l e R s m args below meth c D cl tys ad bi z nL off QQ b0 b1 pc ls (.int i :: .ref a :: r) h := by
  intro H locs k n L hl hr hS h1 h2
  have K := kk H locs k n L hl hr hS h1 h2
  rw [ho] at K
  have hlt : i.toNatClampNeg < w := Nat.not_le.mp fun q => hin (Or.inr q)
  have hc := mj_cellA ht hr ha
  rw [vp_cell_i] at hc
  exact W.bald (v := .int (g i.toNatClampNeg)) hx hb hc ((hK.2 4 _ ht).1 w (fun j => .int (g j))) (fun q => by cases q) (by rw [arrV_size]; exact hin) (by rw [arrV_read _ _ hlt]) rfl rfl hd K
theorem mj_so_bast (hx : p.tables.exec = Jvm.exec) (hb : c.code = cc) (hK : va_K D cl tys s) {cA : ClassId} (ht : tys[4]? = some (cA, .byte)) {a w : Nat} {g : Nat → Int32} {i : Int32} {x : Int32} (ha : mj_nth h.1 a = some (.inl (4, w, .inl g))) (hin : vp_in i w) (hd : decode cc (off pc) = .ok (.bastore, 1)) (ho : off (pc + 1) = off pc + 1) (kk : mj_J p l e R s m args below meth c D cl tys ad bi z nL off QQ b0 b1 (pc + 1) ls r (mj_set h a (.inl (4, w, .inl (upd g i.toNatClampNeg (vp_nar .byte x)))))) : mj_J p l e R s m args below meth c D cl tys ad bi z nL off QQ b0 b1 pc ls (.int x :: .int i :: .ref a :: r) h := by
  intro H locs k n L hl hr hS h1 h2
  have hc := mj_cellA ht hr ha
  rw [vp_cell_i] at hc
  refine W.bast hx hb hc ((hK.2 4 _ ht).1 w (fun j => .int (g j))) (fun q => by cases q) (by rw [arrV_size]; exact hin) rfl rfl hd fun H1 e9 z9 o9 => ?_
  have hA := mj_in_A hr ha trivial
  have hr1 : mj_rep D cl tys ad bi z (mj_set h a (.inl (4, w, .inl (upd g i.toNatClampNeg (vp_nar .byte x))))) H1 := by
    refine mj_rep_put hr ha trivial trivial (fun b => ?_) z9 o9
    show H1[ad a]? = some (vp_cell _ _)
    rw [e9, arrV_store]
    simp only [mj_tc, ht, Option.map_some, Option.getD_some]
    rw [vp_cell_i]
    congr 2
    funext q
    by_cases hq : q = i.toNatClampNeg
    · subst hq
      simp [updV, upd, vp_nar]
      try rfl
    · simp [updV, upd, hq]
  have K := kk H1 (locs ++ [⟨ad a, i.toNatClampNeg⟩]) k n L hl hr1 (hS.put z9 o9 hA) h1 h2
  rw [ho] at K
  exact K
theorem mj_so_alen (hx : p.tables.exec = Jvm.exec) (hb : c.code = cc) (hK : va_K D cl tys s) {cA : ClassId} {t : Nat} {ty : FieldType} (ht : tys[t]? = some (cA, ty)) {a w : Nat} {y : (Nat → Int32) ⊕ (Nat → Int64) ⊕ (Nat → UInt32) ⊕ (Nat → UInt64) ⊕ (Nat → Option Nat)} (ha : mj_nth h.1 a = some (.inl (t, w, y))) (hd : decode cc (off pc) = .ok (.arraylength, 1)) (ho : off (pc + 1) = off pc + 1) (kk : mj_J p l e R s m args below meth c D cl tys ad bi z nL off QQ b0 b1 (pc + 1) ls (.int (Int32.ofNat w) :: r) h) : mj_J p l e R s m args below meth c D cl tys ad bi z nL off QQ b0 b1 pc ls (.ref a :: r) h := by
  intro H locs k n L hl hr hS h1 h2
  have K := kk H locs k n L hl hr hS h1 h2
  rw [ho] at K
  obtain ⟨⟨b, hP, hD, hB⟩, hs, hvs⟩ := hr
  have he := mj_at (tys := tys) (ad := ad) (bi := bi) (b := b) ha
  simp only [mj_en, mj_tc, ht, Option.map_some, Option.getD_some] at he
  exact va_alen hx hb hK hP a t he ht rfl hd K
theorem mj_so_get (hx : p.tables.exec = Jvm.exec) (hb : c.code = cc) {own : String} (hown : s.vm.findClass own = some m.cls) {TS : List Cond} (hts : ∀ w ∈ TS, w.before args s = true) (hK : va_K D cl tys s) {a ci j idx N : Nat} {C : String} {T : u_T} {fs : List Value} {v : Value} (ha : mj_nth h.1 a = some (.inr (.inl (ci, fs)))) (hc : cl[ci]? = some (C, T, N)) (hj : j < N) (hlink : Jvm.Cond.fieldLink own idx (T j).1 (T j).2.1 (T j).2.2.1 ∈ TS) (hin : ∀ w ∈ u_ws C T N, w ∈ TS) (hv : mj_nth fs j = some v) (hd : decode cc (off pc) = .ok (.getfield idx, 3)) (ho : off (pc + 1) = off pc + 3) (kk : mj_J p l e R s m args below meth c D cl tys ad bi z nL off QQ b0 b1 (pc + 1) ls (v :: r) h) : mj_J p l e R s m args below meth c D cl tys ad bi z nL off QQ b0 b1 pc ls (.ref a :: r) h := by
  intro H locs k n L hl hr hS h1 h2
  have K := kk H locs k n L hl hr hS h1 h2
  rw [ho] at K
  obtain ⟨⟨b, hP, hD, hB⟩, hs, hvs⟩ := hr
  have he := mj_at (tys := tys) (ad := ad) (bi := bi) (b := b) ha
  exact va_get hx hb hts hin hown hK hP a he hc j hj (hts _ hlink) (fun _ h9 => h9) (by rw [List.getElem?_map, ← mj_nth_get, hv]; rfl) hd K
end MJQ
end
section
section MJN
variable {p : Program} {l : Launch} {e : Env} {R : Room} {s : State} {m : MethodId} {args : Array Value} {below : List Frame} {meth : Method} {c : Code}
variable {D : va_G} {cl : List vw_C} {tys : List (ClassId × FieldType)} {ad : Nat → Nat} {bi : Nat} {z : Nat → Prop} {nL : Nat} {off : Nat → Nat} {QQ : State → Prop} {b0 b1 : Nat} {cc : ByteArray} {pc : Nat} {ls : mj_L} {r : List Value} {h : mj_H}
theorem mj_so_put (hx : p.tables.exec = Jvm.exec) (hb : c.code = cc) {own : String} (hown : s.vm.findClass own = some m.cls) {TS : List Cond} (hts : ∀ w ∈ TS, w.before args s = true) (hK : va_K D cl tys s) {a ci j idx N : Nat} {C : String} {T : u_T} {fs : List Value} {v : Value} (ty0 : Nat → FieldType) (hty : ∀ k, k < N → parseFieldDescriptor (T k).2.2.1 = some (ty0 k)) (hnm : ∀ a, a < N → ∀ b, b < N → a ≠ b → (T a).2.1 ≠ (T b).2.1) (ha : mj_nth h.1 a = some (.inr (.inl (ci, fs)))) (hc : cl[ci]? = some (C, T, N)) (hj : j < N) (hlink : Jvm.Cond.fieldLink own idx (T j).1 (T j).2.1 (T j).2.2.1 ∈ TS) (hin : ∀ w ∈ u_ws C T N, w ∈ TS) (hfin : (T j).2.2.2 = false) (hn : narrow (ty0 j) (mj_tr ad v) = mj_tr ad v) (hfit : fits (ty0 j) (mj_tr ad v) = true) (hlen : j < fs.length) (hd : decode cc (off pc) = .ok (.putfield idx, 3)) (ho : off (pc + 1) = off pc + 3) (kk : mj_J p l e R s m args below meth c D cl tys ad bi z nL off QQ b0 b1 (pc + 1) ls r (mj_set h a (.inr (.inl (ci, mj_stn fs j v))))) : mj_J p l e R s m args below meth c D cl tys ad bi z nL off QQ b0 b1 pc ls (v :: .ref a :: r) h := by
  intro H locs k n L hl hr hS h1 h2
  have hA := mj_in_A hr ha trivial
  have hr0 := hr
  obtain ⟨⟨b, hP, hD, hB⟩, hs, hvs⟩ := hr
  have he := mj_at (tys := tys) (ad := ad) (bi := bi) (b := b) ha
  have hap := va_apart (own := own) hts hin ty0 hty hnm hK hc
  obtain ⟨q, g1, cell, q1, q2, q3, q4⟩ := hP a _ he
  have hq : q = (C, T, N) := Option.some.inj (g1.symm.trans hc)
  subst hq
  obtain ⟨hSl, hfc, kC, hkC, hkind⟩ := hK.1 ci _ hc
  obtain ⟨cf, kf, fi, f, hi, hsl⟩ := hSl j hj
  have hlay := hts _ (hin _ (u_in_lay hj))
  have hst := (u_facts hfc hkC (u_lays hts hin hj) hi).1
  unfold u_lay at hlay
  rw [if_neg (by rw [hfin]; decide)] at hlay
  have h6 := u_store hfc hkC hkind hlay hi (hty j hj) hn hfit
  refine W.putK hx hb (f := f) ⟨hown, hts _ hlink, ⟨_, _, _, hi⟩, hst⟩ (by rw [q2]; exact h6) q1 q3 (by rw [hsl]; exact k2_hasslot (q4 j hj)) rfl rfl hd fun H' e1 e2 e3 => ?_
  rw [hsl] at e1 ⊢
  have hr1 : mj_rep D cl tys ad bi z (mj_set h a (.inr (.inl (ci, mj_stn fs j v)))) H' := by
    refine mj_rep_put hr0 ha trivial trivial (fun b => ⟨_, hc, ?_⟩) e2 e3
    refine t_OB.to (V := updV (vp_V (fs.map (mj_tr ad))) j (mj_tr ad v)) ⟨_, e1, q2, q3, t_set q4 hap hj _⟩ (fun i _ => ?_)
    rw [vp_updV_set (by simpa using hlen), mj_stn_set, List.map_set]
  have K := kk H' (locs ++ [⟨ad a, D.2 ci j⟩]) k n L hl hr1 (hS.put e2 e3 hA) h1 h2
  rw [ho] at K
  exact K
theorem mj_so_putF (hx : p.tables.exec = Jvm.exec) (hb : c.code = cc) {own : String} (hown : s.vm.findClass own = some m.cls) {TS : List Cond} (hts : ∀ w ∈ TS, w.before args s = true) (hK : va_K D cl tys s) {a ci j idx N : Nat} {C : String} {T : u_T} {fs : List Value} {v : Value} (ty0 : Nat → FieldType) (hty : ∀ k, k < N → parseFieldDescriptor (T k).2.2.1 = some (ty0 k)) (hnm : ∀ a, a < N → ∀ b, b < N → a ≠ b → (T a).2.1 ≠ (T b).2.1) (ha : mj_nth h.1 a = some (.inr (.inl (ci, fs)))) (hc : cl[ci]? = some (C, T, N)) (hj : j < N) (hlink : Jvm.Cond.fieldLink own idx (T j).1 (T j).2.1 (T j).2.2.1 ∈ TS) (hin : ∀ w ∈ u_ws C T N, w ∈ TS) (hfin : (T j).2.2.2 = true) (hin2 : meth.name = "<init>") (hdecl : (T j).1 = own) (hn : narrow (ty0 j) (mj_tr ad v) = mj_tr ad v) (hfit : fits (ty0 j) (mj_tr ad v) = true) (hlen : j < fs.length) (hd : decode cc (off pc) = .ok (.putfield idx, 3)) (ho : off (pc + 1) = off pc + 3) (kk : mj_J p l e R s m args below meth c D cl tys ad bi z nL off QQ b0 b1 (pc + 1) ls r (mj_set h a (.inr (.inl (ci, mj_stn fs j v))))) : mj_J p l e R s m args below meth c D cl tys ad bi z nL off QQ b0 b1 pc ls (v :: .ref a :: r) h := by
  intro H locs k n L hl hr hS h1 h2
  have hA := mj_in_A hr ha trivial
  have hr0 := hr
  obtain ⟨⟨b, hP, hD, hB⟩, hs, hvs⟩ := hr
  have he := mj_at (tys := tys) (ad := ad) (bi := bi) (b := b) ha
  have hap := va_apart (own := own) hts hin ty0 hty hnm hK hc
  obtain ⟨q, g1, cell, q1, q2, q3, q4⟩ := hP a _ he
  have hq : q = (C, T, N) := Option.some.inj (g1.symm.trans hc)
  subst hq
  obtain ⟨hSl, hfc, kC, hkC, hkind⟩ := hK.1 ci _ hc
  obtain ⟨cf, kf, fi, f, hi, hsl⟩ := hSl j hj
  have hlay := hts _ (hin _ (u_in_lay hj))
  have hst := (u_facts hfc hkC (u_lays hts hin hj) hi).1
  unfold u_lay at hlay
  rw [if_pos hfin] at hlay
  have hcf : m.cls = cf := by
    obtain ⟨_, _, c', _, _, _, -, -, hf', -, -, -, hown2, -⟩ := Cond.laysFinal_spec hlay
    have e1 : c' = cf := by have := hi.symm.trans hf'; simp at this; exact this.1.symm
    rw [hdecl] at hown2
    rw [← e1]
    exact Option.some.inj (hown.symm.trans hown2)
  have h6 := u_fits hfc hkC hkind (Or.inr hlay) hi (hty j hj) hn hfit
  refine W.putFinK hx hb hown (hts _ hlink) hi hst hcf hin2 (by rw [q2]; exact h6) q1 q3 (by rw [hsl]; exact k2_hasslot (q4 j hj)) rfl rfl hd fun H' e1 e2 e3 => ?_
  rw [hsl] at e1 ⊢
  have hr1 : mj_rep D cl tys ad bi z (mj_set h a (.inr (.inl (ci, mj_stn fs j v)))) H' := by
    refine mj_rep_put hr0 ha trivial trivial (fun b => ⟨_, hc, ?_⟩) e2 e3
    refine t_OB.to (V := updV (vp_V (fs.map (mj_tr ad))) j (mj_tr ad v)) ⟨_, e1, q2, q3, t_set q4 hap hj _⟩ (fun i _ => ?_)
    rw [vp_updV_set (by simpa using hlen), mj_stn_set, List.map_set]
  have K := kk H' (locs ++ [⟨ad a, D.2 ci j⟩]) k n L hl hr1 (hS.put e2 e3 hA) h1 h2
  rw [ho] at K
  exact K
theorem mj_bd_app {b : mj_B} {os : List mj_O} {o : mj_O} (h : mj_bd b os) (ho : mj_nb o) : mj_bd b (os ++ [o]) := by
  intro i n f hi
  rw [mj_nth_get] at hi
  have hl : i < os.length := by
    rcases Nat.lt_or_ge i os.length with q | q
    · exact q
    · rw [List.getElem?_append_right q] at hi
      have : i - os.length = 0 := by
        have := (List.getElem?_eq_some_iff.mp hi).1
        simpa using this
      rw [this] at hi
      simp only [List.getElem?_cons_zero, Option.some.injEq] at hi
      subst hi
      exact ho.elim
  rw [List.getElem?_append_left hl] at hi
  obtain ⟨g1, g2⟩ := h i n f (by rw [mj_nth_get]; exact hi)
  refine ⟨?_, g2⟩
  rw [mj_nth_get] at g1 ⊢
  rw [List.getElem?_append_left (List.getElem?_eq_some_iff.mp g1).1]
  exact g1
theorem mj_rep_new {os : List mj_O} {k0 k1 k2 k3 : Nat} {o : mj_O} {H H1 : Heap} (had : True) (hlt : os.length < 999) (hr : mj_rep D cl tys ad bi z (os, k0, k1, true) H) (hn : mj_nb o) (hat : ∀ b, va_at D cl (mj_en tys ad bi b os.length o) H1) (hz : H1.size = H.size + 1) (hq : ∀ q : Nat, q < H.size → H1[q]? = H[q]?) : mj_rep D cl tys ad bi z (os ++ [o], k2, k3, true) H1 ∧ ad os.length = H.size := by
  obtain ⟨⟨b, hP, hD, hB⟩, hs, hvs⟩ := hr
  have hsz : H.size = ad os.length := (hs rfl).1
  have hadd : ad os.length = H.size := hsz.symm
  have e1 : mj_ws tys ad bi b 0 (os ++ [o]) = mj_ws tys ad bi b 0 os ++ [(ad os.length, (mj_en tys ad bi b os.length o).2)] := by
    rw [mj_ws_app, Nat.zero_add]
    congr 2
    exact Prod.ext (mj_en_nb hn) rfl
  refine ⟨⟨⟨b, ?_, ?_, mj_bd_app hB hn⟩, fun _ => ?_, fun q cell hq1 hq2 => ?_, fun q hq9 => hvs.2 q (by omega)⟩, hadd⟩
  · show va_P D cl (mj_ws tys ad bi b 0 (os ++ [o])) H1
    rw [e1]
    refine (hP.kept fun k x hx => hq x.1 (hP k x hx).lt).app (fun k x hx => ?_)
    have hz : k < 1 := (List.getElem?_eq_some_iff.mp hx).1
    rw [show k = 0 by omega] at hx
    cases hx
    have := hat b
    rw [show mj_en tys ad bi b os.length o = (ad os.length, (mj_en tys ad bi b os.length o).2) from Prod.ext (mj_en_nb hn) rfl] at this
    exact this
  · show va_D (mj_A z) (mj_ws tys ad bi b 0 (os ++ [o]))
    rw [e1]
    exact hD.push hP hadd (by show z (ad os.length); rw [hadd]; exact hvs.2 _ (Nat.le_refl _))
  · show mj_nu ad (os ++ [o]).length H1
    have h9 := (hs rfl).2
    rw [List.length_append, List.length_singleton]
    refine ⟨?_, fun i hi => h9 i (Nat.le_trans (Nat.le_succ _) hi)⟩
    rw [hz, hsz]
    exact (h9 os.length (Nat.le_refl _) hlt).symm
  · rcases Nat.lt_or_ge q H.size with g | g
    · rw [hq q g] at hq2
      exact hvs.1 q cell hq1 hq2
    · have hlt2 : q < H1.size := (Array.getElem?_eq_some_iff.mp hq2).1
      have e9 : q = ad os.length := by rw [hadd]; omega
      subst e9
      exact mj_at_vm (hat b) (by rw [mj_en_nb hn]; exact hq2)
theorem mj_so_new (hx : p.tables.exec = Jvm.exec) (hb : c.code = cc) (had : True) {own : String} (hown : s.vm.findClass own = some m.cls) {TS : List Cond} (hts : ∀ w ∈ TS, w.before args s = true) (hK : va_K D cl tys s) (hR : R.cells = b0 ∧ R.slots = b1) {ci idx N : Nat} {C : String} {T : u_T} {fs : List Value} {os : List mj_O} {k0 k1 : Nat} (ty0 : Nat → FieldType) (hty : ∀ k, k < N → parseFieldDescriptor (T k).2.2.1 = some (ty0 k)) (hc : cl[ci]? = some (C, T, N)) (hcl : Jvm.Cond.classLink own idx C ∈ TS) (hins : Jvm.Cond.instantiable C N ∈ TS) (hini : Jvm.Cond.initialized C ∈ TS) (hin : ∀ w ∈ u_ws C T N, w ∈ TS) (hfs : ∀ j, j < N → defaultValue (ty0 j) = vp_V (fs.map (mj_tr ad)) j) (hN : fs.length = N) (hlt : os.length < 999) (hsl : fs.length ≤ k1) (hd : decode cc (off pc) = .ok (.new idx, 3)) (ho : off (pc + 1) = off pc + 3) (kk : mj_J p l e R s m args below meth c D cl tys ad bi z nL off QQ b0 b1 (pc + 1) ls (.ref os.length :: r) (os ++ [.inr (.inl (ci, fs))], k0, k1 - fs.length, true)) : mj_J p l e R s m args below meth c D cl tys ad bi z nL off QQ b0 b1 pc ls r (os, k0 + 1, k1, true) := by
  intro H locs k n L hl hr hS h1 h2
  have h1' : k + (k0 + 1) ≤ b0 := h1
  have h2' : n + k1 ≤ b1 := h2
  have hKn := hK.1 ci _ hc
  refine W.newcK hx hb hown (hts _ hcl) (hts _ hins) (hts _ hini) rfl hd (by rw [hR.1]; omega) (by rw [hR.2]; omega) hKn.2.1 rfl fun H1 kC hkC e1 z1 o1 => ?_
  obtain ⟨hr1, hadd⟩ := mj_rep_new (o := .inr (.inl (ci, fs))) (k2 := k0) (k3 := k1 - fs.length) had hlt hr trivial (fun b => ⟨_, hc, by
    have := (u_born ty0 hts hin hKn hkC e1 hty).to hfs
    have hsz : H.size = ad os.length := (hr.2.1 rfl).1
    show t_OB (ad os.length) (D.1 ci) N (D.2 ci) H1 (vp_V (fs.map (mj_tr ad)))
    rw [← hsz]
    exact this⟩) z1 o1
  have K := kk H1 locs (k + 1) (n + N) L hl hr1 ⟨Nat.le_trans hS.1 (by omega), fun x g1 g2 => (o1 x (Nat.lt_of_lt_of_le g1 hS.1)).trans (hS.2.1 x g1 g2), hS.2.2⟩ (by show k + 1 + k0 ≤ b0; omega) (by show n + N + (k1 - fs.length) ≤ b1; omega)
  rw [ho] at K
  simp only [List.map_cons, mj_tr, hadd] at K
  exact K
theorem mj_so_newa (hx : p.tables.exec = Jvm.exec) (hb : c.code = cc) (had : True) (hK : va_K D cl tys s) (hR : R.cells = b0 ∧ R.slots = b1) {TS : List Cond} (hts : ∀ w ∈ TS, w.before args s = true) {at_ : ArrayType} {t : Nat} {cA : ClassId} {ty : FieldType} (hty : newarray.typeOf at_ = ty) (harr : Jvm.Cond.arrayClass ty ∈ TS) (ht : tys[t]? = some (cA, ty)) (hpr : va_RA s cA ty = (s.vm.findClass ("[" ++ ty.toString) = some cA)) {w : Int32} {a0 : vp_A} {os : List mj_O} {k0 k1 : Nat} (ha : ∀ cA : ClassId, vp_cell cA a0 = arrV cA w.toNatClampNeg (fun _ => defaultValue ty)) (hn : ¬ w < 0) (hw : w.toNatClampNeg ≤ 2000) (hcb : componentBytes ty ≤ 8) (hlt : os.length < 999) (hsl : w.toNatClampNeg ≤ k1) (hd : decode cc (off pc) = .ok (.newarray at_, 2)) (ho : off (pc + 1) = off pc + 2) (kk : mj_J p l e R s m args below meth c D cl tys ad bi z nL off QQ b0 b1 (pc + 1) ls (.ref os.length :: r) (os ++ [.inl (t, a0)], k0, k1 - w.toNatClampNeg, true)) : mj_J p l e R s m args below meth c D cl tys ad bi z nL off QQ b0 b1 pc ls (.int w :: r) (os, k0 + 1, k1, true) := by
  intro H locs k n L hl hr hS h1 h2
  have h1' : k + (k0 + 1) ≤ b0 := h1
  have h2' : n + k1 ≤ b1 := h2
  subst hty
  have hbytes : w.toNatClampNeg * componentBytes (newarray.typeOf at_) ≤ 536870912 := by
    have := Nat.mul_le_mul hw hcb
    omega
  refine va_newaK hx hb (hts _ harr) rfl hd rfl hn rfl hbytes (by rw [hR.1]; omega) (by rw [hR.2]; omega) rfl fun H1 cB e1 z1 o1 hAr hNm => ?_
  have hcc : cB = cA := by
    have h3 := (hK.2 t _ ht).2
    rw [hpr] at h3
    exact Option.some.inj (hNm.symm.trans h3)
  subst hcc
  have hsz : H.size = ad os.length := (hr.2.1 rfl).1
  obtain ⟨hr1, hadd⟩ := mj_rep_new (o := .inl (t, a0)) (k2 := k0) (k3 := k1 - w.toNatClampNeg) had hlt hr trivial (fun b => by
    show H1[ad os.length]? = some (vp_cell (mj_tc tys t) a0)
    simp only [mj_tc, ht, Option.map_some, Option.getD_some]
    rw [ha, ← hsz]
    exact e1) z1 o1
  have K := kk H1 locs (k + 1) (n + w.toNatClampNeg) L hl hr1 ⟨Nat.le_trans hS.1 (by omega), fun x g1 g2 => (o1 x (Nat.lt_of_lt_of_le g1 hS.1)).trans (hS.2.1 x g1 g2), hS.2.2⟩ (by show k + 1 + k0 ≤ b0; omega) (by show n + w.toNatClampNeg + (k1 - w.toNatClampNeg) ≤ b1; omega)
  rw [ho] at K
  simp only [List.map_cons, mj_tr, hadd] at K
  exact K
theorem mj_so_cald0 (hx : p.tables.exec = Jvm.exec) (hb : c.code = cc) {a w : Nat} {g : Nat → Int32} {i : Int32} (hT : va_T .int (ad a) w (fun j => .int (g j)) (mj_A z) s s.heap) (hin : vp_in i w) (hd : decode cc (off pc) = .ok (.iaload, 1)) (ho : off (pc + 1) = off pc + 1) (kk : mj_J p l e R s m args below meth c D cl tys ad bi z nL off QQ b0 b1 (pc + 1) ls (.int (g i.toNatClampNeg) :: r) h) : mj_J p l e R s m args below meth c D cl tys ad bi z nL off QQ b0 b1 pc ls (.int i :: .ref a :: r) h := by
  intro H locs k n L hl hr hS h1 h2
  have K := kk H locs k n L hl hr hS h1 h2
  rw [ho] at K
  exact va_ti hx hb hT hS hin rfl hd K
theorem mj_so_cbld (hx : p.tables.exec = Jvm.exec) (hb : c.code = cc) {a w : Nat} {g : Nat → Int32} {i : Int32} (hT : va_T .byte (ad a) w (fun j => .int (g j)) (mj_A z) s s.heap) (hin : vp_in i w) (hd : decode cc (off pc) = .ok (.baload, 1)) (ho : off (pc + 1) = off pc + 1) (kk : mj_J p l e R s m args below meth c D cl tys ad bi z nL off QQ b0 b1 (pc + 1) ls (.int (g i.toNatClampNeg) :: r) h) : mj_J p l e R s m args below meth c D cl tys ad bi z nL off QQ b0 b1 pc ls (.int i :: .ref a :: r) h := by
  intro H locs k n L hl hr hS h1 h2
  have K := kk H locs k n L hl hr hS h1 h2
  rw [ho] at K
  exact va_tb hx hb hT hS hin rfl hd K
theorem mj_so_clen0 (hx : p.tables.exec = Jvm.exec) (hb : c.code = cc) {a w : Nat} {g : Nat → Int32} {ty : FieldType} (hT : va_T ty (ad a) w (fun j => .int (g j)) (mj_A z) s s.heap) (hd : decode cc (off pc) = .ok (.arraylength, 1)) (ho : off (pc + 1) = off pc + 1) (kk : mj_J p l e R s m args below meth c D cl tys ad bi z nL off QQ b0 b1 (pc + 1) ls (.int (Int32.ofNat w) :: r) h) : mj_J p l e R s m args below meth c D cl tys ad bi z nL off QQ b0 b1 pc ls (.ref a :: r) h := by
  intro H locs k n L hl hr hS h1 h2
  have K := kk H locs k n L hl hr hS h1 h2
  rw [ho] at K
  exact va_tlen hx hb hT hS rfl hd K
theorem mj_so_obj (hx : p.tables.exec = Jvm.exec) (hb : c.code = cc) {own : String} (hown : s.vm.findClass own = some m.cls) {TS : List Cond} (hts : ∀ w ∈ TS, w.before args s = true) (hml : c.maxLocals = nL) {idx : Nat} {a : Nat} (h1 : Jvm.Cond.methodLink own idx objectInit ∈ TS) (h2 : Jvm.Cond.instanceMethod objectInit ∈ TS) (h3 : Jvm.Cond.code objectInit ⟨#[0xb1]⟩ 1 none ∈ TS) (hf : 1 ≤ R.frames) (hw : mj_wt r + 12 ≤ R.locals) (hd : decode cc (off pc) = .ok (.invokespecial idx, 3)) (ho : off (pc + 1) = off pc + 3) (kk : mj_J p l e R s m args below meth c D cl tys ad bi z nL off QQ b0 b1 (pc + 1) ls r h) : mj_J p l e R s m args below meth c D cl tys ad bi z nL off QQ b0 b1 pc ls (.ref a :: r) h := by
  intro H locs k n L hl hr hS g1 g2
  have K := kk H locs k n L hl hr hS g1 g2
  rw [ho] at K
  refine W.objInit hx hb hown (hts _ h1) (hts _ h2) (hts _ h3) rfl (by rw [hml]; exact hl.1) rfl hd hf ?_ K
  have := mj_wt_tr ad r
  unfold mj_wt at this hw
  show 2 * 0 + _ + 12 ≤ R.locals
  rw [this]
  omega
end MJN
end
section
section MJC
variable {p : Program} {l : Launch} {e : Env} {R : Room} {s : State} {m : MethodId} {args : Array Value} {below : List Frame} {meth : Method} {c : Code}
def mj_cd (y : MethodName) (bytes : ByteArray) (maxL : Nat) (ret : Option FieldType) (hh : List (Nat × Nat × Nat × Nat)) : Cond := if hh = [] then .code y bytes maxL ret else .codeWith y bytes maxL ret hh
theorem mj_cd_or {y : MethodName} {bytes : ByteArray} {maxL : Nat} {ret : Option FieldType} {hh : List (Nat × Nat × Nat × Nat)} {a : Array Value} {U : State} (h : (mj_cd y bytes maxL ret hh).before a U = true) : (Cond.code y bytes maxL ret).before a U = true ∨ (Cond.codeWith y bytes maxL ret hh).before a U = true := by
  unfold mj_cd at h
  split at h
  · exact Or.inl h
  · exact Or.inr h
theorem mj_sig {y : MethodName} {bytes : ByteArray} {maxL : Nat} {ret : Option FieldType} {hh : List (Nat × Nat × Nat × Nat)} {a : Array Value} {U : State} {mk : MethodId} (hn : U.methodNamed? y = some mk) (h : (mj_cd y bytes maxL ret hh).before a U = true) : ∃ methM, U.vm.method? mk = some methM ∧ parseMethodDescriptor y.desc = some methM.sig := by
  rcases mj_cd_or h with h | h
  · obtain ⟨methM, cM, h1, -, -, -, -, -, -, h2⟩ := Cond.code_spec hn h
    exact ⟨methM, h1, h2⟩
  · obtain ⟨m9, methM, cM, hn9, h1, -, -, -, -, -, -, h2⟩ := Cond.codeWith_spec h
    cases hn.symm.trans hn9
    exact ⟨methM, h1, h2⟩
theorem mj_named {y : MethodName} {bytes : ByteArray} {maxL : Nat} {ret : Option FieldType} {hh : List (Nat × Nat × Nat × Nat)} {a : Array Value} {U : State} (h : (mj_cd y bytes maxL ret hh).before a U = true) : ∃ mk, U.methodNamed? y = some mk := by
  rcases mj_cd_or h with h | h
  · exact Cond.code_named h
  · obtain ⟨m9, methM, cM, hn9, -⟩ := Cond.codeWith_spec h
    exact ⟨m9, hn9⟩
def mj_Inv (p : Program) (l : Launch) (e : Env) (R : Room) (s : State) (m : MethodId) (args : Array Value) (below : List Frame) (meth : Method) (c : Code) (T : State) (locs : List Loc) (k n : Nat) (g : JFrame) (rest : List Value) (y : MethodName) (a : Array Value) : Prop :=
  ∃ (vm₁ : Vm) (mk : MethodId), s.WarmedH vm₁ ∧ Stand p l e R s m args below meth c (T.setVm vm₁) locs k n ∧ (T.setVm vm₁).methodNamed? y = some mk ∧
    ∀ target, Steps p.tables e below (doInvoke e ((T.setVm vm₁).setTop { g with stack := rest }) [] mk a).1 target → Steps p.tables e below (T.setTop g) target
variable {T : State} {locs : List Loc} {k n : Nat}
theorem mj_invS (X : Stand p l e R s m args below meth c T locs k n) (hexec : p.tables.exec = Jvm.exec) {own : String} {index maxL : Nat} {y : MethodName} {bytes : ByteArray} {ret : Option FieldType} {hh : List (Nat × Nat × Nat × Nat)}
    (hown : s.vm.findClass own = some m.cls) (hlink : (Cond.methodLink own index y).before args s = true) (hstat : (Cond.static y).before args s = true) (hinit : (Cond.initialized y.cls).before args s = true) (hcode : (mj_cd y bytes maxL ret hh).before args s = true) (hy : y.cls ≠ "java/lang/invoke/MethodHandle" ∧ y.cls ≠ "java/lang/invoke/VarHandle")
    {g : JFrame} (hg : g.method = m) {As rest : List Value} (hlen : (parseMethodDescriptor y.desc).map (fun d => d.parameters.length) = some As.length) (hstack : g.stack = As.reverse ++ rest) (hdg : decode c.code g.pc = .ok (.invokestatic index, 3)) : mj_Inv p l e R s m args below meth c T locs k n g rest y As.toArray := by
  obtain ⟨mk, hnamed⟩ := mj_named hcode
  obtain ⟨methM, hmethM, hsigM⟩ := mj_sig hnamed hcode
  have hstatic : methM.isStatic = true := Cond.static_spec hnamed hmethM hstat
  obtain ⟨kP, hkP, -⟩ := className_of_methodNamed hnamed
  have hinitP : kP.init = .initialized := Cond.initialized_spec (findClass_of_methodNamed hnamed) hkP hinit
  have hl : As.length = methM.sig.parameters.length := by rw [hsigM] at hlen; exact (Option.some.inj hlen).symm
  obtain ⟨vm₁, X₁, hstep₁⟩ := X.invokestatic hexec hown hlink hnamed hmethM hstatic hkP hinitP hy (g := g) hg (argsL := As) (rest := rest) hl hstack hdg
  exact ⟨vm₁, mk, X₁.warmed, X₁, X₁.named hnamed, fun target h => hstep₁ _ fun acts => by rw [doInvoke_state]; exact h⟩
theorem mj_invV (X : Stand p l e R s m args below meth c T locs k n) (hexec : p.tables.exec = Jvm.exec) {own C : String} {index maxL : Nat} {y : MethodName} {bytes : ByteArray} {ret : Option FieldType} {hh : List (Nat × Nat × Nat × Nat)}
    (hown : s.vm.findClass own = some m.cls) (hlink : (Cond.methodLink own index y).before args s = true) (hinst : (Cond.instanceMethod y).before args s = true) (hsel : (Cond.selects C y y).before args s = true) (hcode : (mj_cd y bytes maxL ret hh).before args s = true) (hy : y.cls ≠ "java/lang/invoke/MethodHandle" ∧ y.cls ≠ "java/lang/invoke/VarHandle")
    {b : Addr} {cellB : Cell} (hcell : T.heap[b]? = some cellB) (hobj : cellB.vm.isStatics = false) (hcls : s.vm.findClass C = some cellB.cls)
    {g : JFrame} (hg : g.method = m) {As rest : List Value} (hlen : (parseMethodDescriptor y.desc).map (fun d => d.parameters.length) = some As.length) (hstack : g.stack = As.reverse ++ .ref b :: rest) (hdg : decode c.code g.pc = .ok (.invokevirtual index, 3)) : mj_Inv p l e R s m args below meth c T locs k n g rest y (Value.ref b :: As).toArray := by
  obtain ⟨mk, methM, hnamed, hmethM, hstM, habM⟩ := Cond.instanceMethod_spec hinst
  obtain ⟨methM', hmethM', hsigM⟩ := mj_sig hnamed hcode
  cases hmethM.symm.trans hmethM'
  obtain ⟨c2, r2, m2, q1, q2, q3, q4, kP, hkP, hkPi⟩ := Cond.selects_spec hsel
  cases hcls.symm.trans q1
  cases (State.methodFound?_of_named hnamed hy).symm.trans q2
  cases hnamed.symm.trans q3
  have hselP : selectMethod e.platform s.vm cellB.cls mk = .method mk := by rw [Launch.admits_selectMethod X.admits]; exact q4
  have hl : As.length = methM.sig.parameters.length := by rw [hsigM] at hlen; exact (Option.some.inj hlen).symm
  obtain ⟨vm₁, X₁, hstep₁⟩ := X.invokevirtual hexec hown hlink hnamed hmethM hstM hkP hkPi hy (a := b) (cell := cellB) hcell
    (fun z h => by rw [h] at hobj; cases hobj) hselP hmethM habM hkP hkPi (g := g) hg (argsL := As) (rest := rest) hl hstack hdg
  exact ⟨vm₁, mk, X₁.warmed, X₁, X₁.named hnamed, fun target h => hstep₁ _ fun acts => by rw [doInvoke_state]; exact h⟩
theorem mj_invI (X : Stand p l e R s m args below meth c T locs k n) (hexec : p.tables.exec = Jvm.exec) {own : String} {index maxL : Nat} {y : MethodName} {bytes : ByteArray}
    (hown : s.vm.findClass own = some m.cls) (hy1 : y.name = "<init>") (hlink : (Cond.methodLink own index y).before args s = true) (hinst : (Cond.instanceMethod y).before args s = true) (hcode : (Cond.code y bytes maxL none).before args s = true) (hy : y.cls ≠ "java/lang/invoke/MethodHandle" ∧ y.cls ≠ "java/lang/invoke/VarHandle")
    {g : JFrame} (hg : g.method = m) {b : Addr} {As rest : List Value} (hlen : (parseMethodDescriptor y.desc).map (fun d => d.parameters.length) = some As.length) (hstack : g.stack = As.reverse ++ .ref b :: rest) (hdg : decode c.code g.pc = .ok (.invokespecial index, 3)) : mj_Inv p l e R s m args below meth c T locs k n g rest y (Value.ref b :: As).toArray := by
  subst hg
  have hpl : e.platform.magicAccessors = ({} : Platform).magicAccessors := by rw [X.admits.platform]
  obtain ⟨mk, methM, cM, kP, vm₁, hnamed, hmethM, hcodeM, -, hlocalsM, -, hkP, -, hW₁, hstep₁⟩ := Steps.initColdArgs (e := e) X.here hexec X.warmed hpl hown hy1 hy hlink hinst hcode (f := g) rfl (fun sig h => by rw [h] at hlen; exact (Option.some.inj hlen).symm) hstack hdg
  have X₁ := X.noted hW₁
  exact ⟨vm₁, mk, X₁.warmed, X₁, X₁.named hnamed, fun target h => hstep₁ _ fun acts => by rw [doInvoke_state]; exact h⟩
theorem mj_invU (X : Stand p l e R s m args below meth c T locs k n) (hexec : p.tables.exec = Jvm.exec) {own : String} {index maxL : Nat} {y : MethodName} {bytes : ByteArray} {ret : Option FieldType} {hh : List (Nat × Nat × Nat × Nat)}
    (hown : s.vm.findClass own = some m.cls) (hlink : (Cond.methodLink own index y).before args s = true) (hsame : (Cond.sameMethod y.cls y.cls y.name y.desc).before args s = true) (hsup : (Cond.superclass own y.cls).before args s = true) (hinst : (Cond.instanceMethod y).before args s = true) (hcode : (mj_cd y bytes maxL ret hh).before args s = true) (hno : y.name ≠ "<init>")
    {b : Addr} {cellB : Cell} {kB : Class} (hcell : T.heap[b]? = some cellB) (hobj : cellB.vm.isStatics = false) (hkB : s.vm.classes[cellB.cls]? = some kB)
    {g : JFrame} (hg : g.method = m) {As rest : List Value} (hlen : (parseMethodDescriptor y.desc).map (fun d => d.parameters.length) = some As.length) (hstack : g.stack = As.reverse ++ .ref b :: rest) (hdg : decode c.code g.pc = .ok (.invokespecial index, 3)) : mj_Inv p l e R s m args below meth c T locs k n g rest y (Value.ref b :: As).toArray := by
  obtain ⟨mk, methM, hnamed, hmethM, hstM, habM⟩ := Cond.instanceMethod_spec hinst
  obtain ⟨methM', hmethM', hsigM⟩ := mj_sig hnamed hcode
  cases hmethM.symm.trans hmethM'
  have hl : As.length = methM.sig.parameters.length := by rw [hsigM] at hlen; exact (Option.some.inj hlen).symm
  obtain ⟨ps, dk, kp, hps, hdk, hkp, hsuper, -, -, hnid⟩ := Cond.superclass_spec hown hsup
  have hpm : ps = mk.cls := Option.some.inj (hps.symm.trans (findClass_of_methodNamed hnamed))
  have hsub : s.vm.isSubclass ps mk.cls = true := by rw [hpm]; simp [Vm.isSubclass, Vm.isSubclassAux]
  obtain ⟨vm₁, X₁, hstep₁⟩ := X.invokespecialUp hexec hown hlink hsame (show s.methodNamed? ⟨y.cls, y.name, y.desc⟩ = some mk from hnamed) hmethM hstM habM hno hdk hnid hps hsuper hsub (a := b) (cell := cellB) hcell
    (fun z h => by rw [h] at hobj; cases hobj) hkB (g := g) hg (argsL := As) (rest := rest) hl hstack hdg
  exact ⟨vm₁, mk, X₁.warmed, X₁, X₁.named hnamed, fun target h => hstep₁ _ (by rw [doInvoke_state]; exact h)⟩
end MJC
end
section
section MJH
theorem mj_fh {Q : Handler → Pre} {E : CtlPost} {e : Env} {d : Bool} {acts : List Action} {s : State} {f : JFrame} {a : Addr} {x : ExceptionTableEntry} {t : List ExceptionTableEntry} {cT : ClassId} {cell : Cell} (hx : covers x f.pc = true) (h0 : x.catchType ≠ 0)
    (hl : s.vm.ClassLinks e.platform f.method.cls x.catchType cT) (hcell : s.heap[a]? = some cell) (hobj : ∀ k, cell.vm ≠ .statics k)
    (hk : ∃ k, s.vm.classes[cell.cls]? = some k) (hc : ∃ k, s.vm.classes[cT]? = some k) :
    wp (findHandler.go f a (x :: t)) Q E e d acts s ↔ (if s.vm.assignable cell.cls cT = true then Q (.found x.handlerPc) d acts (s.setVm (s.vm.noted f.method.cls x.catchType (.cls cT))) else wp (findHandler.go f a t) Q E e d acts (s.setVm (s.vm.noted f.method.cls x.catchType (.cls cT)))) := by
  have hal : s.vm.Alike (s.vm.noted f.method.cls x.catchType (.cls cT)) := (Vm.Alike.refl s.vm).noted _ _ _
  obtain ⟨ha, ht⟩ := (resolveClass_links e.toSetting hl).op (op := VmOp.resolveClass f.method.cls x.catchType) rfl
  obtain ⟨u, hu⟩ := hk
  obtain ⟨v, hv⟩ := hc
  obtain ⟨u', hu', -⟩ := hal.2.2 _ _ hu
  obtain ⟨v', hv', -⟩ := hal.2.2 _ _ hv
  have e1 : (s.vm.noted f.method.cls x.catchType (.cls cT)).assignable cell.cls cT = s.vm.assignable cell.cls cT := hal.assignable ..
  simp only [covers] at hx
  by_cases hf : s.vm.assignable cell.cls cT = true
  · rw [if_pos hf]
    simp [findHandler.go, hx, h0, ha, ht, hcell, hobj, hu', hv', e1, hf, VmOp.dirties, VmOp.acts]
  · rw [if_neg hf]
    have hf' : s.vm.assignable cell.cls cT = false := by simpa using hf
    simp [findHandler.go, hx, h0, ha, ht, hcell, hobj, hu', hv', e1, hf', VmOp.dirties, VmOp.acts]
def mj_pass (pl : Platform) (s : State) (d : ClassId) (pc : Nat) (th : ClassId) (y : ExceptionTableEntry) : Prop := covers y pc = false ∨ (y.catchType ≠ 0 ∧ ∃ cT, s.vm.ClassLinks pl d y.catchType cT ∧ s.vm.assignable th cT = false)
theorem mj_search {e : Env} {s : State} {f : JFrame} {a : Addr} {cell : Cell} (hobj : ∀ k, cell.vm ≠ .statics k) (hk0 : ∃ k, s.vm.classes[cell.cls]? = some k) {x : ExceptionTableEntry} {rest : List ExceptionTableEntry} {cT : ClassId} (hx : covers x f.pc = true) (h0 : x.catchType ≠ 0) (hl : s.vm.ClassLinks e.platform f.method.cls x.catchType cT) (hfit : s.vm.assignable cell.cls cT = true) (pre : List ExceptionTableEntry) :
    ∀ S : State, s.WarmedH S.vm → S.heap[a]? = some cell → (∀ y ∈ pre, mj_pass e.platform s f.method.cls f.pc cell.cls y) → ∃ vm', s.WarmedH vm' ∧ ∀ (Q : Handler → Pre) (E : CtlPost) (d : Bool) (acts : List Action), wp (findHandler.go f a (pre ++ x :: rest)) Q E e d acts S ↔ Q (.found x.handlerPc) d acts (S.setVm vm') := by
  obtain ⟨k0, hk0⟩ := hk0
  induction pre with
  | nil =>
    intro S hW hcell _
    obtain ⟨k1, hk1, -⟩ := hW.alike.2.2 _ _ hk0
    obtain ⟨dk, _, _, kt, hd, _, _, _, _, hkt, _, hopen⟩ := hl.here
    obtain ⟨k2, hk2, -⟩ := hW.alike.2.2 _ _ hkt
    refine ⟨_, hW.noted hd hopen (State.rightAt_cls hl), fun Q E d acts => ?_⟩
    rw [List.nil_append, mj_fh hx h0 (hW.classLinks hl) hcell hobj ⟨k1, hk1⟩ ⟨k2, hk2⟩, if_pos (by rw [hW.alike.assignable]; exact hfit)]
  | cons y ys ih =>
    intro S hW hcell hp
    have hp' : ∀ z ∈ ys, mj_pass e.platform s f.method.cls f.pc cell.cls z := fun z hz => hp z (List.mem_cons_of_mem _ hz)
    rcases hp y List.mem_cons_self with h | ⟨g0, cY, gl, gno⟩
    · obtain ⟨vm', h1, h2⟩ := ih S hW hcell hp'
      exact ⟨vm', h1, fun Q E d acts => by rw [List.cons_append, W.findHandler_go_skip h]; exact h2 Q E d acts⟩
    · by_cases hcov : covers y f.pc = true
      · obtain ⟨k1, hk1, -⟩ := hW.alike.2.2 _ _ hk0
        obtain ⟨dk, _, _, kt, hd, _, _, _, _, hkt, _, hopen⟩ := gl.here
        obtain ⟨k2, hk2, -⟩ := hW.alike.2.2 _ _ hkt
        obtain ⟨vm', h1, h2⟩ := ih (S.setVm (S.vm.noted f.method.cls y.catchType (.cls cY))) (hW.noted hd hopen (State.rightAt_cls gl)) hcell hp'
        refine ⟨vm', h1, fun Q E d acts => ?_⟩
        rw [List.cons_append, mj_fh hcov g0 (hW.classLinks gl) hcell hobj ⟨k1, hk1⟩ ⟨k2, hk2⟩, if_neg (by rw [hW.alike.assignable, gno]; decide)]
        exact h2 Q E d acts
      · obtain ⟨vm', h1, h2⟩ := ih S hW hcell hp'
        exact ⟨vm', h1, fun Q E d acts => by rw [List.cons_append, W.findHandler_go_skip (by simpa using hcov)]; exact h2 Q E d acts⟩
variable {p : Program} {l : Launch} {e : Env} {R : Room} {s : State} {m : MethodId} {args : Array Value} {below : List Frame} {meth : Method} {c : Code} {T : State} {locs : List Loc} {k n : Nat}
theorem mj_caught (X : Stand p l e R s m args below meth c T locs k n) (a : Addr) {g : JFrame} (hg : g.method = m) {cell : Cell} (hcell : T.heap[a]? = some cell) (hobj : ∀ k, cell.vm ≠ .statics k) (hk0 : ∃ k, s.vm.classes[cell.cls]? = some k) (pre : List ExceptionTableEntry) (x : ExceptionTableEntry) (rest : List ExceptionTableEntry) (hsplit : c.exceptionTable.toList = pre ++ x :: rest) (hpass : ∀ y ∈ pre, mj_pass e.platform s m.cls g.pc cell.cls y) (hx : covers x g.pc = true) (h0 : x.catchType ≠ 0) {cT : ClassId} (hl : s.vm.ClassLinks e.platform m.cls x.catchType cT) (hfit : s.vm.assignable cell.cls cT = true) :
    ∃ vm', s.WarmedH vm' ∧ Stand p l e R s m args below meth c (T.setVm vm') locs k n ∧ ∀ target, Steps p.tables e below ((T.setVm vm').setTop { g with pc := x.handlerPc, stack := [.ref a] }) target → Steps p.tables e below ((T.setTop g).pushFrame (.throwing a)) target := by
  subst hg
  obtain ⟨vm', hW', hq⟩ := mj_search (e := e) (f := g) (a := a) hobj hk0 (rest := rest) hx h0 hl hfit pre ((T.setTop g).pushFrame (.throwing a)) X.warmed hcell hpass
  refine ⟨vm', hW', X.noted hW', fun target hrest => ?_⟩
  obtain ⟨hgo, hw⟩ := X.here.throwing a
  refine Steps.head hgo hw ?_
  obtain ⟨g₀, hg0⟩ := Option.isSome_iff_exists.mp X.here.top
  obtain ⟨r, hr⟩ := State.topJava?_eq_some.mp hg0
  have hr' : (T.setVm vm').frames = .java g₀ :: r := hr
  rw [stepThread_throwing (frames_entered X.here.top _)]
  have hs : (stepThrowing e ((T.setTop g).pushFrame (.throwing a)) a (.java g :: T.frames.tail)).1 = (((T.setTop g).pushFrame (.throwing a)).setVm vm').setFrames (.java { g with pc := x.handlerPc, stack := [.ref a] } :: T.frames.tail) := by
    simp only [stepThrowing, searchFrame, vmDo]
    generalize hres : Sem.go _ e false [] _ = res
    obtain ⟨as, rfl, -⟩ := Sem.eq_ok_of hres (a := Handler.found x.handlerPc) (s' := ((T.setTop g).pushFrame (.throwing a)).setVm vm') (acts' := []) (by
      have h9 := fun (Q : Handler → Pre) (E : CtlPost) (d : Bool) (acts : List Action) => (show wp (findHandler g a) Q E e d acts ((T.setTop g).pushFrame (.throwing a)) ↔ Q (.found x.handlerPc) d acts (((T.setTop g).pushFrame (.throwing a)).setVm vm') from by
        rw [W.findHandler_eq (s := (T.setTop g).pushFrame (.throwing a)) (f := g) X.method' X.code, hsplit]; exact hq Q E d acts)
      simp [h9])
    rfl
  rw [hs, hr, List.tail_cons]
  rw [State.setTop_of_frames _ hr'] at hrest
  have e1 : ∀ (F G : List Frame), ((T.setFrames F).setVm vm').setFrames G = (T.setVm vm').setFrames G := fun F G => by
    rw [show (T.setFrames F).setVm vm' = (T.setVm vm').setFrames F from rfl, State.setFrames_setFrames]
  rw [State.pushFrame, State.setTop_of_frames _ hr, State.setFrames_setFrames, e1]
  exact hrest
end MJH
end
section
def mj_xo (xn : Nat → String) (q : Nat) (x : Addr) (t : State) : Prop := ∃ cell : Cell, t.heap[x]? = some cell ∧ (∀ k, cell.vm ≠ .statics k) ∧ t.vm.findClass (xn q) = some cell.cls ∧ ∃ k, t.vm.classes[cell.cls]? = some k
theorem mj_xo.moved {xn : Nat → String} {q : Nat} {x : Addr} {t u : State} (h : mj_xo xn q x t) (hh : u.heap = t.heap) (hv : u.vm = t.vm) : mj_xo xn q x u := by
  obtain ⟨cell, h1, h2, h3, h4⟩ := h
  exact ⟨cell, by rw [hh]; exact h1, h2, by rw [hv]; exact h3, by rw [hv]; exact h4⟩
def mj_out (ad : Nat → Nat) (xn : Nat → String) (r : Option Value ⊕ Nat) (o : Outcome) (t : State) : Prop := match r with
  | .inl v => o = .returned (v.map (mj_tr ad))
  | .inr q => ∃ x : Addr, o = .threw x ∧ mj_xo xn q x t
def mj_sr (C n d : String) (z : Nat → Prop) (U : State) : Prop := ∃ (cf : ClassId) (kf : Class) (fi : Nat) (f : Field) (a : Nat) (cell : Cell) (v : Value), U.vm.findClass C = some cf ∧ U.fieldFound? C n d = some (cf, kf, fi, f) ∧ f.isStatic = true ∧ kf.statics = some a ∧ U.heap[a]? = some cell ∧ cell.vm.isStatics = true ∧ cell.cls = cf ∧ f.slot < cell.slots.size ∧ kf.staticTypes[f.slot]? = some f.type ∧ cell.slots[f.slot]? = some v ∧ v.isRef = true ∧ ¬ z a
theorem mj_sr.go {C n d : String} {z : Nat → Prop} {s U : State} (h : mj_sr C n d z s) (hv : s.vm.Alike U.vm) (hq : ∀ q, ¬ z q → U.heap[q]? = s.heap[q]?) : mj_sr C n d z U := by
  obtain ⟨cf, kf, fi, f, a, cell, v, h1, h2, h3, h4, h5, h6, h7, h8, h9, h10, h11, h12⟩ := h
  obtain ⟨k', hi', he⟩ := State.fieldFound?_setVm hv h2
  exact ⟨cf, k', fi, f, a, cell, v, by rw [hv.findClass]; exact h1, hi', h3, by rw [he]; exact h4, by rw [hq a h12]; exact h5, h6, h7, h8, by rw [he]; exact h9, h10, h11, h12⟩
theorem mj_sr.lays {C n d : String} {z : Nat → Prop} {U : State} (h : mj_sr C n d z U) (A : Array Value) : (Cond.laysStatic C n d).before A U = true := by
  obtain ⟨cf, kf, fi, f, a, cell, v, h1, h2, h3, h4, h5, h6, h7, h8, h9, h10, h11, h12⟩ := h
  simp [Cond.before, Cond.holds, Cond.value, h1, h2, h3, h4, h5, h6, h7, h8, h9]
theorem mj_sr.isRef {C n d : String} {z : Nat → Prop} {U : State} (h : mj_sr C n d z U) (A : Array Value) : (Cond.isRef (.static C n d)).before A U = true := by
  obtain ⟨cf, kf, fi, f, a, cell, v, h1, h2, h3, h4, h5, h6, h7, h8, h9, h10, h11, h12⟩ := h
  have he : (Term.static C n d).eval A U none [] U = some v := by
    simp [Term.eval, State.fieldNamed?, h2, h3, h4, h5, h6, h10]
  cases v <;> simp [Cond.before, Cond.holds, Cond.value, he] <;> simp [Value.isRef] at h11
abbrev mj_K : Type := List (String × String) × List (String × String) × List (String × String × String) × List (String × Nat × String × Nat) × List (String × String × String × Value)
def mj_cs (ad : Nat → Nat) (A : Nat → Prop) (U : State) (a n : Nat) (g : Nat → Int32) : Prop := (a < 1100 → va_T .int (ad a) n (fun j => .int (g j)) A U U.heap) ∧ (1100 ≤ a → a < 2000 → va_T .byte (ad a) n (fun j => .int (g j)) A U U.heap) ∧ (2000 ≤ a → va_O "java/lang/String" (ad a) A U U.heap ∧ va_OF "java/lang/String" "coder" "B" (.int 0) (ad a) A U U.heap ∧ va_OF "java/lang/String" "value" "[B" (.ref (ad (a - 900))) (ad a) A U U.heap)
theorem mj_cs.go {ad : Nat → Nat} {A : Nat → Prop} {s U : State} {a n : Nat} {g : Nat → Int32} (h : mj_cs ad A s a n g) (hv : s.vm.Alike U.vm) (hq : ∀ q, ¬ A q → U.heap[q]? = s.heap[q]?) : mj_cs ad A U a n g :=
  ⟨fun g1 => ((h.1 g1).moved hv).kept fun a _ ha => hq a ha, fun g1 g2 => ((h.2.1 g1 g2).moved hv).kept fun a _ ha => hq a ha, fun g1 => ⟨((h.2.2 g1).1.moved hv).kept fun a _ ha => hq a ha, ((h.2.2 g1).2.1.moved hv).kept fun a _ ha => hq a ha, ((h.2.2 g1).2.2.moved hv).kept fun a _ ha => hq a ha⟩⟩
theorem mj_cs.row {ad : Nat → Nat} {A : Nat → Prop} {s : State} {a n : Nat} {g : Nat → Int32} (h : mj_cs ad A s a n g) (ha : a < 2000) : ∃ ty, va_T ty (ad a) n (fun j => .int (g j)) A s s.heap := by
  by_cases e : a < 1100
  · exact ⟨_, h.1 e⟩
  · exact ⟨_, h.2.1 (by omega) ha⟩
def mj_St (cst : Nat → Option (Nat × (Nat → Int32))) (ad : Nat → Nat) (z : Nat → Prop) (ncs : mj_K) (U : State) : Prop := (∀ a n g, cst a = some (n, g) → mj_cs ad (mj_A z) U a n g) ∧ (∀ q : Nat, U.heap.size ≤ q → z q) ∧ (∀ q ∈ ncs.1, ∀ c1 c2, U.vm.findClass q.1 = some c1 → U.vm.findClass q.2 = some c2 → U.vm.assignable c1 c2 = false) ∧ (∀ q ∈ ncs.2.1, ∃ c1 c2, U.vm.findClass q.1 = some c1 ∧ U.vm.findClass q.2 = some c2 ∧ U.vm.assignable c1 c2 = true) ∧ (∀ q ∈ ncs.2.2.1, mj_sr q.1 q.2.1 q.2.2 z U) ∧ (∀ q ∈ ncs.2.2.2.1, ∃ a, vk_R q.1 q.2.1 q.2.2.1 a U ∧ (q.2.2.2 ≠ 0 → a = ad q.2.2.2)) ∧ ∀ q ∈ ncs.2.2.2.2, va_Z q.1 q.2.1 q.2.2.1 (mj_tr ad q.2.2.2) (mj_A z) U U.heap
theorem mj_St.go {cst : Nat → Option (Nat × (Nat → Int32))} {ad : Nat → Nat} {z : Nat → Prop} {ncs : mj_K} {s U : State} (h : mj_St cst ad z ncs s) (hW : s.WarmedH U.vm) (hq : ∀ q, ¬ z q → U.heap[q]? = s.heap[q]?) (hz : s.heap.size ≤ U.heap.size) : mj_St cst ad z ncs U := by
  obtain ⟨h1, h2, h3, h4, h5, h6, h7⟩ := h
  have hv := hW.alike
  refine ⟨fun a n g ha => ?_, fun q hq9 => h2 q (Nat.le_trans hz hq9), fun q hq c1 c2 g1 g2 => ?_, fun q hq => ?_, fun q hm => (h5 q hm).go hv hq, fun q hm => ?_, fun q hm => ?_⟩
  · exact (h1 a n g ha).go hv hq
  · rw [hv.findClass] at g1 g2
    rw [hv.assignable]
    exact h3 q hq c1 c2 g1 g2
  · obtain ⟨c1, c2, g1, g2, g3⟩ := h4 q hq
    exact ⟨c1, c2, by rw [hv.findClass]; exact g1, by rw [hv.findClass]; exact g2, by rw [hv.assignable]; exact g3⟩
  · obtain ⟨a, ha, hb⟩ := h6 q hm
    exact ⟨a, ha.warm hW, hb⟩
  · exact (va_Z.moved hv (h7 q hm)).kept fun a _ ha => hq a ha
def mj_Pc (D : va_G) (cl : List vw_C) (tys : List (ClassId × FieldType)) (ad : Nat → Nat) (bi : Nat) (z : Nat → Prop) (cst : Nat → Option (Nat × (Nat → Int32))) (ncs : mj_K) (as : List Value) (h : mj_H) : Array Value → State → Prop := fun v U => v = (as.map (mj_tr ad)).toArray ∧ mj_rep D cl tys ad bi z h U.heap ∧ va_K D cl tys U ∧ mj_St cst ad z ncs U
def mj_Qc (D : va_G) (cl : List vw_C) (tys : List (ClassId × FieldType)) (ad : Nat → Nat) (bi : Nat) (z : Nat → Prop) (xn : Nat → String) (b0 b1 : Nat) (Q : mj_R → Prop) : State → Outcome → State → Prop := fun st o t => ∃ r : mj_R, Q r ∧ mj_out ad xn r.1 o t ∧ mj_rep D cl tys ad bi z r.2 t.heap ∧ va_F (mj_A z) st t ∧ ∃ (L : List Loc) (k n : Nat), mj_fe st t L k n ∧ (∀ q ∈ L, z q.base) ∧ k + r.2.2.1 ≤ b0 ∧ n + r.2.2.2.1 ≤ b1
section MJX
variable {p : Program} {l : Launch} {e : Env} {R : Room} {s : State} {m : MethodId} {args : Array Value} {below : List Frame} {meth : Method} {c : Code}
variable {D : va_G} {cl : List vw_C} {tys : List (ClassId × FieldType)} {ad : Nat → Nat} {bi : Nat} {z : Nat → Prop} {nL : Nat} {off : Nat → Nat} {QQ : State → Prop} {b0 b1 : Nat} {cc : ByteArray} {pc : Nat} {ls : mj_L} {r : List Value} {h : mj_H}
variable {cst : Nat → Option (Nat × (Nat → Int32))} {ncs : mj_K} {xn : Nat → String}
def mj_JT (p : Program) (l : Launch) (e : Env) (R : Room) (s : State) (m : MethodId) (args : Array Value) (below : List Frame) (meth : Method) (c : Code) (D : va_G) (cl : List vw_C) (tys : List (ClassId × FieldType)) (ad : Nat → Nat) (bi : Nat) (z : Nat → Prop) (nL : Nat) (off : Nat → Nat) (QQ : State → Prop) (b0 b1 : Nat) (xn : Nat → String) (pc : Nat) (ls : mj_L) (q : Nat) (h : mj_H) : Prop :=
  ∀ (H : Heap) (locs : List Loc) (k n : Nat) (L : Array Slot) (st : List Value), lv_has L nL (mj_lv ad 0 ls) → mj_rep D cl tys ad bi z h H → va_S (mj_A z) s.heap H locs → k + h.2.1 ≤ b0 → n + h.2.2.1 ≤ b1 → ∀ (T : State) (x : Addr), T.heap = H → Stand p l e R s m args below meth c T locs k n → mj_xo xn q x T → ∃ t, Steps p.tables e below ((T.setTop (F0 m (off pc) L st)).pushFrame (.throwing x)) t ∧ QQ t
theorem mj_so_call (hx : p.tables.exec = Jvm.exec) (hb : c.code = cc) (hml : c.maxLocals = nL) (hK : va_K D cl tys s) (hSt : mj_St cst ad z ncs s) (hR : R.cells = b0 ∧ R.slots = b1)
    {y : MethodName} {ws : List Cond} {rm : Room} {bytes : ByteArray} {maxL : Nat} {ret : Option FieldType} {hh : List (Nat × Nat × Nat × Nat)} {ig : Instr} {as st : List Value} {Qp : mj_R → Prop}
    (hM : MetFree l y (headSpec ws rm) (mj_Pc D cl tys ad bi z cst ncs as h) (fun _ _ _ _ _ => True) (fun _ => mj_Qc D cl tys ad bi z xn h.2.1 h.2.2.1 Qp))
    (hrc : rm.cells = h.2.1) (hrs : rm.slots = h.2.2.1) (hfr : rm.frames + 1 ≤ R.frames) (hlo : 8 + (maxL + 11) + rm.locals ≤ R.locals) (hwt : mj_wt r ≤ 8)
    (hws : ∀ w ∈ ws, ∀ (a' : Array Value) (U : State), s.WarmedH U.vm → w.before a' U = true) (hcd : mj_cd y bytes maxL ret hh ∈ ws) (hini : ∀ (a' : Array Value) (U : State), s.WarmedH U.vm → (Cond.initialized y.cls).before a' U = true)
    (hd : decode cc (off pc) = .ok (ig, 3)) (ho : off (pc + 1) = off pc + 3)
    (hinv : ∀ (T : State) (H : Heap) (locs : List Loc) (k n : Nat) (L : Array Slot), T.heap = H → mj_rep D cl tys ad bi z h H → va_S (mj_A z) s.heap H locs → Stand p l e R s m args below meth c T locs k n → mj_Inv p l e R s m args below meth c T locs k n (F0 m (off pc) L (st.map (mj_tr ad))) (r.map (mj_tr ad)) y (as.map (mj_tr ad)).toArray)
    (kret : ∀ v h', Qp (.inl v, h') → mj_J p l e R s m args below meth c D cl tys ad bi z nL off QQ b0 b1 (pc + 1) ls (v.toList ++ r) h')
    (kthr : ∀ q h', Qp (.inr q, h') → mj_JT p l e R s m args below meth c D cl tys ad bi z nL off QQ b0 b1 xn pc ls q h') : mj_J p l e R s m args below meth c D cl tys ad bi z nL off QQ b0 b1 pc ls st h := by
  intro H locs k n L hl hr hS h1 h2 T hT X
  obtain ⟨vm₁, mk, hW₁, X₁, hnm, hstep⟩ := hinv T H locs k n L hT hr hS X
  have hzs : ∀ q : Nat, s.heap.size ≤ q → z q := hSt.2.1
  have hSt1 : mj_St cst ad z ncs (T.setVm vm₁) := by
    refine hSt.go (U := T.setVm vm₁) hW₁ (fun q hq => ?_) ?_
    · show T.heap[q]? = s.heap[q]?
      rw [hT]
      exact hS.2.1 q (Nat.lt_of_not_le (fun g => hq (hzs q g))) hq
    · show s.heap.size ≤ T.heap.size
      rw [hT]
      exact hS.1
  have hwt' : 2 * (F0 m (off pc) L (r.map (mj_tr ad))).monitorRoom + ((F0 m (off pc) L (r.map (mj_tr ad))).stack.map fun v => v.category).sum ≤ 8 := by
    have := mj_wt_tr ad r
    unfold mj_wt at this hwt
    show 2 * 0 + ((r.map (mj_tr ad)).map fun v => v.category).sum ≤ 8
    rw [this]
    omega
  obtain ⟨o, t, hq, hgo⟩ := mj_back (hh := hh) (bytes := bytes) (maxL := maxL) (ret := ret) (Wt := 8) (len := 3) (ig := ig) (U := T.setVm vm₁) (g := F0 m (off pc) L (r.map (mj_tr ad))) (a := (as.map (mj_tr ad)).toArray) (mk := mk) hM hfr hlo X₁ rfl (by show L.size = c.maxLocals; rw [hml]; exact hl.1) (by rw [hb]; exact hd) hwt' hnm (fun w hw => hws w hw _ _ hW₁) (mj_cd_or (hws _ hcd _ _ hW₁)) (hini _ _ hW₁) (by rw [hrc, hR.1]; exact h1) (by rw [hrs, hR.2]; exact h2)
    ⟨rfl, by show mj_rep D cl tys ad bi z h T.heap; rw [hT]; exact hr, va_K.moved hW₁.alike hK, hSt1⟩ (fun o t hq => by
      obtain ⟨r9, -, -, -, -, L9, k9, n9, hf, -⟩ := hq
      exact ⟨L9, k9, n9, hf⟩)
  obtain ⟨⟨rv, h'⟩, hQ, hout, hrep, hF, L9, k9, n9, hfe, hL9, hk9, hn9⟩ := hq
  obtain ⟨U', e1, e2, XU, hret, hthr⟩ := hgo L9 k9 n9 hfe
  have hF' : T.heap.size ≤ t.heap.size ∧ ∀ q : Nat, q < T.heap.size → ¬ mj_A z q → t.heap[q]? = T.heap[q]? := hF
  rw [hT] at hF'
  have hS' : va_S (mj_A z) s.heap t.heap (locs ++ L9) := by
    refine ⟨Nat.le_trans hS.1 hF'.1, fun q g1 g2 => ?_, fun q hq => ?_⟩
    · rw [hF'.2 q (Nat.lt_of_lt_of_le g1 hS.1) g2]
      exact hS.2.1 q g1 g2
    · rcases List.mem_append.mp hq with g | g
      · exact hS.2.2 q g
      · exact hL9 q g
  have c1 : k + k9 + h'.2.1 ≤ b0 := by
    have := h1
    have := hk9
    simp only at *
    omega
  have c2 : n + n9 + h'.2.2.1 ≤ b1 := by
    have := h2
    have := hn9
    simp only at *
    omega
  cases rv with
  | inl v =>
    have ho1 : o = .returned (v.map (mj_tr ad)) := hout
    obtain ⟨t2, a1, b1⟩ := kret v h' hQ t.heap (locs ++ L9) (k + k9) (n + n9) L hl hrep hS' c1 c2 U' e1 XU
    refine ⟨t2, hstep t2 (hret _ ho1 t2 ?_), b1⟩
    rw [ho] at a1
    have e9 : (v.map (mj_tr ad)).toList ++ r.map (mj_tr ad) = (v.toList ++ r).map (mj_tr ad) := by cases v <;> rfl
    show Steps p.tables e below (U'.setTop (F0 m (off pc + 3) L ((v.map (mj_tr ad)).toList ++ r.map (mj_tr ad)))) t2
    rw [e9]
    exact a1
  | inr q =>
    obtain ⟨x, ho1, hxo⟩ := hout
    obtain ⟨t2, a1, b1⟩ := kthr q h' hQ t.heap (locs ++ L9) (k + k9) (n + n9) L (r.map (mj_tr ad)) hl hrep hS' c1 c2 U' x e1 XU (hxo.moved e1 e2)
    exact ⟨t2, hstep t2 (hthr x ho1 t2 a1), b1⟩
theorem mj_so_out (hlocks : meth.locks = false) {Q : mj_R → Prop} {q : Nat} (hQQ : QQ = mj_Z below s (mj_Qc D cl tys ad bi z xn b0 b1 Q s)) (hout : ∀ x ∈ c.exceptionTable.toList, covers x (off pc) = false) (hq : Q (.inr q, h)) : mj_JT p l e R s m args below meth c D cl tys ad bi z nL off QQ b0 b1 xn pc ls q h := by
  intro H locs k n L st hl hr hS h1 h2 T x hT X hxo
  obtain ⟨hw, hrun, hend, hwm, hsm⟩ := X.leaveThrown x (g := F0 m (off pc) L st) rfl rfl rfl hout hlocks
  refine ⟨_, hw, ?_⟩
  rw [hQQ]
  refine ⟨.threw x, hrun, hend, (.inr q, h), hq, ⟨x, rfl, hxo.moved rfl rfl⟩, ?_, ?_, locs, k, n, ⟨hwm, hsm⟩, fun q hq => hS.2.2 q hq, h1, h2⟩
  · show mj_rep D cl tys ad bi z h T.heap
    rw [hT]; exact hr
  · show s.heap.size ≤ T.heap.size ∧ ∀ q : Nat, q < s.heap.size → ¬ mj_A z q → T.heap[q]? = s.heap[q]?
    rw [hT]
    exact ⟨hS.1, hS.2.1⟩
theorem mj_so_handler (hx : p.tables.exec = Jvm.exec) (hb : c.code = cc) {q t j : Nat} (pre : List ExceptionTableEntry) (x : ExceptionTableEntry) (rest : List ExceptionTableEntry) (hsplit : c.exceptionTable.toList = pre ++ x :: rest)
    (hpass : l.admits e → ∀ cX, s.vm.findClass (xn q) = some cX → ∀ y ∈ pre, mj_pass e.platform s m.cls (off pc) cX y) (hcov : covers x (off pc) = true) (h0 : x.catchType ≠ 0) {cT : ClassId} (hlk : l.admits e → s.vm.ClassLinks e.platform m.cls x.catchType cT) (hfit : ∀ cX, s.vm.findClass (xn q) = some cX → s.vm.assignable cX cT = true) (hpc : x.handlerPc = off t) (hj : j < nL)
    (hd : (∃ f : Fin 4, (f : Nat) = j ∧ decode cc (off t) = .ok (.astore_n f, 1) ∧ off (t + 1) = off t + 1) ∨ (decode cc (off t) = .ok (.astore j, 2) ∧ off (t + 1) = off t + 2))
    (kk : mj_J p l e R s m args below meth c D cl tys ad bi z nL off QQ b0 b1 (t + 1) (mj_stn (mj_kill ls j) j none) [] h) : mj_JT p l e R s m args below meth c D cl tys ad bi z nL off QQ b0 b1 xn pc ls q h := by
  intro H locs k n L st hl hr hS h1 h2 T a hT X hxo
  obtain ⟨cell, hc1, hc2, hc3, hc4⟩ := hxo
  have hal := X.warmed.alike
  have hc3' : s.vm.findClass (xn q) = some cell.cls := by rw [← hal.findClass]; exact hc3
  have hk0 : ∃ k, s.vm.classes[cell.cls]? = some k := by
    obtain ⟨kk9, hkk⟩ := hc4
    obtain ⟨k', hk', -⟩ := hal.symm.2.2 _ _ hkk
    exact ⟨k', hk'⟩
  obtain ⟨vm', hW', X', hgo⟩ := mj_caught X a (g := F0 m (off pc) L st) rfl hc1 hc2 hk0 pre x rest hsplit (hpass X.admits _ hc3') hcov h0 (hlk X.admits) (hfit _ hc3')
  have key : W p l e R s m args below meth c H locs k n QQ (F0 m (off t) L [.ref a]) := by
    rcases hd with ⟨f, hf, hd, ho⟩ | ⟨hd, ho⟩
    · refine lv_astore_n hx hb hd hf hl hj rfl fun L1 hl1 => ?_
      have K := kk H locs k n L1 (mj_lv_stx hl1) hr hS h1 h2
      rw [ho] at K
      exact K
    · refine lv_astore hx hb hd hl hj rfl fun L1 hl1 => ?_
      have K := kk H locs k n L1 (mj_lv_stx hl1) hr hS h1 h2
      rw [ho] at K
      exact K
  obtain ⟨t2, a1, b1⟩ := key (T.setVm vm') hT X'
  refine ⟨t2, hgo t2 ?_, b1⟩
  rw [hpc]
  exact a1
end MJX
end
section
section MJW
variable {p : Program} {l : Launch} {e : Env} {R : Room} {s : State} {m : MethodId} {args : Array Value} {below : List Frame} {meth : Method} {c : Code} {T : State} {locs : List Loc} {k n : Nat}
theorem mj_rebase (X : Stand p l e R s m args below meth c T locs k n) {R' : Room} (hf : R'.frames ≤ R.frames) (hl : R'.locals ≤ R.locals) (hc : k + R'.cells ≤ R.cells) (hs : n + R'.slots ≤ R.slots) : Stand p l e R' (T.setFrames (.invoking m args :: below)) m args below meth c T [] 0 0 := by
  obtain ⟨g₀, hfr⟩ := X.frames_eq
  have hcur : T.cur < T.threads.size := State.cur_lt_of_frames hfr
  have hF : (T.setFrames (.invoking m args :: below)).frames = .invoking m args :: below := State.frames_setFrames _ hcur
  have hm : (T.setFrames (.invoking m args :: below)).vm.method? m = some meth := X.method'
  have hr := X.room
  simp only [State.hasRoom, Bool.and_eq_true, decide_eq_true_eq] at hr
  obtain ⟨⟨⟨⟨r1, r2, r3, r4, r5, r6⟩, r7⟩, r8⟩, r9⟩ := hr
  rw [State.localsInUse_invoking X.frames X.method X.code] at r1 r4 r5
  rw [X.frames] at r2 r3
  have hb := X.book
  have h1 := X.cellsAbove hc
  have h2 := X.slotsAbove hs
  refine ⟨X.admits, X.cas, X.clock, hF, ?_, ?_, hm, X.code, X.here, X.tail, State.WarmedH.refl _, ?_, ?_, ?_⟩
  · simp only [State.hasRoom, Bool.and_eq_true, decide_eq_true_eq]
    rw [State.localsInUse_invoking hF hm X.code, hF, State.stackLimits_setFrames, State.stackBytes_setFrames, X.limits, X.bytes]
    exact ⟨⟨⟨⟨by omega, by omega, by omega, by omega, by omega, r6⟩, h1⟩, h2⟩, hb⟩
  · have hh := X.hears
    have hal := X.warmed.alike
    cases below with
    | nil => simp only [State.hears] at hh ⊢; rw [hm]; rw [X.method] at hh; exact hh
    | cons b bs =>
      cases b with
      | java g =>
        simp only [State.hears] at hh ⊢
        have e1 : (T.setFrames (.invoking m args :: .java g :: bs)).code? g.method = s.code? g.method := by
          rw [State.code?_eq, State.code?_eq]
          show (T.vm.method? g.method).bind _ = _
          rw [hal.method?]
        rw [e1]
        exact hh
      | native _ => rfl
      | proc _ => rfl
      | _ => simp only [State.hears] at hh ⊢; rw [hm]; rw [X.method] at hh; exact hh
  · rw [State.stackLimits_setFrames]
  · rw [State.stackBytes_setFrames]
  · obtain ⟨t, ht, -⟩ := State.frames_cons hfr
    have h3 : T.setVm (T.setFrames (.invoking m args :: below)).vm = T := rfl
    rw [h3]
    refine ⟨?_, Nat.le_refl _, Nat.le_refl _, ?_, ?_, fun a cl ha => ⟨cl, ha, rfl, rfl, fun _ _ => rfl⟩⟩
    · rw [State.setFrames_setFrames]
      show T = { T.setFrames T.frames with heap := T.heap, slotsUsed := T.slotsUsed }
      rw [State.setFrames_self ht]
    · show T.slotsUsed = T.slotsUsed + ((T.heap.toList.drop T.heap.size).map (·.slots.size)).sum
      have : T.heap.toList.drop T.heap.size = [] := List.drop_eq_nil_of_le (by simp)
      rw [this]
      rfl
    · show ((T.heap.toList.drop T.heap.size).map (·.slots.size)).sum ≤ 0
      have : T.heap.toList.drop T.heap.size = [] := List.drop_eq_nil_of_le (by simp)
      rw [this]
      exact Nat.le_refl 0
end MJW
end
section
section MJV
variable {p : Program} {l : Launch} {e : Env} {R : Room} {s : State} {m : MethodId} {args : Array Value} {below : List Frame} {meth : Method} {c : Code}
variable {D : va_G} {cl : List vw_C} {tys : List (ClassId × FieldType)} {ad : Nat → Nat} {bi : Nat} {z : Nat → Prop} {nL : Nat} {off : Nat → Nat} {QQ : State → Prop} {b0 b1 : Nat} {cc : ByteArray} {pc : Nat} {ls : mj_L} {r : List Value} {h : mj_H}
variable {cst : Nat → Option (Nat × (Nat → Int32))} {ncs : mj_K} {xn : Nat → String}
def mj_gw (w : Cond) : Bool := goodWord w || (match w with
  | .declares _ => true
  | _ => false)
theorem mj_wat {s U : State} {args a' : Array Value} (hW : s.WarmedH U.vm) {w : Cond} (hg : mj_gw w = true) (h : w.before args s = true) : w.before a' U = true := by
  unfold mj_gw at hg
  rw [Bool.or_eq_true] at hg
  rcases hg with hg | hg
  · exact word_at hW (good_of_word hg) h
  · split at hg
    · next x =>
      have h1 : (Cond.declares x).before args (s.setVm U.vm) = true := by rw [Cond.declares_setVm hW.alike]; exact h
      have e := Cond.onTables_vm (A := args) (A' := a') (U := s) (U' := U) U.vm (.declares x) rfl
      rw [e] at h1
      exact h1
    · cases hg
def mj_wok (TS : List Cond) (ncs : mj_K) (a : Cond) : Bool := (decide (a ∈ TS) && mj_gw a) || (match a with
  | .castable x y => decide ((x, y) ∈ ncs.2.1)
  | .laysStatic x y d => decide ((x, y, d) ∈ ncs.2.2.1)
  | .isRef (.static x y d) => decide ((x, y, d) ∈ ncs.2.2.1)
  | _ => false)
theorem mj_wok_ok {TS : List Cond} {a : Cond} {U : State} (ha : mj_wok TS ncs a = true) (hts : ∀ w ∈ TS, w.before args s = true) (hW : s.WarmedH U.vm) (hSt : mj_St cst ad z ncs U) (A : Array Value) : a.before A U = true := by
  unfold mj_wok at ha
  rw [Bool.or_eq_true] at ha
  rcases ha with ha | ha
  · rw [Bool.and_eq_true, decide_eq_true_eq] at ha
    exact mj_wat hW ha.2 (hts _ ha.1)
  · split at ha
    · obtain ⟨c1, c2, g1, g2, g3⟩ := hSt.2.2.2.1 _ (of_decide_eq_true ha)
      simp [Cond.before, Cond.holds, Cond.value, g1, g2, g3]
    · exact (hSt.2.2.2.2.1 _ (of_decide_eq_true ha)).lays A
    · exact (hSt.2.2.2.2.1 _ (of_decide_eq_true ha)).isRef A
    · cases ha
theorem mj_same_cells {s U : State} {k n : Nat} (h : s.sameButNew U [] k n) {q : Nat} (hq : q < s.heap.size) : U.heap[q]? = s.heap[q]? := by
  obtain ⟨-, -, -, -, -, h6⟩ := h
  obtain ⟨cell, hc⟩ : ∃ cell, s.heap[q]? = some cell := ⟨s.heap[q], by simp [hq]⟩
  obtain ⟨c', h1, h2, h3, h4⟩ := h6 q cell hc
  rw [h1, hc]
  have e : c'.slots = cell.slots := by
    apply Array.ext
    · exact h3
    · intro i hi hj
      have := h4 i (by simp)
      rw [Array.getElem?_eq_getElem hi, Array.getElem?_eq_getElem hj] at this
      exact Option.some.inj this
  rw [h2, e]
theorem mj_so_throw (hx : p.tables.exec = Jvm.exec) (hb : c.code = cc) (hml : c.maxLocals = nL) {own : String} (hown : s.vm.findClass own = some m.cls) (hlocks : meth.locks = false) (htr : l.admits e → e.platform.stackTraces = false) {TS : List Cond} (hts : ∀ w ∈ TS, w.before args s = true) (hSt : mj_St cst ad z ncs s) (hR : R.cells = b0 ∧ R.slots = b1) (hRf : 10 ≤ R.frames) (hRl : 200 ≤ R.locals)
    {q ia ib ic k0 k1 : Nat} {os : List mj_O} {op : Bool} {tx : String} {names : List String} {Q : mj_R → Prop} (hQQ : QQ = mj_Z below s (mj_Qc D cl tys ad bi z xn b0 b1 Q s))
    (hcls : Bundle.fit (xn q) = true) (hnames : ∀ n ∈ names, Bundle.fit n = true) (hlen : names.length ≤ 3) (hw1 : mj_wok TS ncs (.classLink own ia (xn q)) = true) (hw2 : mj_wok TS ncs (.instantiable (xn q) 6) = true) (hw3 : mj_wok TS ncs (.initialized (xn q)) = true) (hwa : ∀ a ∈ Bundle.ownAtoms own ic (xn q) names, mj_wok TS ncs a = true) (hsk : (own, ib, tx, 0) ∈ ncs.2.2.2.1)
    (hwt : mj_wt r ≤ 8) (hk1 : 6 ≤ k1)
    (hd0 : decode cc (off pc) = .ok (.new ia, 3)) (hd3 : decode cc (off pc + 3) = .ok (.dup, 1)) (hd4 : decode cc (off pc + 3 + 1) = .ok (.ldc ib, 2)) (hd6 : decode cc (off pc + 3 + 1 + 2) = .ok (.invokespecial ic, 3)) (hd9 : decode cc (off pc + 3 + 1 + 2 + 3) = .ok (.athrow, 1)) (hout : ∀ x ∈ c.exceptionTable.toList, covers x (off pc + 3 + 1 + 2 + 3) = false)
    (hq : Q (.inr q, (os, k0, k1 - 6, false))) : mj_J p l e R s m args below meth c D cl tys ad bi z nL off QQ b0 b1 pc ls r (os, k0 + 1, k1, op) := by
  intro H locs k n L hl hr hS h1 h2 T hT X
  have h1' : k + (k0 + 1) ≤ b0 := h1
  have h2' : n + k1 ≤ b1 := h2
  have hzs : ∀ q : Nat, s.heap.size ≤ q → z q := hSt.2.1
  obtain ⟨R', hR'⟩ : ∃ R' : Room, R' = { frames := R.frames, cells := 1, slots := 6, locals := R.locals } := ⟨_, rfl⟩
  have X' := mj_rebase X (R' := R') (by rw [hR']; exact Nat.le_refl _) (by rw [hR']; exact Nat.le_refl _) (by rw [hR', hR.1]; show k + 1 ≤ b0; omega) (by rw [hR', hR.2]; show n + 6 ≤ b1; omega)
  have hsT : (T.setFrames (.invoking m args :: below)).heap = H := hT
  have hWs : s.WarmedH (T.setFrames (.invoking m args :: below)).vm := X.warmed
  have hSt1 : mj_St cst ad z ncs (T.setFrames (.invoking m args :: below)) := by
    refine hSt.go hWs (fun q hq => ?_) ?_
    · rw [hsT]
      exact hS.2.1 q (Nat.lt_of_not_le (fun g => hq (hzs q g))) hq
    · rw [hsT]
      exact hS.1
  have hown' : (T.setFrames (.invoking m args :: below)).vm.findClass own = some m.cls := by
    rw [hWs.alike.findClass]
    exact hown
  have hTs : T.sameButNew T [] 0 0 := by
    have := X'.same
    obtain ⟨g₀, hfr⟩ := X.frames_eq
    obtain ⟨t, ht, -⟩ := State.frames_cons hfr
    exact ⟨by show T = { T.setFrames T.frames with heap := T.heap, slotsUsed := T.slotsUsed }; rw [State.setFrames_self ht], this.2⟩
  generalize hs' : T.setFrames (.invoking m args :: below) = s' at *
  have hs'f : ∀ F, s'.setFrames F = T.setFrames F := fun F => by rw [← hs', State.setFrames_setFrames]
  have hs'v : s'.vm = T.vm := by rw [← hs']; rfl
  have hs'u : s'.slotsUsed = T.slotsUsed := by rw [← hs']; rfl
  have key : W p l e R' s' m args below meth c H [] 0 0 QQ (F0 m (off pc) L (r.map (mj_tr ad))) := by
    obtain ⟨cX, kX, hfX, hkX, -⟩ := Cond.instantiable_spec (mj_wok_ok hw2 hts hWs hSt1 args)
    refine W.newcK hx hb hown' (mj_wok_ok hw1 hts hWs hSt1 _) (mj_wok_ok hw2 hts hWs hSt1 _) (mj_wok_ok hw3 hts hWs hSt1 _) rfl hd0 (by rw [hR']; exact Nat.le_refl 1) (by rw [hR']; exact Nat.le_refl 6) hfX rfl fun H1 kC hkC e1 z1 o1 => ?_
    refine lv_dup hx hb hd3 rfl ?_
    obtain ⟨am, ham, -⟩ := hSt1.2.2.2.2.2.1 _ hsk
    refine va_ldcS hx hb hown' ham hd4 ?_
    intro T1 hT1 X1
    have hw9 : mj_wt (r.map (mj_tr ad)) ≤ 8 := by rw [mj_wt_tr]; exact hwt
    unfold mj_wt at hw9
    obtain ⟨U, u1, u2, u3, u4, u5, ce, u6, u7⟩ := X1.ctorThrowS hx (htr X.admits) hown' hcls hnames (fun a ha => mj_wok_ok (hwa a ha) hts hWs hSt1 args) (fun x hx => by cases hx) hfX hkC (a := H.size) (msg := .ref am) (by rw [hT1]; exact e1) (by rw [hsT]; exact Nat.le_refl _) rfl (g := F0 m (off pc + 3 + 1 + 2) L (.ref am :: .ref H.size :: .ref H.size :: r.map (mj_tr ad))) (rest := r.map (mj_tr ad)) rfl (by show L.size = c.maxLocals; rw [hml]; exact hl.1) rfl rfl rfl (by rw [hb]; exact hd6) (by rw [hb]; exact hd9) hout (by rw [hR']; show names.length + 3 < R.frames; omega) (by
      rw [hR']
      show 2 * 0 + ((Value.ref H.size :: r.map (mj_tr ad)).map fun v => v.category).sum + (13 * (names.length + 1) + 42) ≤ R.locals
      rw [List.map_cons, List.sum_cons]
      have : (Value.ref H.size).category = 1 := rfl
      omega) hlocks
    refine ⟨U, u1, ?_⟩
    rw [hQQ]
    have c1 : ∀ q : Nat, q < H.size → U.heap[q]? = H[q]? := fun q hq => by
      have := mj_same_cells u5 (q := q) (by rw [hsT]; exact hq)
      rw [hsT] at this
      exact this
    have c2 : U.heap.size ≤ H.size + 1 := by
      have := u5.2.2.1
      rw [hsT] at this
      exact this
    have c3 : H.size < U.heap.size := (Array.getElem?_eq_some_iff.mp u6).1
    have u5' : T.sameButNew ({ U with vm := T.vm } : State) [] 1 6 := by
      obtain ⟨a1, a2, a3, a4, a5, a6⟩ := u5
      rw [hsT, ← hT] at a2 a3 a4 a5 a6
      rw [hs'u] at a4
      refine ⟨?_, a2, a3, a4, a5, a6⟩
      rw [hs'f, hs'v] at a1
      exact a1
    refine ⟨.threw H.size, u2, u3, (.inr q, (os, k0, k1 - 6, false)), hq, ⟨H.size, rfl, ce, u6, fun k hk => ?_, ?_, ?_⟩, ?_, ⟨?_, fun q g1 g2 => ?_⟩, locs, k + 1, n + 6, ⟨?_, ?_⟩, fun q hq => hS.2.2 q hq, by show k + 1 + k0 ≤ b0; omega, by show n + 6 + (k1 - 6) ≤ b1; omega⟩
    · rw [u7.vm] at hk; cases hk
    · rw [u4.alike.findClass]; exact u7.cls
    · have e9 : ce.cls = cX := Option.some.inj (u7.cls.symm.trans hfX)
      obtain ⟨k9, hk9, -⟩ := u4.alike.2.2 _ _ hkC
      exact ⟨k9, by rw [e9]; exact hk9⟩
    · obtain ⟨⟨b, hP, hD, hB⟩, -, hvs⟩ := hr
      refine ⟨⟨b, hP.kept fun k x hx => c1 x.1 (hP k x hx).lt, hD, hB⟩, (fun h => by cases h), fun q cell g1 g2 => ?_, fun q hq9 => hvs.2 q (by omega)⟩
      rcases Nat.lt_or_ge q H.size with g | g
      · rw [c1 q g] at g2
        exact hvs.1 q cell g1 g2
      · have g3 : q < U.heap.size := (Array.getElem?_eq_some_iff.mp g2).1
        have g4 : q = H.size := by omega
        subst g4
        have : cell = ce := Option.some.inj (g2.symm.trans u6)
        rw [this, u7.vm]
        rfl
    · exact Nat.le_trans hS.1 (by omega)
    · rw [c1 q (Nat.lt_of_lt_of_le g1 hS.1)]
      exact hS.2.1 q g1 g2
    · exact State.WarmedH.trans hWs u4
    · have := X.same.trans (u5'.setVm s.vm)
      rw [List.append_nil] at this
      exact this
  exact key T hT X'
end MJV
end
section
section MJE
variable {p : Program} {l : Launch} {e : Env} {R : Room} {s : State} {m : MethodId} {args : Array Value} {below : List Frame} {meth : Method} {c : Code}
variable {D : va_G} {cl : List vw_C} {tys : List (ClassId × FieldType)} {ad : Nat → Nat} {bi : Nat} {z : Nat → Prop} {nL : Nat} {off : Nat → Nat} {QQ : State → Prop} {b0 b1 : Nat} {cc : ByteArray} {pc : Nat} {ls : mj_L} {r : List Value} {h : mj_H}
variable {cst : Nat → Option (Nat × (Nat → Int32))} {ncs : mj_K} {xn : Nat → String}
theorem mj_so_iret (hx : p.tables.exec = Jvm.exec) (hb : c.code = cc) (hlocks : meth.locks = false) {x : Int32} {ty : FieldType} (hn : narrow ty (.int x) = .int x) (hrt : meth.sig.returnType = some ty) {Q : mj_R → Prop} (hQQ : QQ = mj_Z below s (mj_Qc D cl tys ad bi z xn b0 b1 Q s)) (hd : decode cc (off pc) = .ok (.ireturn, 1)) (hq : Q (.inl (some (.int x)), h)) : mj_J p l e R s m args below meth c D cl tys ad bi z nL off QQ b0 b1 pc ls [.int x] h := by
  intro H locs k n L hl hr9 hS h1 h2
  rw [hQQ]
  exact mj_iret hx hb hrt hn hlocks (fun t ht hfe => ⟨(.inl (some (.int x)), h), hq, rfl, by rw [ht]; exact hr9, ⟨by rw [ht]; exact hS.1, fun q g1 g2 => by rw [ht]; exact hS.2.1 q g1 g2⟩, locs, k, n, hfe, hS.2.2, h1, h2⟩) hd
theorem mj_so_lret (hx : p.tables.exec = Jvm.exec) (hb : c.code = cc) (hlocks : meth.locks = false) {x : Int64} (hrt : meth.sig.returnType = some .long) {Q : mj_R → Prop} (hQQ : QQ = mj_Z below s (mj_Qc D cl tys ad bi z xn b0 b1 Q s)) (hd : decode cc (off pc) = .ok (.lreturn, 1)) (hq : Q (.inl (some (.long x)), h)) : mj_J p l e R s m args below meth c D cl tys ad bi z nL off QQ b0 b1 pc ls [.long x] h := by
  intro H locs k n L hl hr9 hS h1 h2
  rw [hQQ]
  exact mj_lret hx hb hrt hlocks (fun t ht hfe => ⟨(.inl (some (.long x)), h), hq, rfl, by rw [ht]; exact hr9, ⟨by rw [ht]; exact hS.1, fun q g1 g2 => by rw [ht]; exact hS.2.1 q g1 g2⟩, locs, k, n, hfe, hS.2.2, h1, h2⟩) hd
theorem mj_so_vret (hx : p.tables.exec = Jvm.exec) (hb : c.code = cc) (hlocks : meth.locks = false) (hrt : meth.sig.returnType = none) {Q : mj_R → Prop} (hQQ : QQ = mj_Z below s (mj_Qc D cl tys ad bi z xn b0 b1 Q s)) (hd : decode cc (off pc) = .ok (.return_, 1)) (hq : Q (.inl (none), h)) : mj_J p l e R s m args below meth c D cl tys ad bi z nL off QQ b0 b1 pc ls [] h := by
  intro H locs k n L hl hr9 hS h1 h2
  rw [hQQ]
  exact mj_vret hx hb hrt hlocks (fun t ht hfe => ⟨(.inl (none), h), hq, rfl, by rw [ht]; exact hr9, ⟨by rw [ht]; exact hS.1, fun q g1 g2 => by rw [ht]; exact hS.2.1 q g1 g2⟩, locs, k, n, hfe, hS.2.2, h1, h2⟩) hd
theorem mj_so_aret (hx : p.tables.exec = Jvm.exec) (hb : c.code = cc) (hlocks : meth.locks = false) {x : Nat} {ty : FieldType} (hn : ty.isReference = true) (hrt : meth.sig.returnType = some ty) {Q : mj_R → Prop} (hQQ : QQ = mj_Z below s (mj_Qc D cl tys ad bi z xn b0 b1 Q s)) (hd : decode cc (off pc) = .ok (.areturn, 1)) (hq : Q (.inl (some (.ref x)), h)) : mj_J p l e R s m args below meth c D cl tys ad bi z nL off QQ b0 b1 pc ls [.ref x] h := by
  intro H locs k n L hl hr9 hS h1 h2
  rw [hQQ]
  exact mj_aret hx hb hrt hn hlocks (fun t ht hfe => ⟨(.inl (some (.ref x)), h), hq, rfl, by rw [ht]; exact hr9, ⟨by rw [ht]; exact hS.1, fun q g1 g2 => by rw [ht]; exact hS.2.1 q g1 g2⟩, locs, k, n, hfe, hS.2.2, h1, h2⟩) hd
theorem mj_so_gets (hx : p.tables.exec = Jvm.exec) (hb : c.code = cc) {own : String} (hown : s.vm.findClass own = some m.cls) {TS : List Cond} (hts : ∀ w ∈ TS, w.before args s = true) (hSt : mj_St cst ad z ncs s) {j : Nat} {C f d : String} {v : Value} (hm : (C, f, d, v) ∈ ncs.2.2.2.2) (hlink : Jvm.Cond.fieldLink own j C f d ∈ TS) (hd : decode cc (off pc) = .ok (.getstatic j, 3)) (ho : off (pc + 1) = off pc + 3) (kk : mj_J p l e R s m args below meth c D cl tys ad bi z nL off QQ b0 b1 (pc + 1) ls (v :: r) h) : mj_J p l e R s m args below meth c D cl tys ad bi z nL off QQ b0 b1 pc ls r h := by
  intro H locs k n L hl hr hS h1 h2
  have K := kk H locs k n L hl hr hS h1 h2
  rw [ho] at K
  exact va_gets hx hb (hSt.2.2.2.2.2.2 _ hm) hS hown (hts _ hlink) (fun _ h9 => h9) hd K
theorem mj_so_max (hx : p.tables.exec = Jvm.exec) (hb : c.code = cc) (hml : c.maxLocals = nL) {own : String} (hown : s.vm.findClass own = some m.cls) {TS : List Cond} (hts : ∀ w ∈ TS, w.before args s = true) (hR : R.cells = b0 ∧ R.slots = b1) {idx : Nat} {x y : Int32} (g1 : Jvm.Cond.methodLink own idx Lib.Math.max.name ∈ TS) (g2 : Jvm.Cond.static Lib.Math.max.name ∈ TS) (g3 : Jvm.Cond.initialized "java/lang/Math" ∈ TS) (g4 : Jvm.Cond.code Lib.Math.max.name Lib.Math.max.code 2 (some .int) ∈ TS) (hf : 1 ≤ R.frames) (hw : mj_wt r + 13 ≤ R.locals) (hd : decode cc (off pc) = .ok (.invokestatic idx, 3)) (ho : off (pc + 1) = off pc + 3) (kk : mj_J p l e R s m args below meth c D cl tys ad bi z nL off QQ b0 b1 (pc + 1) ls (.int (if x < y then y else x) :: r) h) : mj_J p l e R s m args below meth c D cl tys ad bi z nL off QQ b0 b1 pc ls (.int y :: .int x :: r) h := by
  intro H locs k n L hl hr hS h1 h2
  have K := kk H locs k n L hl hr hS h1 h2
  rw [ho] at K
  have := mj_wt_tr ad r
  unfold mj_wt at this hw
  exact va_mmax hx hb (by rw [hml]; exact hl.1.symm) hown (hts _ g1) (hts _ g2) (hts _ g3) (hts _ g4) hf (by rw [this]; exact hw) (by rw [hR.1]; omega) (by rw [hR.2]; omega) hd K
theorem mj_so_min (hx : p.tables.exec = Jvm.exec) (hb : c.code = cc) (hml : c.maxLocals = nL) {own : String} (hown : s.vm.findClass own = some m.cls) {TS : List Cond} (hts : ∀ w ∈ TS, w.before args s = true) (hR : R.cells = b0 ∧ R.slots = b1) {idx : Nat} {x y : Int32} (g1 : Jvm.Cond.methodLink own idx Lib.Math.min.name ∈ TS) (g2 : Jvm.Cond.static Lib.Math.min.name ∈ TS) (g3 : Jvm.Cond.initialized "java/lang/Math" ∈ TS) (g4 : Jvm.Cond.code Lib.Math.min.name Lib.Math.min.code 2 (some .int) ∈ TS) (hf : 1 ≤ R.frames) (hw : mj_wt r + 13 ≤ R.locals) (hd : decode cc (off pc) = .ok (.invokestatic idx, 3)) (ho : off (pc + 1) = off pc + 3) (kk : mj_J p l e R s m args below meth c D cl tys ad bi z nL off QQ b0 b1 (pc + 1) ls (.int (if y < x then y else x) :: r) h) : mj_J p l e R s m args below meth c D cl tys ad bi z nL off QQ b0 b1 pc ls (.int y :: .int x :: r) h := by
  intro H locs k n L hl hr hS h1 h2
  have K := kk H locs k n L hl hr hS h1 h2
  rw [ho] at K
  have := mj_wt_tr ad r
  unfold mj_wt at this hw
  exact va_mmin hx hb (by rw [hml]; exact hl.1.symm) hown (hts _ g1) (hts _ g2) (hts _ g3) (hts _ g4) hf (by rw [this]; exact hw) (by rw [hR.1]; omega) (by rw [hR.2]; omega) hd K
theorem mj_sw_cases {go : Int → Prop} {d : Int} {x : Int32} {l : List (Int × Int)} (hk : mj_sw go d x l) : (∃ (j : Nat) (v t : Int), l[j]? = some (v, t) ∧ x = Int32.ofInt v ∧ go t) ∨ ((∀ (j : Nat) (v t : Int), l[j]? = some (v, t) → ¬ x = Int32.ofInt v) ∧ go d) := by
  induction l with
  | nil => exact Or.inr ⟨fun j v t h => by simp at h, hk⟩
  | cons a l ih =>
    obtain ⟨v0, t0⟩ := a
    obtain ⟨k1, k2⟩ := hk
    by_cases hx : x = Int32.ofInt v0
    · exact Or.inl ⟨0, v0, t0, rfl, hx, k1 hx⟩
    · rcases ih (k2 hx) with ⟨j, v, t, g1, g2, g3⟩ | ⟨g1, g2⟩
      · exact Or.inl ⟨j + 1, v, t, g1, g2, g3⟩
      · refine Or.inr ⟨fun j v t hj => ?_, g2⟩
        cases j with
        | zero =>
          have hj' : (v0, t0) = (v, t) := Option.some.inj hj
          cases hj'
          exact hx
        | succ j => exact g1 j v t hj
theorem mj_sw_off {go : Int → Prop} {d d' : Int} {x : Int32} {pc0 : Int} {tg : Int → Int} (hd : pc0 + d' = tg d) : ∀ (A B : List (Int × Int)), A.length = B.length → (∀ q ∈ A.zip B, q.1.1 = q.2.1 ∧ (Int32.ofInt q.1.1).toInt = q.1.1 ∧ pc0 + q.1.2 = tg q.2.2) → mj_sw go d x B → ∃ t, pc0 + Op.lookupswitch.offset A d' x.toInt = tg t ∧ go t := by
  intro A
  induction A with
  | nil =>
    intro B hl _ hk
    have : B = [] := List.eq_nil_of_length_eq_zero (by simpa using hl.symm)
    subst this
    exact ⟨d, by simpa [Op.lookupswitch.offset] using hd, hk⟩
  | cons a A ih =>
    intro B hl hq hk
    cases B with
    | nil => simp at hl
    | cons b B =>
      obtain ⟨a1, a2⟩ := a
      obtain ⟨b1, b2⟩ := b
      obtain ⟨q1, q2, q3⟩ := hq ((a1, a2), (b1, b2)) (by simp)
      simp only at q1 q2 q3
      subst q1
      obtain ⟨k1, k2⟩ := hk
      by_cases hx : x = Int32.ofInt a1
      · refine ⟨b2, ?_, k1 hx⟩
        rw [Op.lookupswitch.offset_cons, if_pos (by rw [hx, q2])]
        exact q3
      · obtain ⟨t, h1, h2⟩ := ih B (by simpa using hl) (fun q hq' => hq q (by simp [hq'])) (k2 hx)
        refine ⟨t, ?_, h2⟩
        rw [lv_osw hx q2]
        exact h1
theorem mj_so_sw (hx : p.tables.exec = Jvm.exec) (hb : c.code = cc) {TS : List Cond} {own : String} {rt : Option FieldType} {d : Int} {ps : Array (Int × Int)} {x : Int32} (hok : mj_ok TS own cc nL off rt pc (.lookupswitch d ps)) (kk : mj_sw (fun t => mj_J p l e R s m args below meth c D cl tys ad bi z nL off QQ b0 b1 t.toNat ls r h) d x ps.toList) : mj_J p l e R s m args below meth c D cl tys ad bi z nL off QQ b0 b1 pc ls (.int x :: r) h := by
  intro H locs k n L hl hr hS h1 h2
  rcases hok with ⟨d', ps', len, hd, hp, hdf, hlen, hq⟩ | ⟨d', lo, os, len, hd, hdf, hlen, hq⟩
  · obtain ⟨t, g1, g2⟩ := mj_sw_off (tg := fun t => (off t.toNat : Int)) hdf ps'.toList ps.toList hlen hq kk
    exact lv_lookup hx hb hd hp rfl g1 (g2 H locs k n L hl hr hS h1 h2)
  · rcases mj_sw_cases kk with ⟨j, v, t, g1, g2, g3⟩ | ⟨g1, g2⟩
    · have hj : j < os.size := by
        have := (List.getElem?_eq_some_iff.mp g1).1
        rw [← hlen] at this
        simpa using this
      obtain ⟨o, t', e1, e2, e3, e4⟩ := hq j hj
      rw [g1] at e2
      have e5 : (v, t) = (lo + (j : Int), t') := Option.some.inj e2
      cases e5
      have hxi : x.toInt = lo + j := by rw [g2]; exact e3
      refine lv_tableIn hx hb hd (by omega) (by omega) (off := o) ?_ e4 (g3 H locs k n L hl hr hS h1 h2)
      rw [show (x.toInt - lo).toNat = j by omega]
      exact e1
    · refine lv_tableOut hx hb hd ?_ hdf (g2 H locs k n L hl hr hS h1 h2)
      by_cases q : x.toInt < lo
      · exact Or.inl q
      · right
        by_cases q2 : lo + os.size - 1 < x.toInt
        · exact q2
        · exfalso
          have hj : (x.toInt - lo).toNat < os.size := by omega
          obtain ⟨o, t', e1, e2, e3, e4⟩ := hq _ hj
          refine g1 _ _ _ e2 (Int32.toInt_inj.mp ?_)
          rw [e3]
          omega
end MJE
end
section
def mj_lad (ad : Nat → Nat) (x y sz : Nat) : Nat → Nat := fun i => if i = 0 then x else if i = 1 then y else if i < 1000 then sz + (i - 2) else ad i
def mj_lz (x y sz : Nat) : Nat → Prop := fun q => q = x ∨ q = y ∨ sz ≤ q
def mj_lo (ml : Int32) (n N : Nat) (g : Nat → Int32) : List mj_O := [.inr (.inl (9, [.ref 1, .int 0, .int ml, .int (nI n)])), .inl (4, N, .inl g)]
theorem mj_lad0 {ad : Nat → Nat} {x y sz : Nat} : mj_lad ad x y sz 0 = x := by
  unfold mj_lad
  rw [if_pos rfl]
theorem mj_lad1 {ad : Nat → Nat} {x y sz : Nat} : mj_lad ad x y sz 1 = y := by
  unfold mj_lad
  rw [if_neg (by decide), if_pos rfl]
theorem mj_lad2 {ad : Nat → Nat} {x y sz i : Nat} (h2 : 2 ≤ i) (h : i < 1000) : mj_lad ad x y sz i = sz + (i - 2) := by
  unfold mj_lad
  rw [if_neg (by omega), if_neg (by omega), if_pos h]
theorem mj_ladc {ad : Nat → Nat} {x y sz i : Nat} (h : 1000 ≤ i) : mj_lad ad x y sz i = ad i := by
  unfold mj_lad
  rw [if_neg (by omega), if_neg (by omega), if_neg (by omega)]
theorem mj_ws_inv {tys : List (ClassId × FieldType)} {ad : Nat → Nat} {bi : Nat} {b : mj_B} {os : List mj_O} {k : Nat} {q : Nat × va_E} (h : (mj_ws tys ad bi b 0 os)[k]? = some q) : ∃ o, mj_nth os k = some o ∧ q = mj_en tys ad bi b k o := by
  have hk : k < os.length := by
    have := (List.getElem?_eq_some_iff.mp h).1
    rw [mj_ws_len] at this
    exact this
  have h1 : mj_nth os k = some os[k] := by
    rw [mj_nth_get]
    exact List.getElem?_eq_getElem hk
  have h2 := mj_at (tys := tys) (ad := ad) (bi := bi) (b := b) h1
  exact ⟨_, h1, Option.some.inj (h.symm.trans h2)⟩
section MJB
variable {D : va_G} {cl : List vw_C} {tys : List (ClassId × FieldType)} {ad : Nat → Nat} {z : Nat → Prop} {os : List mj_O} {b : mj_B} {H : Heap} {a n : Nat} {f : Nat → Nat}
theorem mj_b0 (ha : mj_nth os a = some (.inr (.inr (.inl (n, f))))) : (mj_ws tys ad 9 b 0 os)[a]? = some (ad a, .inr (9, [.ref (b.1 a), .int 0, .int (b.2.2.2 a), .int (nI n)])) := mj_at ha
theorem mj_b1 (hB : mj_bd b os) (ha : mj_nth os a = some (.inr (.inr (.inl (n, f))))) : (mj_ws tys ad 9 b 0 os)[a + 1]? = some (b.1 a, .inl (mj_tc tys 4, b.2.1 a, .inl (b.2.2.1 a))) := by
  have := mj_at (tys := tys) (ad := ad) (bi := 9) (b := b) (hB a n f ha).1
  exact this
theorem mj_rep_in {k0 k1 : Nat} (hP : va_P D cl (mj_ws tys ad 9 b 0 os) H) (hD : va_D (mj_A z) (mj_ws tys ad 9 b 0 os)) (hB : mj_bd b os) (hvs : ∀ (q : Nat) (cell : Cell), z q → H[q]? = some cell → cell.vm.isStatics = false) (ha : mj_nth os a = some (.inr (.inr (.inl (n, f))))) :
    mj_rep D cl tys (mj_lad ad (ad a) (b.1 a) H.size) 9 (mj_lz (ad a) (b.1 a) H.size) (mj_lo (b.2.2.2 a) n (b.2.1 a) (b.2.2.1 a), k0, k1, true) H := by
  have e0 := mj_b0 (tys := tys) (ad := ad) (b := b) ha
  have e1 := mj_b1 (tys := tys) (ad := ad) hB ha
  have ew : mj_ws tys (mj_lad ad (ad a) (b.1 a) H.size) 9 b 0 (mj_lo (b.2.2.2 a) n (b.2.1 a) (b.2.2.1 a)) = [(ad a, .inr (9, [.ref (b.1 a), .int 0, .int (b.2.2.2 a), .int (nI n)])), (b.1 a, .inl (mj_tc tys 4, b.2.1 a, .inl (b.2.2.1 a)))] := by
    simp only [mj_lo, mj_ws, mj_en, List.map_cons, List.map_nil, mj_tr, mj_lad0, Nat.zero_add, mj_lad1]
  have hne : ad a ≠ b.1 a := fun h => by
    have := hD.1 a (a + 1) _ _ e0 e1 h
    omega
  refine ⟨⟨b, ?_, ?_, ?_⟩, fun _ => ⟨?_, fun i h1 h2 => ?_⟩, fun q cell h1 h2 => ?_, fun q h => Or.inr (Or.inr h)⟩
  · show va_P D cl (mj_ws tys _ 9 b 0 (mj_lo _ n _ _)) H
    rw [ew]
    intro k q hk
    match k, hk with
    | 0, hk => cases hk; exact hP a _ e0
    | 1, hk => cases hk; exact hP (a + 1) _ e1
    | k + 2, hk => simp at hk
  · show va_D _ (mj_ws tys _ 9 b 0 (mj_lo _ n _ _))
    rw [ew]
    refine ⟨fun i j p q hi hj h => ?_, fun k q hk => ?_⟩
    · match i, j, hi, hj with
      | 0, 0, _, _ => rfl
      | 1, 1, _, _ => rfl
      | 0, 1, hi, hj => cases hi; cases hj; exact absurd h hne
      | 1, 0, hi, hj => cases hi; cases hj; exact absurd h.symm hne
      | i + 2, _, hi, _ => simp at hi
      | 0, j + 2, _, hj => simp at hj
      | 1, j + 2, _, hj => simp at hj
    · match k, hk with
      | 0, hk => cases hk; exact Or.inl rfl
      | 1, hk => cases hk; exact Or.inr (Or.inl rfl)
      | k + 2, hk => simp at hk
  · intro i n f hi
    match i, hi with
    | 0, hi => cases hi
    | 1, hi => cases hi
    | i + 2, hi => cases hi
  · show H.size = mj_lad ad (ad a) (b.1 a) H.size 2
    rw [mj_lad2 (by omega) (by omega)]
    rfl
  · have h1 : 2 ≤ i := h1
    rw [mj_lad2 (by omega) (by omega), mj_lad2 h1 (by omega)]
    omega
  · rcases h1 with h1 | h1 | h1
    · exact hvs q cell (by rw [h1]; exact hD.2 a _ e0) h2
    · exact hvs q cell (by rw [h1]; exact hD.2 (a + 1) _ e1) h2
    · exact absurd (Array.getElem?_eq_some_iff.mp h2).1 (Nat.not_lt.mpr h1)
theorem mj_rep_out {H1 : Heap} {os1 : List mj_O} {k0 k1 j N n1 : Nat} {fl : Bool} {g : Nat → Int32} {f1 : Nat → Nat} {ml : Int32} (hP : va_P D cl (mj_ws tys ad 9 b 0 os) H) (hD : va_D (mj_A z) (mj_ws tys ad 9 b 0 os)) (hB : mj_bd b os) (hvs : ∀ (q : Nat) (cell : Cell), z q → H[q]? = some cell → cell.vm.isStatics = false) (hz : ∀ q : Nat, H.size ≤ q → z q) (ha : mj_nth os a = some (.inr (.inr (.inl (n, f)))))
    (hS : H.size ≤ H1.size) (hF : ∀ q : Nat, q < H.size → ¬ mj_lz (ad a) (b.1 a) H.size q → H1[q]? = H[q]?) (hr : mj_rep D cl tys (mj_lad ad (ad a) (b.1 a) H.size) 9 (mj_lz (ad a) (b.1 a) H.size) (os1, k0, k1, fl) H1)
    (h0 : mj_nth os1 0 = some (.inr (.inl (9, [.ref j, .int 0, .int ml, .int (nI n1)])))) (hj : mj_nth os1 j = some (.inl (4, N, .inl g))) (hj0 : 0 < j) (hn : n1 ≤ N) (hN : N ≤ 65536) (hl : sb_Lat f1 n1 g) (hf : sb_Fit g) :
    mj_rep D cl tys ad 9 z (mj_stn os a (.inr (.inr (.inl (n1, f1)))), k0, k1, false) H1 := by
  obtain ⟨⟨c, hP1, hD1, -⟩, -, hvs1, -⟩ := hr
  have e0 := mj_b0 (tys := tys) (ad := ad) (b := b) ha
  have e1 := mj_b1 (tys := tys) (ad := ad) hB ha
  have l0 : (mj_ws tys (mj_lad ad (ad a) (b.1 a) H.size) 9 c 0 os1)[0]? = some (ad a, .inr (9, [.ref (mj_lad ad (ad a) (b.1 a) H.size j), .int 0, .int ml, .int (nI n1)])) := by
    have := mj_at (tys := tys) (ad := mj_lad ad (ad a) (b.1 a) H.size) (bi := 9) (b := c) h0
    simp only [mj_en, List.map_cons, List.map_nil, mj_tr, mj_lad0] at this
    exact this
  have lj : (mj_ws tys (mj_lad ad (ad a) (b.1 a) H.size) 9 c 0 os1)[j]? = some (mj_lad ad (ad a) (b.1 a) H.size j, .inl (mj_tc tys 4, N, .inl g)) := mj_at hj
  generalize hJ : mj_lad ad (ad a) (b.1 a) H.size j = y at l0 lj
  have hyne : ad a ≠ y := fun h => by
    have := hD1.1 0 j _ _ l0 lj h
    omega
  have hyz : mj_lz (ad a) (b.1 a) H.size y := hD1.2 j _ lj
  have hy2 : y = b.1 a ∨ H.size ≤ y := by
    rcases hyz with h | h | h
    · exact absurd h.symm hyne
    · exact Or.inl h
    · exact Or.inr h
  have ht := (hB a n f ha).1
  have hal : a < os.length := by
    rw [mj_nth_get] at ha
    exact (List.getElem?_eq_some_iff.mp ha).1
  have na : mj_nth (mj_stn os a (.inr (.inr (.inl (n1, f1))))) a = some (.inr (.inr (.inl (n1, f1)))) := by
    rw [mj_nth_get, mj_stn_set, List.getElem?_set_self hal]
  have no : ∀ k, k ≠ a → mj_nth (mj_stn os a (.inr (.inr (.inl (n1, f1))))) k = mj_nth os k := fun k hk => by
    rw [mj_nth_get, mj_stn_set, List.getElem?_set_ne (fun q => hk q.symm), mj_nth_get]
  obtain ⟨b1, hb1⟩ : ∃ b1 : mj_B, b1 = ((fun i => if i = a then y else b.1 i), (fun i => if i = a then N else b.2.1 i), (fun i => if i = a then g else b.2.2.1 i), (fun i => if i = a then ml else b.2.2.2 i)) := ⟨_, rfl⟩
  have s1 : b1.1 a = y := by rw [hb1]; exact if_pos rfl
  have s2 : b1.2.1 a = N := by rw [hb1]; exact if_pos rfl
  have s3 : b1.2.2.1 a = g := by rw [hb1]; exact if_pos rfl
  have s4 : b1.2.2.2 a = ml := by rw [hb1]; exact if_pos rfl
  have t1 : ∀ i, i ≠ a → b1.1 i = b.1 i := fun i h => by rw [hb1]; exact if_neg h
  have t2 : ∀ i, i ≠ a → b1.2.1 i = b.2.1 i := fun i h => by rw [hb1]; exact if_neg h
  have t3 : ∀ i, i ≠ a → b1.2.2.1 i = b.2.2.1 i := fun i h => by rw [hb1]; exact if_neg h
  have t4 : ∀ i, i ≠ a → b1.2.2.2 i = b.2.2.2 i := fun i h => by rw [hb1]; exact if_neg h
  have hc : ∀ k q, (mj_ws tys ad 9 b1 0 (mj_stn os a (.inr (.inr (.inl (n1, f1))))))[k]? = some q → (k = a ∧ q = (ad a, .inr (9, [.ref y, .int 0, .int ml, .int (nI n1)]))) ∨ (k = a + 1 ∧ q = (y, .inl (mj_tc tys 4, N, .inl g))) ∨ (k ≠ a ∧ k ≠ a + 1 ∧ (mj_ws tys ad 9 b 0 os)[k]? = some q) := by
    intro k q hk
    obtain ⟨o, h1, h2⟩ := mj_ws_inv hk
    by_cases hka : k = a
    · subst hka
      rw [na] at h1
      cases h1
      exact Or.inl ⟨rfl, by rw [h2]; simp only [mj_en, s1, s4]⟩
    · rw [no k hka] at h1
      by_cases hk1 : k = a + 1
      · subst hk1
        rw [ht] at h1
        cases h1
        refine Or.inr (Or.inl ⟨rfl, ?_⟩)
        rw [h2]
        simp only [mj_en, Nat.add_sub_cancel, s1, s2, s3]
      · refine Or.inr (Or.inr ⟨hka, hk1, ?_⟩)
        have h3 := mj_at (tys := tys) (ad := ad) (bi := 9) (b := b) h1
        rw [h3, h2]
        congr 1
        rcases o with o | o | o | o
        · rfl
        · rfl
        · simp only [mj_en, t1 k hka, t4 k hka]
        · have hk2 : k - 1 ≠ a := by omega
          simp only [mj_en, t1 _ hk2, t2 _ hk2, t3 _ hk2]
  have hold : ∀ k q, k ≠ a → k ≠ a + 1 → (mj_ws tys ad 9 b 0 os)[k]? = some q → q.1 < H.size ∧ q.1 ≠ ad a ∧ q.1 ≠ b.1 a := fun k q h1 h2 hk =>
    ⟨(hP k q hk).lt, fun h => h1 (hD.1 k a _ _ hk e0 h), fun h => h2 (hD.1 k (a + 1) _ _ hk e1 h)⟩
  refine ⟨⟨b1, ?_, ⟨?_, ?_⟩, ?_⟩, (fun h => by cases h), fun q cell g1 g2 => ?_, fun q h => hz q (Nat.le_trans hS h)⟩
  · intro k q hk
    rcases hc k q hk with ⟨-, e⟩ | ⟨-, e⟩ | ⟨g1, g2, e⟩
    · rw [e]; exact hP1 0 _ l0
    · rw [e]; exact hP1 j _ lj
    · obtain ⟨o1, o2, o3⟩ := hold k q g1 g2 e
      refine (hP k q e).kept (hF q.1 o1 ?_)
      rintro (h | h | h)
      · exact o2 h
      · exact o3 h
      · omega
  · intro i k p q hi hk h
    rcases hc i p hi with ⟨i1, ei⟩ | ⟨i1, ei⟩ | ⟨g1, g2, ei⟩ <;> rcases hc k q hk with ⟨k1, ek⟩ | ⟨k1, ek⟩ | ⟨g3, g4, ek⟩
    · rw [i1, k1]
    · rw [ei, ek] at h; exact absurd h hyne
    · rw [ei] at h; exact absurd h.symm (hold k q g3 g4 ek).2.1
    · rw [ei, ek] at h; exact absurd h.symm hyne
    · rw [i1, k1]
    · rw [ei] at h
      obtain ⟨o1, o2, o3⟩ := hold k q g3 g4 ek
      rcases hy2 with g | g
      · exact absurd (h.symm.trans g) o3
      · have h9 : y = q.1 := h
        omega
    · rw [ek] at h; exact absurd h (hold i p g1 g2 ei).2.1
    · rw [ek] at h
      obtain ⟨o1, o2, o3⟩ := hold i p g1 g2 ei
      rcases hy2 with g | g
      · exact absurd (h.trans g) o3
      · have h9 : p.1 = y := h
        omega
    · exact hD.1 i k p q ei ek h
  · intro k q hk
    rcases hc k q hk with ⟨-, e⟩ | ⟨-, e⟩ | ⟨g1, g2, e⟩
    · rw [e]
      have h9 := hD.2 a _ e0
      exact h9
    · rw [e]
      rcases hy2 with g | g
      · show z y
        rw [g]
        exact hD.2 (a + 1) _ e1
      · exact hz y g
    · exact hD.2 k q e
  · intro i m h hi
    by_cases hia : i = a
    · subst hia
      rw [na] at hi
      cases hi
      refine ⟨by rw [no _ (by omega)]; exact ht, ?_⟩
      rw [s2, s3]
      exact ⟨hn, hN, hl, hf⟩
    · rw [no i hia] at hi
      obtain ⟨h1, h2⟩ := hB i m h hi
      have hi1 : i + 1 ≠ a := fun q => by
        rw [q, ha] at h1
        cases h1
      refine ⟨by rw [no _ hi1]; exact h1, ?_⟩
      rw [t2 i hia, t3 i hia]
      exact h2
  · by_cases hq : mj_lz (ad a) (b.1 a) H.size q
    · exact hvs1 q cell hq g2
    · have hlt : q < H.size := Nat.lt_of_not_le (fun g => hq (Or.inr (Or.inr g)))
      rw [hF q hlt hq] at g2
      exact hvs q cell g1 g2
theorem mj_rep_cv {k0 k1 N : Nat} {fl : Bool} {g : Nat → Int32} {ml : Int32} (hr : mj_rep D cl tys ad 9 z (os, k0, k1, fl) H) (h0 : mj_nth os a = some (.inr (.inl (9, [.ref (a + 1), .int 0, .int ml, .int (nI 0)])))) (h1 : mj_nth os (a + 1) = some (.inl (4, N, .inl g))) (hN : N ≤ 65536) (hf : sb_Fit g) :
    mj_rep D cl tys ad 9 z (mj_stn (mj_stn os a (.inr (.inr (.inl (0, fun _ => 0))))) (a + 1) (.inr (.inr (.inr ()))), k0, k1, fl) H := by
  obtain ⟨⟨b, hP, hD, hB⟩, hs, hvs⟩ := hr
  have hal : a + 1 < os.length := by
    rw [mj_nth_get] at h1
    exact (List.getElem?_eq_some_iff.mp h1).1
  obtain ⟨os2, hos2⟩ : ∃ os2 : List mj_O, os2 = mj_stn (mj_stn os a (.inr (.inr (.inl (0, fun _ => 0))))) (a + 1) (.inr (.inr (.inr ()))) := ⟨_, rfl⟩
  have len2 : os2.length = os.length := by rw [hos2, mj_stn_set, mj_stn_set, List.length_set, List.length_set]
  have na : mj_nth os2 a = some (.inr (.inr (.inl (0, fun _ => 0)))) := by
    rw [hos2, mj_nth_get, mj_stn_set, mj_stn_set, List.getElem?_set_ne (by omega), List.getElem?_set_self (by omega)]
  have nb : mj_nth os2 (a + 1) = some (.inr (.inr (.inr ()))) := by
    rw [hos2, mj_nth_get, mj_stn_set, mj_stn_set, List.getElem?_set_self (by rw [List.length_set]; exact hal)]
  have no : ∀ k, k ≠ a → k ≠ a + 1 → mj_nth os2 k = mj_nth os k := fun k hk hk1 => by
    rw [hos2, mj_nth_get, mj_stn_set, mj_stn_set, List.getElem?_set_ne (fun q => hk1 q.symm), List.getElem?_set_ne (fun q => hk q.symm), mj_nth_get]
  obtain ⟨b1, hb1⟩ : ∃ b1 : mj_B, b1 = ((fun i => if i = a then ad (a + 1) else b.1 i), (fun i => if i = a then N else b.2.1 i), (fun i => if i = a then g else b.2.2.1 i), (fun i => if i = a then ml else b.2.2.2 i)) := ⟨_, rfl⟩
  have s1 : b1.1 a = ad (a + 1) := by rw [hb1]; exact if_pos rfl
  have s2 : b1.2.1 a = N := by rw [hb1]; exact if_pos rfl
  have s3 : b1.2.2.1 a = g := by rw [hb1]; exact if_pos rfl
  have s4 : b1.2.2.2 a = ml := by rw [hb1]; exact if_pos rfl
  have t1 : ∀ i, i ≠ a → b1.1 i = b.1 i := fun i h => by rw [hb1]; exact if_neg h
  have t2 : ∀ i, i ≠ a → b1.2.1 i = b.2.1 i := fun i h => by rw [hb1]; exact if_neg h
  have t3 : ∀ i, i ≠ a → b1.2.2.1 i = b.2.2.1 i := fun i h => by rw [hb1]; exact if_neg h
  have t4 : ∀ i, i ≠ a → b1.2.2.2 i = b.2.2.2 i := fun i h => by rw [hb1]; exact if_neg h
  have ew : mj_ws tys ad 9 b1 0 os2 = mj_ws tys ad 9 b 0 os := by
    apply List.ext_getElem?
    intro k
    by_cases hka : k = a
    · subst hka
      rw [mj_at na, mj_at h0]
      simp only [mj_en, s1, s4, List.map_cons, List.map_nil, mj_tr]
    · by_cases hk1 : k = a + 1
      · subst hk1
        rw [mj_at nb, mj_at h1]
        simp only [mj_en, Nat.add_sub_cancel, s1, s2, s3]
      · cases ho : mj_nth os k with
        | none =>
          have hk : os.length ≤ k := by
            rw [mj_nth_get] at ho
            exact List.getElem?_eq_none_iff.mp ho
          rw [List.getElem?_eq_none (by rw [mj_ws_len, len2]; exact hk), List.getElem?_eq_none (by rw [mj_ws_len]; exact hk)]
        | some o =>
          rw [mj_at ((no k hka hk1).trans ho), mj_at ho]
          congr 1
          rcases o with o | o | o | o
          · rfl
          · rfl
          · simp only [mj_en, t1 k hka, t4 k hka]
          · have hk2 : k - 1 ≠ a := by omega
            simp only [mj_en, t1 _ hk2, t2 _ hk2, t3 _ hk2]
  rw [← hos2]
  refine ⟨⟨b1, ?_, ?_, ?_⟩, fun h => ?_, hvs⟩
  · show va_P D cl (mj_ws tys ad 9 b1 0 os2) H
    rw [ew]
    exact hP
  · show va_D (mj_A z) (mj_ws tys ad 9 b1 0 os2)
    rw [ew]
    exact hD
  · intro i m h hi
    have hi : mj_nth os2 i = some (.inr (.inr (.inl (m, h)))) := hi
    show mj_nth os2 (i + 1) = _ ∧ _
    by_cases hia : i = a
    · subst hia
      rw [na] at hi
      cases hi
      refine ⟨nb, ?_⟩
      rw [s2, s3]
      exact ⟨Nat.zero_le _, hN, fun j hj => absurd hj (by omega), hf⟩
    · have hi1 : i ≠ a + 1 := fun q => by
        rw [q, nb] at hi
        cases hi
      rw [no i hia hi1] at hi
      obtain ⟨g1, g2⟩ := hB i m h hi
      have hia1 : i + 1 ≠ a := fun q => by
        rw [q, h0] at g1
        cases g1
      refine ⟨by rw [no _ hia1 (by omega)]; exact g1, ?_⟩
      rw [t2 i hia, t3 i hia]
      exact g2
  · have h9 := hs h
    show mj_nu ad os2.length H
    rw [len2]
    exact h9
end MJB
end
section
section MJY
variable {p : Program} {l : Launch} {e : Env} {R : Room} {s : State} {m : MethodId} {args : Array Value} {below : List Frame} {meth : Method} {c : Code}
variable {D : va_G} {cl : List vw_C} {tys : List (ClassId × FieldType)} {ad : Nat → Nat} {z : Nat → Prop} {nL : Nat} {off : Nat → Nat} {QQ : State → Prop} {b0 b1 : Nat} {cc : ByteArray} {pc : Nat} {ls : mj_L} {r : List Value} {h : mj_H}
variable {cst : Nat → Option (Nat × (Nat → Int32))} {ncs : mj_K} {xn : Nat → String}
def mj_c9 (bi : Nat) (cst : Nat → Option (Nat × (Nat → Int32))) (ncs : mj_K) : Prop := bi = 9 ∧ (∀ a x, cst a = some x → 1000 ≤ a) ∧ (∀ q ∈ ncs.2.2.2.2, mj_ni [q.2.2.2] = true) ∧ ∀ q ∈ ncs.2.2.2.1, q.2.2.2 ≠ 0 → 1000 ≤ q.2.2.2
theorem mj_ni_tr {x y sz : Nat} : ∀ {as : List Value}, mj_ni as = true → as.map (mj_tr (mj_lad ad x y sz)) = as.map (mj_tr ad) := by
  intro as
  induction as with
  | nil => intro _; rfl
  | cons v r ih =>
    intro h
    cases v with
    | int x => rw [List.map_cons, List.map_cons, ih h]; rfl
    | retAddr x =>
      rw [List.map_cons, List.map_cons, ih h]
      congr 1
    | ref w =>
      unfold mj_ni at h
      split at h
      · next hw =>
        have hw := Nat.le_of_ble_eq_true hw
        rw [List.map_cons, List.map_cons, ih h]
        congr 1
        show Value.ref (mj_lad ad x y sz w) = Value.ref (ad w)
        rw [mj_ladc hw]
      · cases h
    | _ => cases h
theorem mj_St_in {x y : Nat} {U : State} {bi : Nat} (h9 : mj_c9 bi cst ncs) (h : mj_St cst ad z ncs U) (hx : z x) (hy : z y) : mj_St cst (mj_lad ad x y U.heap.size) (mj_lz x y U.heap.size) ncs U := by
  obtain ⟨h1, h2, h3, h4, h5, h6, h7⟩ := h
  have hs : ∀ q, mj_lz x y U.heap.size q → z q := by
    rintro q (h | h | h)
    · rw [h]; exact hx
    · rw [h]; exact hy
    · exact h2 q h
  refine ⟨fun a n g ha => ?_, fun q h => Or.inr (Or.inr h), h3, h4, fun q hq => ?_, fun q hq => ?_, fun q hq => ?_⟩
  · have h8 := h1 a n g ha
    have e := mj_ladc (ad := ad) (x := x) (y := y) (sz := U.heap.size) (h9.2.1 a _ ha)
    refine ⟨fun g1 => ?_, fun g1 g2 => ?_, fun g1 => ?_⟩
    · rw [e]
      exact (h8.1 g1).narrow hs
    · rw [e]
      exact (h8.2.1 g1 g2).narrow hs
    · rw [e, mj_ladc (i := a - 900) (by omega)]
      exact ⟨(h8.2.2 g1).1.narrow hs, (h8.2.2 g1).2.1.narrow hs, (h8.2.2 g1).2.2.narrow hs⟩
  · obtain ⟨cf, kf, fi, f, a, cell, v, g1, g2, g3, g4, g5, g6, g7, g8, g9, g10, g11, g12⟩ := h5 q hq
    exact ⟨cf, kf, fi, f, a, cell, v, g1, g2, g3, g4, g5, g6, g7, g8, g9, g10, g11, fun g => g12 (hs a g)⟩
  · obtain ⟨w, g1, g2⟩ := h6 q hq
    refine ⟨w, g1, fun g3 => ?_⟩
    rw [mj_ladc (h9.2.2.2 q hq g3)]
    exact g2 g3
  · have e := mj_ni_tr (ad := ad) (x := x) (y := y) (sz := U.heap.size) (h9.2.2.1 q hq)
    have e' : mj_tr (mj_lad ad x y U.heap.size) q.2.2.2 = mj_tr ad q.2.2.2 := by simpa using e
    rw [e']
    exact (h7 q hq).narrow hs
theorem mj_so_bcall (hx : p.tables.exec = Jvm.exec) (hb : c.code = cc) (hml : c.maxLocals = nL) (hK : va_K D cl tys s) (hSt : mj_St cst ad z ncs s) (hR : R.cells = b0 ∧ R.slots = b1) (h9 : mj_c9 9 cst ncs)
    {y : MethodName} {ws : List Cond} {rm : Room} {bytes : ByteArray} {maxL : Nat} {ret : Option FieldType} {hh : List (Nat × Nat × Nat × Nat)} {ig : Instr} {as st : List Value} {kq : Nat → mj_L → List Value → mj_H → Prop} {a nb : Nat} {fb : Nat → Nat}
    (ha : mj_nth h.1 a = some (.inr (.inr (.inl (nb, fb))))) (hni : mj_ni as = true)
    (hM : ∀ (ad2 : Nat → Nat) (z2 : Nat → Prop) (ml : Int32) (N : Nat) (g : Nat → Int32), nb ≤ N → N ≤ 65536 → sb_Lat fb nb g → sb_Fit g → MetFree l y (headSpec ws rm) (mj_Pc D cl tys ad2 9 z2 cst ncs (.ref 0 :: as) (mj_lo ml nb N g, h.2.1, h.2.2.1, true)) (fun _ _ _ _ _ => True) (fun _ => mj_Qc D cl tys ad2 9 z2 xn h.2.1 h.2.2.1 (mj_bp kq pc ls r h a)))
    (hrc : rm.cells = h.2.1) (hrs : rm.slots = h.2.2.1) (hfr : rm.frames + 1 ≤ R.frames) (hlo : 8 + (maxL + 11) + rm.locals ≤ R.locals) (hwt : mj_wt r ≤ 8)
    (hws : ∀ w ∈ ws, ∀ (a' : Array Value) (U : State), s.WarmedH U.vm → w.before a' U = true) (hcd : mj_cd y bytes maxL ret hh ∈ ws) (hini : ∀ (a' : Array Value) (U : State), s.WarmedH U.vm → (Cond.initialized y.cls).before a' U = true)
    (hd : decode cc (off pc) = .ok (ig, 3)) (ho : off (pc + 1) = off pc + 3)
    (hinv : ∀ (T : State) (H : Heap) (locs : List Loc) (k n : Nat) (L : Array Slot), T.heap = H → mj_rep D cl tys ad 9 z h H → Stand p l e R s m args below meth c T locs k n → mj_Inv p l e R s m args below meth c T locs k n (F0 m (off pc) L (st.map (mj_tr ad))) (r.map (mj_tr ad)) y ((.ref a :: as).map (mj_tr ad)).toArray)
    (hk : ∀ pc ls st h, kq pc ls st h → mj_J p l e R s m args below meth c D cl tys ad 9 z nL off QQ b0 b1 pc ls st h) : mj_J p l e R s m args below meth c D cl tys ad 9 z nL off QQ b0 b1 pc ls st h := by
  intro H locs k n L hl hr hS h1 h2 T hT X
  obtain ⟨vm₁, mk, hW₁, X₁, hnm, hstep⟩ := hinv T H locs k n L hT hr X
  obtain ⟨⟨b, hP, hD, hB⟩, -, hvs1, hvs2⟩ := hr
  have hzs : ∀ q : Nat, s.heap.size ≤ q → z q := hSt.2.1
  have hSt1 : mj_St cst ad z ncs (T.setVm vm₁) := by
    refine hSt.go (U := T.setVm vm₁) hW₁ (fun q hq => ?_) ?_
    · show T.heap[q]? = s.heap[q]?
      rw [hT]
      exact hS.2.1 q (Nat.lt_of_not_le (fun g => hq (hzs q g))) hq
    · show s.heap.size ≤ T.heap.size
      rw [hT]
      exact hS.1
  have e0 := mj_b0 (tys := tys) (ad := ad) (b := b) ha
  have e1 := mj_b1 (tys := tys) (ad := ad) hB ha
  have zx : z (ad a) := hD.2 a _ e0
  have zy : z (b.1 a) := hD.2 (a + 1) _ e1
  have hlz : ∀ q, mj_lz (ad a) (b.1 a) H.size q → z q := by
    rintro q (g | g | g)
    · rw [g]; exact zx
    · rw [g]; exact zy
    · exact hvs2 q g
  have hSt2 : mj_St cst (mj_lad ad (ad a) (b.1 a) H.size) (mj_lz (ad a) (b.1 a) H.size) ncs (T.setVm vm₁) := by
    have := mj_St_in h9 hSt1 zx zy
    have e : (T.setVm vm₁).heap.size = H.size := by rw [← hT]; rfl
    rw [e] at this
    exact this
  obtain ⟨-, n1, n2, n3, n4⟩ := hB a nb fb ha
  have hwt' : 2 * (F0 m (off pc) L (r.map (mj_tr ad))).monitorRoom + ((F0 m (off pc) L (r.map (mj_tr ad))).stack.map fun v => v.category).sum ≤ 8 := by
    have := mj_wt_tr ad r
    unfold mj_wt at this hwt
    show 2 * 0 + ((r.map (mj_tr ad)).map fun v => v.category).sum ≤ 8
    rw [this]
    omega
  have eas : ((.ref a :: as).map (mj_tr ad)) = ((.ref 0 :: as).map (mj_tr (mj_lad ad (ad a) (b.1 a) H.size))) := by
    rw [List.map_cons, List.map_cons, mj_ni_tr hni]
    congr 1
  obtain ⟨o, t, hq, hgo⟩ := mj_back (hh := hh) (bytes := bytes) (maxL := maxL) (ret := ret) (Wt := 8) (len := 3) (ig := ig) (U := T.setVm vm₁) (g := F0 m (off pc) L (r.map (mj_tr ad))) (a := ((.ref a :: as).map (mj_tr ad)).toArray) (mk := mk) (hM (mj_lad ad (ad a) (b.1 a) H.size) (mj_lz (ad a) (b.1 a) H.size) (b.2.2.2 a) (b.2.1 a) (b.2.2.1 a) n1 n2 n3 n4) hfr hlo X₁ rfl (by show L.size = c.maxLocals; rw [hml]; exact hl.1) (by rw [hb]; exact hd) hwt' hnm (fun w hw => hws w hw _ _ hW₁) (mj_cd_or (hws _ hcd _ _ hW₁)) (hini _ _ hW₁) (by rw [hrc, hR.1]; exact h1) (by rw [hrs, hR.2]; exact h2)
    ⟨by rw [eas], by show mj_rep D cl tys _ 9 _ _ T.heap; rw [hT]; exact mj_rep_in hP hD hB hvs1 ha, va_K.moved hW₁.alike hK, hSt2⟩ (fun o t hq => by
      obtain ⟨r9, -, -, -, -, L9, k9, n9, hf, -⟩ := hq
      exact ⟨L9, k9, n9, hf⟩)
  obtain ⟨⟨rv, h'⟩, hQ, hout, hrep, hF, L9, k9, n9, hfe, hL9, hk9, hn9⟩ := hq
  obtain ⟨U', e1', e2', XU, hret, hthr⟩ := hgo L9 k9 n9 hfe
  have hF' : T.heap.size ≤ t.heap.size ∧ ∀ q : Nat, q < T.heap.size → ¬ mj_lz (ad a) (b.1 a) H.size q → t.heap[q]? = T.heap[q]? := hF
  rw [hT] at hF'
  have hS' : va_S (mj_A z) s.heap t.heap (locs ++ L9) := by
    refine ⟨Nat.le_trans hS.1 hF'.1, fun q g1 g2 => ?_, fun q hq => ?_⟩
    · rw [hF'.2 q (Nat.lt_of_lt_of_le g1 hS.1) (fun g => g2 (hlz q g))]
      exact hS.2.1 q g1 g2
    · rcases List.mem_append.mp hq with g | g
      · exact hS.2.2 q g
      · exact hlz _ (hL9 q g)
  have c1 : k + k9 + h'.2.1 ≤ b0 := by
    have := h1
    have := hk9
    simp only at *
    omega
  have c2 : n + n9 + h'.2.2.1 ≤ b1 := by
    have := h2
    have := hn9
    simp only at *
    omega
  obtain ⟨os1, bc1, bs1, fl1⟩ := h'
  cases rv with
  | inl v =>
    have ho1 : o = .returned (v.map (mj_tr (mj_lad ad (ad a) (b.1 a) H.size))) := hout
    obtain ⟨j, N, g, n5, f5, ml, q1, q2, q3, q4, q5, q6, q7, q8⟩ := hQ
    have hrep' : mj_rep D cl tys ad 9 z (mj_stn h.1 a (.inr (.inr (.inl (n5, f5)))), bc1, bs1, false) t.heap := mj_rep_out hP hD hB hvs1 hvs2 ha hF'.1 hF'.2 hrep q1 q2 q3 q4 q5 q6 q7
    have fin : ∀ w : Option Value, v.map (mj_tr (mj_lad ad (ad a) (b.1 a) H.size)) = w.map (mj_tr ad) → kq (pc + 1) ls (w.toList ++ r) (mj_stn h.1 a (.inr (.inr (.inl (n5, f5)))), bc1, bs1, false) → ∃ t2, Steps p.tables e below (T.setTop (F0 m (off pc) L (st.map (mj_tr ad)))) t2 ∧ QQ t2 := by
      intro w ew q9
      rw [ew] at ho1
      obtain ⟨t2, a1, b1⟩ := hk _ _ _ _ q9 t.heap (locs ++ L9) (k + k9) (n + n9) L hl hrep' hS' c1 c2 U' e1' XU
      refine ⟨t2, hstep t2 (hret _ ho1 t2 ?_), b1⟩
      rw [ho] at a1
      have e9 : (w.map (mj_tr ad)).toList ++ r.map (mj_tr ad) = (w.toList ++ r).map (mj_tr ad) := by cases w <;> rfl
      show Steps p.tables e below (U'.setTop (F0 m (off pc + 3) L ((w.map (mj_tr ad)).toList ++ r.map (mj_tr ad)))) t2
      rw [e9]
      exact a1
    split at q8
    · exact fin none rfl q8
    · next x => exact fin (some (.int x)) rfl q8
    · refine fin (some (.ref a)) ?_ q8
      show some (Value.ref (mj_lad ad (ad a) (b.1 a) H.size 0)) = some (Value.ref (ad a))
      rw [mj_lad0]
    · exact q8.elim
  | inr q => exact hQ.elim
theorem mj_nn {w : Int32} (h : ¬ w < 0) : w.toInt = (w.toNatClampNeg : Int) := by
  obtain ⟨j, hj, rfl⟩ := nI_of h
  rw [nI_toInt hj, nI_clamp hj]
theorem mj_so_copy {bi : Nat} (hx : p.tables.exec = Jvm.exec) (hb : c.code = cc) (hml : c.maxLocals = nL) {own : String} (hown : s.vm.findClass own = some m.cls) {TS : List Cond} (hts : ∀ w ∈ TS, w.before args s = true) (hK : va_K D cl tys s) {idx : Nat} (g1 : Jvm.Cond.methodLink own idx arraycopyName ∈ TS) (g2 : Jvm.Cond.native arraycopyName ∈ TS) (g3 : Jvm.Cond.static arraycopyName ∈ TS) (g4 : Jvm.Cond.initialized "java/lang/System" ∈ TS)
    {a0 a n0 n1 : Nat} {f g : Nat → Int32} {sp dp w : Int32} {cA : ClassId} (ht : tys[4]? = some (cA, .byte)) (ha0 : mj_nth h.1 a0 = some (.inl (4, n0, .inl f))) (ha : mj_nth h.1 a = some (.inl (4, n1, .inl g))) (h1 : ¬ sp < 0) (h2 : ¬ dp < 0) (h3 : ¬ w < 0) (h4 : sp.toNatClampNeg + w.toNatClampNeg ≤ n0) (h5 : dp.toNatClampNeg + w.toNatClampNeg ≤ n1) (hfit : sb_Fit f)
    (hfr : 1 ≤ R.frames) (hlo : mj_wt r + (nativeFrameWords "java/lang/System" "arraycopy" 5 + 11) ≤ R.locals) (hd : decode cc (off pc) = .ok (.invokestatic idx, 3)) (ho : off (pc + 1) = off pc + 3)
    (kk : mj_J p l e R s m args below meth c D cl tys ad bi z nL off QQ b0 b1 (pc + 1) ls r (mj_set h a (.inl (4, n1, .inl (va_cpy f g sp.toNatClampNeg dp.toNatClampNeg w.toNatClampNeg))))) : mj_J p l e R s m args below meth c D cl tys ad bi z nL off QQ b0 b1 pc ls (.int w :: .int dp :: .ref a :: .int sp :: .ref a0 :: r) h := by
  intro H locs k n L hl hr hS h1' h2' T hT X
  have hc0 := mj_cellA ht hr ha0
  have hc1 := mj_cellA ht hr ha
  have hA : mj_A z (ad a) := mj_in_A hr ha trivial
  obtain ⟨-, k0, hk0, cm0, hkk0⟩ := (hK.2 4 _ ht).1 n0 (fun j => .int (f j))
  obtain ⟨-, k1, hk1, cm1, hkk1⟩ := (hK.2 4 _ ht).1 n1 (fun j => .int (g j))
  have hwt := mj_wt_tr ad r
  unfold mj_wt at hwt hlo
  obtain ⟨vm', X', step⟩ := X.arraycopy hx hown (hts _ g1) (hts _ g2) (hts _ g3) (hts _ g4) (src := ad a0) (dst := ad a) (cs := vp_cell cA (n0, .inl f)) (cd := vp_cell cA (n1, .inl g)) (srcPos := sp) (destPos := dp) (n := w) (by rw [hT]; exact hc0) (by rw [hT]; exact hc1)
    (fun _ h => by cases h) (fun _ h => by cases h) (fun h => by cases h) (fun h => by cases h) hk0 hk1 hkk0 hkk1 (by show ((refKind FieldType.byte != refKind FieldType.byte) || (!refKind FieldType.byte && FieldType.byte != FieldType.byte)) = false; decide) h1 h2 h3
    (by rw [mj_nn h1, mj_nn h3]; show ¬ _ > ((arrV cA n0 (fun j => .int (f j))).slots.size : Int); rw [arrV_size]; omega)
    (by rw [mj_nn h2, mj_nn h3]; show ¬ _ > ((arrV cA n1 (fun j => .int (g j))).slots.size : Int); rw [arrV_size]; omega)
    (fun vm₁ _ i hi => by
      have e : (vp_cell cA (n0, .inl f)).slots.getD (sp.toNatClampNeg + i) .null = .int (f (sp.toNatClampNeg + i)) := by
        show (arrV cA n0 (fun j => .int (f j))).slots.getD _ _ = _
        rw [Array.getD_eq_getD_getElem?, arrV_read _ _ (by omega)]
        rfl
      exact ⟨by rw [e]; exact hfit _, by rw [e]; exact trivial⟩)
    (g := F0 m (off pc) L ((.int w :: .int dp :: .ref a :: .int sp :: .ref a0 :: r).map (mj_tr ad))) rfl (by rw [hml]; exact hl.1) (rest := r.map (mj_tr ad)) rfl (by rw [hb]; exact hd) hfr (by show 2 * 0 + _ + _ ≤ _; rw [hwt]; omega)
  have e1 : copied (vp_cell cA (n0, .inl f)) (vp_cell cA (n1, .inl g)) sp dp w = vp_cell cA (n1, .inl (va_cpy f g sp.toNatClampNeg dp.toNatClampNeg w.toNatClampNeg)) := va_copied (fun z => .int z) cA cA f g h4
  rw [e1] at X' step
  generalize va_cpy f g sp.toNatClampNeg dp.toNatClampNeg w.toNatClampNeg = g5 at *
  have hlt : ad a < H.size := (Array.getElem?_eq_some_iff.mp hc1).1
  have hheap : ((T.setVm vm').setCell (ad a) (vp_cell cA (n1, .inl g5))).heap = H.setIfInBounds (ad a) (vp_cell cA (n1, .inl g5)) := by rw [← hT]; rfl
  have oq : ∀ q : Nat, q ≠ ad a → (H.setIfInBounds (ad a) (vp_cell cA (n1, .inl g5)))[q]? = H[q]? := fun q hq => by simp [Array.getElem?_setIfInBounds, Ne.symm hq]
  have hrep : mj_rep D cl tys ad bi z (mj_set h a (.inl (4, n1, .inl g5))) (H.setIfInBounds (ad a) (vp_cell cA (n1, .inl g5))) := mj_rep_put hr ha trivial trivial (fun b => by
    show (H.setIfInBounds (ad a) (vp_cell cA (n1, .inl g5)))[ad a]? = some (vp_cell (mj_tc tys 4) (n1, .inl g5))
    simp only [mj_tc, ht, Option.map_some, Option.getD_some]
    simp [Array.getElem?_setIfInBounds, hlt]) (by simp) oq
  have hS' : va_S (mj_A z) s.heap (H.setIfInBounds (ad a) (vp_cell cA (n1, .inl g5))) (locs ++ ((vp_cell cA (n0, .inl f)).stretch sp.toNatClampNeg w.toNatClampNeg).zipIdx.map fun q => ⟨ad a, dp.toNatClampNeg + q.2⟩) := by
    refine ⟨by simp; exact hS.1, fun q g1 g2 => ?_, fun q hq => ?_⟩
    · rw [oq q (fun e => g2 (by rw [e]; exact hA))]
      exact hS.2.1 q g1 g2
    · rcases List.mem_append.mp hq with h | h
      · exact hS.2.2 q h
      · obtain ⟨y, -, hy⟩ := List.mem_map.mp h
        rw [← hy]
        exact hA
  obtain ⟨t, a1, b1⟩ := kk _ _ k n L hl hrep hS' h1' h2' _ hheap X'
  rw [ho] at a1
  exact ⟨t, step t a1, b1⟩
theorem mj_so_ccopy {bi : Nat} (hx : p.tables.exec = Jvm.exec) (hb : c.code = cc) (hml : c.maxLocals = nL) {own : String} (hown : s.vm.findClass own = some m.cls) {TS : List Cond} (hts : ∀ w ∈ TS, w.before args s = true) (hK : va_K D cl tys s) {idx : Nat} (g1 : Jvm.Cond.methodLink own idx arraycopyName ∈ TS) (g2 : Jvm.Cond.native arraycopyName ∈ TS) (g3 : Jvm.Cond.static arraycopyName ∈ TS) (g4 : Jvm.Cond.initialized "java/lang/System" ∈ TS)
    {a0 a n0 n1 : Nat} {f g : Nat → Int32} {sp dp w : Int32} {cA : ClassId} (ht : tys[4]? = some (cA, .byte)) (hX : va_T .byte (ad a0) n0 (fun j => .int (f j)) (mj_A z) s s.heap) (ha : mj_nth h.1 a = some (.inl (4, n1, .inl g))) (h1 : ¬ sp < 0) (h2 : ¬ dp < 0) (h3 : ¬ w < 0) (h4 : sp.toNatClampNeg + w.toNatClampNeg ≤ n0) (h5 : dp.toNatClampNeg + w.toNatClampNeg ≤ n1) (hfit : sb_Fit f)
    (hfr : 1 ≤ R.frames) (hlo : mj_wt r + (nativeFrameWords "java/lang/System" "arraycopy" 5 + 11) ≤ R.locals) (hd : decode cc (off pc) = .ok (.invokestatic idx, 3)) (ho : off (pc + 1) = off pc + 3)
    (kk : mj_J p l e R s m args below meth c D cl tys ad bi z nL off QQ b0 b1 (pc + 1) ls r (mj_set h a (.inl (4, n1, .inl (va_cpy f g sp.toNatClampNeg dp.toNatClampNeg w.toNatClampNeg))))) : mj_J p l e R s m args below meth c D cl tys ad bi z nL off QQ b0 b1 pc ls (.int w :: .int dp :: .ref a :: .int sp :: .ref a0 :: r) h := by
  intro H locs k n L hl hr hS h1' h2' T hT X
  obtain ⟨scr, hs1, hs2, hs3, hs4, -, hs5, hs7⟩ := hX
  have hc0 : H[ad a0]? = some scr := by rw [hS.2.1 _ (Array.getElem?_eq_some_iff.mp hs1).1 hs7]; exact hs1
  have hc1 := mj_cellA ht hr ha
  have hA : mj_A z (ad a) := mj_in_A hr ha trivial
  obtain ⟨hs6, k0, hk0, cm0, hkk0⟩ := hs2
  obtain ⟨-, k1, hk1, cm1, hkk1⟩ := (hK.2 4 _ ht).1 n1 (fun j => .int (g j))
  have hwt := mj_wt_tr ad r
  unfold mj_wt at hwt hlo
  obtain ⟨vm', X', step⟩ := X.arraycopy hx hown (hts _ g1) (hts _ g2) (hts _ g3) (hts _ g4) (src := ad a0) (dst := ad a) (cs := scr) (cd := vp_cell cA (n1, .inl g)) (srcPos := sp) (destPos := dp) (n := w) (by rw [hT]; exact hc0) (by rw [hT]; exact hc1)
    hs6 (fun _ h => by cases h) hs3 (fun h => by cases h) hk0 hk1 hkk0 hkk1 (by simp [refKind]) h1 h2 h3
    (by rw [mj_nn h1, mj_nn h3]; omega)
    (by rw [mj_nn h2, mj_nn h3]; show ¬ _ > ((arrV cA n1 (fun j => .int (g j))).slots.size : Int); rw [arrV_size]; omega)
    (fun vm₁ _ i hi => by
      have e : scr.slots.getD (sp.toNatClampNeg + i) .null = .int (f (sp.toNatClampNeg + i)) := by
        rw [Array.getD_eq_getD_getElem?, hs5 _ (by omega)]
        rfl
      exact ⟨by rw [e]; exact hfit _, by rw [e]; exact trivial⟩)
    (g := F0 m (off pc) L ((.int w :: .int dp :: .ref a :: .int sp :: .ref a0 :: r).map (mj_tr ad))) rfl (by rw [hml]; exact hl.1) (rest := r.map (mj_tr ad)) rfl (by rw [hb]; exact hd) hfr (by show 2 * 0 + _ + _ ≤ _; rw [hwt]; omega)
  have e1 : copied scr (vp_cell cA (n1, .inl g)) sp dp w = vp_cell cA (n1, .inl (va_cpy f g sp.toNatClampNeg dp.toNatClampNeg w.toNatClampNeg)) := va_copiedX (fun z => .int z) scr cA f g hs5 h4
  rw [e1] at X' step
  generalize va_cpy f g sp.toNatClampNeg dp.toNatClampNeg w.toNatClampNeg = g5 at *
  have hlt : ad a < H.size := (Array.getElem?_eq_some_iff.mp hc1).1
  have hheap : ((T.setVm vm').setCell (ad a) (vp_cell cA (n1, .inl g5))).heap = H.setIfInBounds (ad a) (vp_cell cA (n1, .inl g5)) := by rw [← hT]; rfl
  have oq : ∀ q : Nat, q ≠ ad a → (H.setIfInBounds (ad a) (vp_cell cA (n1, .inl g5)))[q]? = H[q]? := fun q hq => by simp [Array.getElem?_setIfInBounds, Ne.symm hq]
  have hrep : mj_rep D cl tys ad bi z (mj_set h a (.inl (4, n1, .inl g5))) (H.setIfInBounds (ad a) (vp_cell cA (n1, .inl g5))) := mj_rep_put hr ha trivial trivial (fun b => by
    show (H.setIfInBounds (ad a) (vp_cell cA (n1, .inl g5)))[ad a]? = some (vp_cell (mj_tc tys 4) (n1, .inl g5))
    simp only [mj_tc, ht, Option.map_some, Option.getD_some]
    simp [Array.getElem?_setIfInBounds, hlt]) (by simp) oq
  have hS' : va_S (mj_A z) s.heap (H.setIfInBounds (ad a) (vp_cell cA (n1, .inl g5))) (locs ++ (scr.stretch sp.toNatClampNeg w.toNatClampNeg).zipIdx.map fun q => ⟨ad a, dp.toNatClampNeg + q.2⟩) := by
    refine ⟨by simp; exact hS.1, fun q g1 g2 => ?_, fun q hq => ?_⟩
    · rw [oq q (fun e => g2 (by rw [e]; exact hA))]
      exact hS.2.1 q g1 g2
    · rcases List.mem_append.mp hq with h | h
      · exact hS.2.2 q h
      · obtain ⟨y, -, hy⟩ := List.mem_map.mp h
        rw [← hy]
        exact hA
  obtain ⟨t, a1, b1⟩ := kk _ _ k n L hl hrep hS' h1' h2' _ hheap X'
  rw [ho] at a1
  exact ⟨t, step t a1, b1⟩
theorem mj_so_ldcS {bi : Nat} (hx : p.tables.exec = Jvm.exec) (hb : c.code = cc) {own : String} (hown : s.vm.findClass own = some m.cls) (hSt : mj_St cst ad z ncs s) {j w : Nat} {tx : String} (hm : (own, j, tx, w) ∈ ncs.2.2.2.1) (hw : w ≠ 0) (hd : decode cc (off pc) = .ok (.ldc j, 2)) (ho : off (pc + 1) = off pc + 2) (kk : mj_J p l e R s m args below meth c D cl tys ad bi z nL off QQ b0 b1 (pc + 1) ls (.ref w :: r) h) : mj_J p l e R s m args below meth c D cl tys ad bi z nL off QQ b0 b1 pc ls r h := by
  intro H locs k n L hl hr hS h1 h2
  have K := kk H locs k n L hl hr hS h1 h2
  rw [ho] at K
  obtain ⟨a, g1, g2⟩ := hSt.2.2.2.2.2.1 _ hm
  have g2 := g2 hw
  have g1 : vk_R own j tx a s := g1
  rw [g2] at g1
  exact va_ldcS hx hb hown g1 hd K
theorem mj_so_sget {bi : Nat} (hx : p.tables.exec = Jvm.exec) (hb : c.code = cc) {own : String} (hown : s.vm.findClass own = some m.cls) {TS : List Cond} (hts : ∀ w ∈ TS, w.before args s = true) {a idx : Nat} {nm d : String} {v : Value} (hE : va_OF "java/lang/String" nm d (mj_tr ad v) (ad a) (mj_A z) s s.heap) (hlink : Jvm.Cond.fieldLink own idx "java/lang/String" nm d ∈ TS) (hd : decode cc (off pc) = .ok (.getfield idx, 3)) (ho : off (pc + 1) = off pc + 3) (kk : mj_J p l e R s m args below meth c D cl tys ad bi z nL off QQ b0 b1 (pc + 1) ls (v :: r) h) : mj_J p l e R s m args below meth c D cl tys ad bi z nL off QQ b0 b1 pc ls (.ref a :: r) h := by
  intro H locs k n L hl hr hS h1 h2
  have K := kk H locs k n L hl hr hS h1 h2
  rw [ho] at K
  exact vk_getf hx hb hE hS hown (hts _ hlink) (fun _ h9 => h9) hd K
end MJY
end
section
abbrev mj_G : Type := List Cond × List vw_C × (Nat → Nat → FieldType) × (Nat → MethodName) × (Nat → ByteArray) × (Nat → Nat) × (Nat → Option FieldType) × (Nat → List (Nat × Nat × Nat × Nat)) × (Nat → String) × (Nat → List String) × mj_K × mj_N
abbrev mj_TS (G : mj_G) : List Cond := G.1
abbrev mj_cl (G : mj_G) : List vw_C := G.2.1
abbrev mj_tf (G : mj_G) : Nat → Nat → FieldType := G.2.2.1
abbrev mj_mn (G : mj_G) : Nat → MethodName := G.2.2.2.1
abbrev mj_mb (G : mj_G) : Nat → ByteArray := G.2.2.2.2.1
abbrev mj_ml (G : mj_G) : Nat → Nat := G.2.2.2.2.2.1
abbrev mj_mr (G : mj_G) : Nat → Option FieldType := G.2.2.2.2.2.2.1
abbrev mj_mh (G : mj_G) : Nat → List (Nat × Nat × Nat × Nat) := G.2.2.2.2.2.2.2.1
abbrev mj_xn (G : mj_G) : Nat → String := G.2.2.2.2.2.2.2.2.1
abbrev mj_xs (G : mj_G) : Nat → List String := G.2.2.2.2.2.2.2.2.2.1
abbrev mj_nc (G : mj_G) : mj_K := G.2.2.2.2.2.2.2.2.2.2.1
abbrev mj_nw (G : mj_G) : mj_N := G.2.2.2.2.2.2.2.2.2.2.2
def mj_cw (G : mj_G) (y : Nat) : Cond := mj_cd (mj_mn G y) (mj_mb G y) (mj_ml G y) (mj_mr G y) (mj_mh G y)
def mj_okC (G : mj_G) (ci : Nat) (C : String) (T : u_T) (N : Nat) : Prop := (mj_cl G)[ci]? = some (C, T, N) ∧ (∀ w ∈ u_ws C T N, w ∈ mj_TS G) ∧ (∀ k, k < N → parseFieldDescriptor (T k).2.2.1 = some (mj_tf G ci k)) ∧ ∀ a, a < N → ∀ b, b < N → a ≠ b → (T a).2.1 ≠ (T b).2.1
def mj_okT (t : Nat) (ty : FieldType) : Prop := match t with
  | 0 => ty = .int
  | 1 => ty = .long
  | 2 => (∃ n, ty = .object n) ∨ ∃ a, ty = .array a
  | 3 => ty = .boolean ∨ ty = .byte
  | _ => False
def mj_okY (G : mj_G) (own : String) (cc : ByteArray) (b y n : Nat) : Prop := mj_cw G y ∈ mj_TS G ∧ mj_ml G y ≤ 40 ∧ Jvm.Cond.initialized (mj_mn G y).cls ∈ mj_TS G ∧ ((mj_mn G y).cls ≠ "java/lang/invoke/MethodHandle" ∧ (mj_mn G y).cls ≠ "java/lang/invoke/VarHandle") ∧
  ∃ j : Nat, Jvm.Cond.methodLink own j (mj_mn G y) ∈ mj_TS G ∧ match n % 4 with
    | 0 => decode cc b = .ok (.invokevirtual j, 3) ∧ Jvm.Cond.instanceMethod (mj_mn G y) ∈ mj_TS G ∧ (∃ C T N, (mj_cl G)[n / 64]? = some (C, T, N) ∧ Jvm.Cond.selects C (mj_mn G y) (mj_mn G y) ∈ mj_TS G) ∧ (parseMethodDescriptor (mj_mn G y).desc).map (fun d => d.parameters.length + 1) = some (n / 4 % 16)
    | 1 => decode cc b = .ok (.invokestatic j, 3) ∧ Jvm.Cond.static (mj_mn G y) ∈ mj_TS G ∧ (parseMethodDescriptor (mj_mn G y).desc).map (fun d => d.parameters.length) = some (n / 4 % 16)
    | 2 => decode cc b = .ok (.invokespecial j, 3) ∧ Jvm.Cond.instanceMethod (mj_mn G y) ∈ mj_TS G ∧ (mj_mn G y).name = "<init>" ∧ mj_mh G y = [] ∧ mj_mr G y = none ∧ (parseMethodDescriptor (mj_mn G y).desc).map (fun d => d.parameters.length + 1) = some (n / 4 % 16)
    | 3 => decode cc b = .ok (.invokespecial j, 3) ∧ Jvm.Cond.instanceMethod (mj_mn G y) ∈ mj_TS G ∧ Jvm.Cond.sameMethod (mj_mn G y).cls (mj_mn G y).cls (mj_mn G y).name (mj_mn G y).desc ∈ mj_TS G ∧ Jvm.Cond.superclass own (mj_mn G y).cls ∈ mj_TS G ∧ (mj_mn G y).name ≠ "<init>" ∧ (∃ C T N, (mj_cl G)[n / 64]? = some (C, T, N) ∧ Jvm.Cond.instantiable C N ∈ mj_TS G) ∧ (parseMethodDescriptor (mj_mn G y).desc).map (fun d => d.parameters.length + 1) = some (n / 4 % 16)
    | _ => False
def mj_OK (G : mj_G) (own : String) (cc : ByteArray) (nL : Nat) (off : Nat → Nat) (rt : Option FieldType) (ini nh : Bool) (pc : Nat) (i : Instr) : Prop := match i with
  | .iconst v => mj_ok (mj_TS G) own cc nL off rt pc (.iconst v) ∨ ∃ j C f d, decode cc (off pc) = .ok (.getstatic j, 3) ∧ off (pc + 1) = off pc + 3 ∧ (C, f, d, Value.int (Int32.ofInt v)) ∈ (mj_nc G).2.2.2.2 ∧ Jvm.Cond.fieldLink own j C f d ∈ mj_TS G
  | .getstatic k => ∃ j C f d, decode cc (off pc) = .ok (.getstatic j, 3) ∧ off (pc + 1) = off pc + 3 ∧ (C, f, d, Value.ref k) ∈ (mj_nc G).2.2.2.2 ∧ Jvm.Cond.fieldLink own j C f d ∈ mj_TS G
  | .getfield f => ∃ j C T N, decode cc (off pc) = .ok (.getfield j, 3) ∧ off (pc + 1) = off pc + 3 ∧ mj_okC G (f / 256) C T N ∧ f / 4 % 64 < N ∧ Jvm.Cond.fieldLink own j (T (f / 4 % 64)).1 (T (f / 4 % 64)).2.1 (T (f / 4 % 64)).2.2.1 ∈ mj_TS G
  | .putfield f => ∃ j C T N, decode cc (off pc) = .ok (.putfield j, 3) ∧ off (pc + 1) = off pc + 3 ∧ mj_okC G (f / 256) C T N ∧ f / 4 % 64 < N ∧ Jvm.Cond.fieldLink own j (T (f / 4 % 64)).1 (T (f / 4 % 64)).2.1 (T (f / 4 % 64)).2.2.1 ∈ mj_TS G ∧ mj_okT (f % 4) (mj_tf G (f / 256) (f / 4 % 64)) ∧ ((T (f / 4 % 64)).2.2.2 = false ∨ ((T (f / 4 % 64)).2.2.2 = true ∧ ini = true ∧ (T (f / 4 % 64)).1 = own))
  | .new ci => ∃ j C T N fs, decode cc (off pc) = .ok (.new j, 3) ∧ off (pc + 1) = off pc + 3 ∧ mj_okC G ci C T N ∧ mj_nw G ci = some fs ∧ fs.length = N ∧ (∀ k, k < N → fs[k]? = some (defaultValue (mj_tf G ci k))) ∧ Jvm.Cond.classLink own j C ∈ mj_TS G ∧ Jvm.Cond.instantiable C N ∈ mj_TS G ∧ Jvm.Cond.initialized C ∈ mj_TS G
  | .newarray t => decode cc (off pc) = .ok (.newarray t, 2) ∧ off (pc + 1) = off pc + 2 ∧ Jvm.Cond.arrayClass (newarray.typeOf t) ∈ mj_TS G
  | .invokeinterface y n => off (pc + 1) = off pc + 3 ∧ mj_okY G own cc (off pc) y n
  | .invokestatic _ => ∃ j, decode cc (off pc) = .ok (.invokestatic j, 3) ∧ off (pc + 1) = off pc + 3 ∧ Jvm.Cond.methodLink own j arraycopyName ∈ mj_TS G ∧ Jvm.Cond.native arraycopyName ∈ mj_TS G ∧ Jvm.Cond.static arraycopyName ∈ mj_TS G ∧ Jvm.Cond.initialized "java/lang/System" ∈ mj_TS G
  | .areturn => decode cc (off pc) = .ok (.areturn, 1) ∧ ∃ ty, rt = some ty ∧ ty.isReference = true
  | .invokespecial w => off (pc + 1) = off pc + 3 ∧ mj_okY G own cc (off pc) (w / 1024) (w % 1024) ∧ w % 4 = 2 ∧ w / 4 % 16 = 1
  | .invokevirtual w => off (pc + 1) = off pc + 3 ∧ mj_okY G own cc (off pc) (w / 1024) (w % 1024) ∧ w % 1024 / 64 = 9 ∧ w % 4 = 0
  | .invokedynamic w => ∃ j, decode cc (off pc) = .ok (.invokestatic j, 3) ∧ off (pc + 1) = off pc + 3 ∧ Jvm.Cond.initialized "java/lang/Math" ∈ mj_TS G ∧ match w with
    | 0 => Jvm.Cond.methodLink own j Lib.Math.max.name ∈ mj_TS G ∧ Jvm.Cond.static Lib.Math.max.name ∈ mj_TS G ∧ Jvm.Cond.code Lib.Math.max.name Lib.Math.max.code 2 (some .int) ∈ mj_TS G
    | 1 => Jvm.Cond.methodLink own j Lib.Math.min.name ∈ mj_TS G ∧ Jvm.Cond.static Lib.Math.min.name ∈ mj_TS G ∧ Jvm.Cond.code Lib.Math.min.name Lib.Math.min.code 2 (some .int) ∈ mj_TS G
    | _ => False
  | .monitorenter => ∃ j, decode cc (off pc) = .ok (.invokespecial j, 3) ∧ off (pc + 1) = off pc + 3 ∧ Jvm.Cond.methodLink own j objectInit ∈ mj_TS G ∧ Jvm.Cond.instanceMethod objectInit ∈ mj_TS G ∧ Jvm.Cond.code objectInit ⟨#[0xb1]⟩ 1 none ∈ mj_TS G
  | .checkcast q => nh = true ∧ ∃ ia ib ic tx, decode cc (off pc) = .ok (.new ia, 3) ∧ decode cc (off pc + 3) = .ok (.dup, 1) ∧ decode cc (off pc + 3 + 1) = .ok (.ldc ib, 2) ∧ decode cc (off pc + 3 + 1 + 2) = .ok (.invokespecial ic, 3) ∧ decode cc (off pc + 3 + 1 + 2 + 3) = .ok (.athrow, 1) ∧ Bundle.fit (mj_xn G q) = true ∧ (∀ n ∈ mj_xs G q, Bundle.fit n = true) ∧ (mj_xs G q).length ≤ 3 ∧ mj_wok (mj_TS G) (mj_nc G) (.classLink own ia (mj_xn G q)) = true ∧ mj_wok (mj_TS G) (mj_nc G) (.instantiable (mj_xn G q) 6) = true ∧ mj_wok (mj_TS G) (mj_nc G) (.initialized (mj_xn G q)) = true ∧ (∀ a ∈ Bundle.ownAtoms own ic (mj_xn G q) (mj_xs G q), mj_wok (mj_TS G) (mj_nc G) a = true) ∧ (own, ib, tx, 0) ∈ (mj_nc G).2.2.2.1
  | .jsr _ => True
  | .athrow => decode cc (off pc) = .ok (.ireturn, 1) ∧ rt = some .byte
  | .ifnonnull t => ∃ o : Int, decode cc (off pc) = .ok (.ifnonnull o, 3) ∧ (off pc : Int) + o = (off t.toNat : Int)
  | .dload _ => ∃ j C f d, decode cc (off pc) = .ok (.getstatic j, 3) ∧ off (pc + 1) = off pc + 3 ∧ (C, f, d, Value.retAddr 0) ∈ (mj_nc G).2.2.2.2 ∧ Jvm.Cond.fieldLink own j C f d ∈ mj_TS G
  | .ldc w => ∃ j tx, decode cc (off pc) = .ok (.ldc j, 2) ∧ off (pc + 1) = off pc + 2 ∧ (own, j, tx, w) ∈ (mj_nc G).2.2.2.1 ∧ w ≠ 0
  | .anewarray w => ∃ j, decode cc (off pc) = .ok (.getfield j, 3) ∧ off (pc + 1) = off pc + 3 ∧ match w with
    | 0 => Jvm.Cond.fieldLink own j "java/lang/String" "value" "[B" ∈ mj_TS G
    | _ => Jvm.Cond.fieldLink own j "java/lang/String" "coder" "B" ∈ mj_TS G
  | .instanceof w => off (pc + 1) = off pc + 3 ∧ mj_cw G (w / 1024) ∈ mj_TS G ∧ mj_ml G (w / 1024) ≤ 40 ∧ Jvm.Cond.initialized (mj_mn G (w / 1024)).cls ∈ mj_TS G ∧ ((mj_mn G (w / 1024)).cls ≠ "java/lang/invoke/MethodHandle" ∧ (mj_mn G (w / 1024)).cls ≠ "java/lang/invoke/VarHandle") ∧
      ∃ j : Nat, Jvm.Cond.methodLink own j (mj_mn G (w / 1024)) ∈ mj_TS G ∧ decode cc (off pc) = .ok (.invokevirtual j, 3) ∧ Jvm.Cond.instanceMethod (mj_mn G (w / 1024)) ∈ mj_TS G ∧ Jvm.Cond.selects "java/lang/String" (mj_mn G (w / 1024)) (mj_mn G (w / 1024)) ∈ mj_TS G ∧ (parseMethodDescriptor (mj_mn G (w / 1024)).desc).map (fun d => d.parameters.length + 1) = some (w / 4 % 16)
  | .fload _ => ∃ j, decode cc (off pc) = .ok (.invokestatic j, 3) ∧ off (pc + 1) = off pc + 3 ∧ Jvm.Cond.methodLink own j arraycopyName ∈ mj_TS G ∧ Jvm.Cond.native arraycopyName ∈ mj_TS G ∧ Jvm.Cond.static arraycopyName ∈ mj_TS G ∧ Jvm.Cond.initialized "java/lang/System" ∈ mj_TS G
  | i => mj_ok (mj_TS G) own cc nL off rt pc i
def mj_rm (n : Nat) (h : mj_H) : Room := { frames := 10 + n, cells := h.2.1, slots := h.2.2.1, locals := 300 + 64 * n }
def mj_ty5 (tys : List (ClassId × FieldType)) : Prop := ∃ c0 c1 c2 c3 c4, tys = [(c0, .int), (c1, .long), (c2, .char), (c3, .boolean), (c4, .byte)]
section MJB
variable {p : Program} {l : Launch} {e : Env} {R : Room} {s : State} {m : MethodId} {args : Array Value} {below : List Frame} {meth : Method} {c : Code}
variable {G : mj_G} {D : va_G} {tys : List (ClassId × FieldType)} {ad : Nat → Nat} {bi : Nat} {z : Nat → Prop} {nL : Nat} {off : Nat → Nat} {QQ : State → Prop} {b0 b1 : Nat} {cc : ByteArray} {pc : Nat} {ls : mj_L} {st r : List Value} {h : mj_H}
variable {cst : Nat → Option (Nat × (Nat → Int32))} {own : String} {rt : Option FieldType} {ini nh : Bool} {n : Nat} {Q : mj_R → Prop} {hd : Nat → Nat → Option (Option (Nat × Nat))} {k : Nat → mj_L → List Value → mj_H → Prop} {call : Nat → List Value → mj_H → (mj_R → Prop) → Prop}
def mj_Cx (p : Program) (l : Launch) (e : Env) (R : Room) (s : State) (m : MethodId) (args : Array Value) (below : List Frame) (meth : Method) (c : Code) (G : mj_G) (D : va_G) (tys : List (ClassId × FieldType)) (ad : Nat → Nat) (bi : Nat) (z : Nat → Prop) (nL : Nat) (QQ : State → Prop) (b0 b1 : Nat) (cc : ByteArray) (cst : Nat → Option (Nat × (Nat → Int32))) (own : String) (rt : Option FieldType) (ini nh : Bool) (n : Nat) (Q : mj_R → Prop) : Prop :=
  p.tables.exec = Jvm.exec ∧ c.code = cc ∧ c.maxLocals = nL ∧ s.vm.findClass own = some m.cls ∧ (∀ w ∈ mj_TS G, w.before args s = true) ∧ (∀ w ∈ mj_TS G, mj_gw w = true) ∧ va_K D (mj_cl G) tys s ∧ mj_St cst ad z (mj_nc G) s ∧ (R.cells = b0 ∧ R.slots = b1) ∧ R.frames = 10 + n + 1 ∧ R.locals = 300 + 64 * (n + 1) ∧ meth.locks = false ∧ meth.sig.returnType = rt ∧ (ini = true → meth.name = "<init>") ∧ (nh = true → c.exceptionTable.toList = []) ∧ (l.admits e → e.platform.stackTraces = false) ∧ mj_ty5 tys ∧ mj_c9 bi cst (mj_nc G) ∧ QQ = mj_Z below s (mj_Qc D (mj_cl G) tys ad bi z (mj_xn G) b0 b1 Q s)
theorem mj_st_iconst (Cx : mj_Cx p l e R s m args below meth c G D tys ad bi z nL QQ b0 b1 cc cst own rt ini nh n Q) (hk : ∀ pc ls st h, k pc ls st h → mj_J p l e R s m args below meth c D (mj_cl G) tys ad bi z nL off QQ b0 b1 pc ls st h) {v : Int} (hok : mj_OK G own cc nL off rt ini nh pc (.iconst v)) (hs : mj_stp call cst (mj_nw G) hd Q k (.iconst v) pc ls st h) : mj_J p l e R s m args below meth c D (mj_cl G) tys ad bi z nL off QQ b0 b1 pc ls st h := by
  obtain ⟨hx, hb, hml, hown, hts, hgood, hK, hSt, hR, hRf, hRl, hlocks, hrt, hini, hnh, htr, hty, had, hQQ⟩ := Cx
  rcases hok with hok | ⟨j, C, f, d, g1, g2, g3, g4⟩
  · exact mj_so_iconst hx hb hown hts hok (hk _ _ _ _ hs)
  · exact mj_so_gets hx hb hown hts hSt g3 g4 g1 g2 (hk _ _ _ _ hs)
theorem mj_st_ldc2 (Cx : mj_Cx p l e R s m args below meth c G D tys ad bi z nL QQ b0 b1 cc cst own rt ini nh n Q) (hk : ∀ pc ls st h, k pc ls st h → mj_J p l e R s m args below meth c D (mj_cl G) tys ad bi z nL off QQ b0 b1 pc ls st h) {v : Nat} (hok : mj_OK G own cc nL off rt ini nh pc (.ldc2_w v)) (hs : mj_stp call cst (mj_nw G) hd Q k (.ldc2_w v) pc ls st h) : mj_J p l e R s m args below meth c D (mj_cl G) tys ad bi z nL off QQ b0 b1 pc ls st h := by
  obtain ⟨hx, hb, hml, hown, hts, hgood, hK, hSt, hR, hRf, hRl, hlocks, hrt, hini, hnh, htr, hty, had, hQQ⟩ := Cx
  exact mj_so_lconst (rt := rt) hx hb hown hts hok (hk _ _ _ _ hs)
theorem mj_st_iload (Cx : mj_Cx p l e R s m args below meth c G D tys ad bi z nL QQ b0 b1 cc cst own rt ini nh n Q) (hk : ∀ pc ls st h, k pc ls st h → mj_J p l e R s m args below meth c D (mj_cl G) tys ad bi z nL off QQ b0 b1 pc ls st h) {i : Nat} (hok : mj_OK G own cc nL off rt ini nh pc (.iload i)) (hs : mj_stp call cst (mj_nw G) hd Q k (.iload i) pc ls st h) : mj_J p l e R s m args below meth c D (mj_cl G) tys ad bi z nL off QQ b0 b1 pc ls st h := by
  obtain ⟨hx, hb, hml, hown, hts, hgood, hK, hSt, hR, hRf, hRl, hlocks, hrt, hini, hnh, htr, hty, had, hQQ⟩ := Cx
  simp only [mj_stp] at hs
  split at hs
  · next x hv =>
    rcases hok with ⟨f, hf, hd, ho⟩ | ⟨hd, ho⟩
    · exact mj_so_iload_n hx hb hf hv hd ho (hk _ _ _ _ hs)
    · exact mj_so_iload hx hb hv hd ho (hk _ _ _ _ hs)
  · exact hs.elim
theorem mj_st_lload (Cx : mj_Cx p l e R s m args below meth c G D tys ad bi z nL QQ b0 b1 cc cst own rt ini nh n Q) (hk : ∀ pc ls st h, k pc ls st h → mj_J p l e R s m args below meth c D (mj_cl G) tys ad bi z nL off QQ b0 b1 pc ls st h) {i : Nat} (hok : mj_OK G own cc nL off rt ini nh pc (.lload i)) (hs : mj_stp call cst (mj_nw G) hd Q k (.lload i) pc ls st h) : mj_J p l e R s m args below meth c D (mj_cl G) tys ad bi z nL off QQ b0 b1 pc ls st h := by
  obtain ⟨hx, hb, hml, hown, hts, hgood, hK, hSt, hR, hRf, hRl, hlocks, hrt, hini, hnh, htr, hty, had, hQQ⟩ := Cx
  simp only [mj_stp] at hs
  split at hs
  · next x hv =>
    rcases hok with ⟨f, hf, hd, ho⟩ | ⟨hd, ho⟩
    · exact mj_so_lload_n hx hb hf hv hd ho (hk _ _ _ _ hs)
    · exact mj_so_lload hx hb hv hd ho (hk _ _ _ _ hs)
  · exact hs.elim
theorem mj_st_aload (Cx : mj_Cx p l e R s m args below meth c G D tys ad bi z nL QQ b0 b1 cc cst own rt ini nh n Q) (hk : ∀ pc ls st h, k pc ls st h → mj_J p l e R s m args below meth c D (mj_cl G) tys ad bi z nL off QQ b0 b1 pc ls st h) {i : Nat} (hok : mj_OK G own cc nL off rt ini nh pc (.aload i)) (hs : mj_stp call cst (mj_nw G) hd Q k (.aload i) pc ls st h) : mj_J p l e R s m args below meth c D (mj_cl G) tys ad bi z nL off QQ b0 b1 pc ls st h := by
  obtain ⟨hx, hb, hml, hown, hts, hgood, hK, hSt, hR, hRf, hRl, hlocks, hrt, hini, hnh, htr, hty, had, hQQ⟩ := Cx
  simp only [mj_stp] at hs
  split at hs
  · next x hv =>
    rcases hok with ⟨f, hf, hd, ho⟩ | ⟨hd, ho⟩
    · exact mj_so_aload_n hx hb hf hv hd ho (hk _ _ _ _ hs)
    · exact mj_so_aload hx hb hv hd ho (hk _ _ _ _ hs)
  · exact hs.elim
theorem mj_st_istore (Cx : mj_Cx p l e R s m args below meth c G D tys ad bi z nL QQ b0 b1 cc cst own rt ini nh n Q) (hk : ∀ pc ls st h, k pc ls st h → mj_J p l e R s m args below meth c D (mj_cl G) tys ad bi z nL off QQ b0 b1 pc ls st h) {i : Nat} (hok : mj_OK G own cc nL off rt ini nh pc (.istore i)) (hs : mj_stp call cst (mj_nw G) hd Q k (.istore i) pc ls st h) : mj_J p l e R s m args below meth c D (mj_cl G) tys ad bi z nL off QQ b0 b1 pc ls st h := by
  obtain ⟨hx, hb, hml, hown, hts, hgood, hK, hSt, hR, hRf, hRl, hlocks, hrt, hini, hnh, htr, hty, had, hQQ⟩ := Cx
  simp only [mj_stp] at hs
  split at hs
  · obtain ⟨hi, hok⟩ := hok
    rcases hok with ⟨f, hf, hd, ho⟩ | ⟨hd, ho⟩
    · exact mj_so_istore_n hx hb hf hi hd ho (hk _ _ _ _ hs)
    · exact mj_so_istore hx hb hi hd ho (hk _ _ _ _ hs)
  · exact hs.elim
theorem mj_st_lstore (Cx : mj_Cx p l e R s m args below meth c G D tys ad bi z nL QQ b0 b1 cc cst own rt ini nh n Q) (hk : ∀ pc ls st h, k pc ls st h → mj_J p l e R s m args below meth c D (mj_cl G) tys ad bi z nL off QQ b0 b1 pc ls st h) {i : Nat} (hok : mj_OK G own cc nL off rt ini nh pc (.lstore i)) (hs : mj_stp call cst (mj_nw G) hd Q k (.lstore i) pc ls st h) : mj_J p l e R s m args below meth c D (mj_cl G) tys ad bi z nL off QQ b0 b1 pc ls st h := by
  obtain ⟨hx, hb, hml, hown, hts, hgood, hK, hSt, hR, hRf, hRl, hlocks, hrt, hini, hnh, htr, hty, had, hQQ⟩ := Cx
  simp only [mj_stp] at hs
  split at hs
  · obtain ⟨hi, hok⟩ := hok
    rcases hok with ⟨f, hf, hd, ho⟩ | ⟨hd, ho⟩
    · exact mj_so_lstore_n hx hb hf hi hd ho (hk _ _ _ _ hs)
    · exact mj_so_lstore hx hb hi hd ho (hk _ _ _ _ hs)
  · exact hs.elim
theorem mj_st_astore (Cx : mj_Cx p l e R s m args below meth c G D tys ad bi z nL QQ b0 b1 cc cst own rt ini nh n Q) (hk : ∀ pc ls st h, k pc ls st h → mj_J p l e R s m args below meth c D (mj_cl G) tys ad bi z nL off QQ b0 b1 pc ls st h) {i : Nat} (hok : mj_OK G own cc nL off rt ini nh pc (.astore i)) (hs : mj_stp call cst (mj_nw G) hd Q k (.astore i) pc ls st h) : mj_J p l e R s m args below meth c D (mj_cl G) tys ad bi z nL off QQ b0 b1 pc ls st h := by
  obtain ⟨hx, hb, hml, hown, hts, hgood, hK, hSt, hR, hRf, hRl, hlocks, hrt, hini, hnh, htr, hty, had, hQQ⟩ := Cx
  simp only [mj_stp] at hs
  split at hs
  · obtain ⟨hi, hok⟩ := hok
    rcases hok with ⟨f, hf, hd, ho⟩ | ⟨hd, ho⟩
    · exact mj_so_astore_n hx hb hf hi hd ho (hk _ _ _ _ hs)
    · exact mj_so_astore hx hb hi hd ho (hk _ _ _ _ hs)
  · exact hs.elim
theorem mj_st_iinc (Cx : mj_Cx p l e R s m args below meth c G D tys ad bi z nL QQ b0 b1 cc cst own rt ini nh n Q) (hk : ∀ pc ls st h, k pc ls st h → mj_J p l e R s m args below meth c D (mj_cl G) tys ad bi z nL off QQ b0 b1 pc ls st h) {i : Nat} {v : Int} (hok : mj_OK G own cc nL off rt ini nh pc (.iinc i v)) (hs : mj_stp call cst (mj_nw G) hd Q k (.iinc i v) pc ls st h) : mj_J p l e R s m args below meth c D (mj_cl G) tys ad bi z nL off QQ b0 b1 pc ls st h := by
  obtain ⟨hx, hb, hml, hown, hts, hgood, hK, hSt, hR, hRf, hRl, hlocks, hrt, hini, hnh, htr, hty, had, hQQ⟩ := Cx
  simp only [mj_stp] at hs
  split at hs
  · next x hv =>
    obtain ⟨hi, hd, ho⟩ := hok
    exact mj_so_iinc hx hb hi hv hd ho (hk _ _ _ _ hs)
  · exact hs.elim
theorem mj_st_iadd (Cx : mj_Cx p l e R s m args below meth c G D tys ad bi z nL QQ b0 b1 cc cst own rt ini nh n Q) (hk : ∀ pc ls st h, k pc ls st h → mj_J p l e R s m args below meth c D (mj_cl G) tys ad bi z nL off QQ b0 b1 pc ls st h) (hok : mj_OK G own cc nL off rt ini nh pc (.iadd)) (hs : mj_stp call cst (mj_nw G) hd Q k (.iadd) pc ls st h) : mj_J p l e R s m args below meth c D (mj_cl G) tys ad bi z nL off QQ b0 b1 pc ls st h := by
  obtain ⟨hx, hb, hml, hown, hts, hgood, hK, hSt, hR, hRf, hRl, hlocks, hrt, hini, hnh, htr, hty, had, hQQ⟩ := Cx
  simp only [mj_stp] at hs
  split at hs
  · exact mj_so_iadd hx hb hok.1 hok.2 (hk _ _ _ _ hs)
  · exact hs.elim
theorem mj_st_isub (Cx : mj_Cx p l e R s m args below meth c G D tys ad bi z nL QQ b0 b1 cc cst own rt ini nh n Q) (hk : ∀ pc ls st h, k pc ls st h → mj_J p l e R s m args below meth c D (mj_cl G) tys ad bi z nL off QQ b0 b1 pc ls st h) (hok : mj_OK G own cc nL off rt ini nh pc (.isub)) (hs : mj_stp call cst (mj_nw G) hd Q k (.isub) pc ls st h) : mj_J p l e R s m args below meth c D (mj_cl G) tys ad bi z nL off QQ b0 b1 pc ls st h := by
  obtain ⟨hx, hb, hml, hown, hts, hgood, hK, hSt, hR, hRf, hRl, hlocks, hrt, hini, hnh, htr, hty, had, hQQ⟩ := Cx
  simp only [mj_stp] at hs
  split at hs
  · exact mj_so_isub hx hb hok.1 hok.2 (hk _ _ _ _ hs)
  · exact hs.elim
theorem mj_st_imul (Cx : mj_Cx p l e R s m args below meth c G D tys ad bi z nL QQ b0 b1 cc cst own rt ini nh n Q) (hk : ∀ pc ls st h, k pc ls st h → mj_J p l e R s m args below meth c D (mj_cl G) tys ad bi z nL off QQ b0 b1 pc ls st h) (hok : mj_OK G own cc nL off rt ini nh pc (.imul)) (hs : mj_stp call cst (mj_nw G) hd Q k (.imul) pc ls st h) : mj_J p l e R s m args below meth c D (mj_cl G) tys ad bi z nL off QQ b0 b1 pc ls st h := by
  obtain ⟨hx, hb, hml, hown, hts, hgood, hK, hSt, hR, hRf, hRl, hlocks, hrt, hini, hnh, htr, hty, had, hQQ⟩ := Cx
  simp only [mj_stp] at hs
  split at hs
  · exact mj_so_imul hx hb hok.1 hok.2 (hk _ _ _ _ hs)
  · exact hs.elim
theorem mj_st_iand (Cx : mj_Cx p l e R s m args below meth c G D tys ad bi z nL QQ b0 b1 cc cst own rt ini nh n Q) (hk : ∀ pc ls st h, k pc ls st h → mj_J p l e R s m args below meth c D (mj_cl G) tys ad bi z nL off QQ b0 b1 pc ls st h) (hok : mj_OK G own cc nL off rt ini nh pc (.iand)) (hs : mj_stp call cst (mj_nw G) hd Q k (.iand) pc ls st h) : mj_J p l e R s m args below meth c D (mj_cl G) tys ad bi z nL off QQ b0 b1 pc ls st h := by
  obtain ⟨hx, hb, hml, hown, hts, hgood, hK, hSt, hR, hRf, hRl, hlocks, hrt, hini, hnh, htr, hty, had, hQQ⟩ := Cx
  simp only [mj_stp] at hs
  split at hs
  · exact mj_so_iand hx hb hok.1 hok.2 (hk _ _ _ _ hs)
  · exact hs.elim
theorem mj_st_ior (Cx : mj_Cx p l e R s m args below meth c G D tys ad bi z nL QQ b0 b1 cc cst own rt ini nh n Q) (hk : ∀ pc ls st h, k pc ls st h → mj_J p l e R s m args below meth c D (mj_cl G) tys ad bi z nL off QQ b0 b1 pc ls st h) (hok : mj_OK G own cc nL off rt ini nh pc (.ior)) (hs : mj_stp call cst (mj_nw G) hd Q k (.ior) pc ls st h) : mj_J p l e R s m args below meth c D (mj_cl G) tys ad bi z nL off QQ b0 b1 pc ls st h := by
  obtain ⟨hx, hb, hml, hown, hts, hgood, hK, hSt, hR, hRf, hRl, hlocks, hrt, hini, hnh, htr, hty, had, hQQ⟩ := Cx
  simp only [mj_stp] at hs
  split at hs
  · exact mj_so_ior hx hb hok.1 hok.2 (hk _ _ _ _ hs)
  · exact hs.elim
theorem mj_st_ixor (Cx : mj_Cx p l e R s m args below meth c G D tys ad bi z nL QQ b0 b1 cc cst own rt ini nh n Q) (hk : ∀ pc ls st h, k pc ls st h → mj_J p l e R s m args below meth c D (mj_cl G) tys ad bi z nL off QQ b0 b1 pc ls st h) (hok : mj_OK G own cc nL off rt ini nh pc (.ixor)) (hs : mj_stp call cst (mj_nw G) hd Q k (.ixor) pc ls st h) : mj_J p l e R s m args below meth c D (mj_cl G) tys ad bi z nL off QQ b0 b1 pc ls st h := by
  obtain ⟨hx, hb, hml, hown, hts, hgood, hK, hSt, hR, hRf, hRl, hlocks, hrt, hini, hnh, htr, hty, had, hQQ⟩ := Cx
  simp only [mj_stp] at hs
  split at hs
  · exact mj_so_ixor hx hb hok.1 hok.2 (hk _ _ _ _ hs)
  · exact hs.elim
theorem mj_st_ishl (Cx : mj_Cx p l e R s m args below meth c G D tys ad bi z nL QQ b0 b1 cc cst own rt ini nh n Q) (hk : ∀ pc ls st h, k pc ls st h → mj_J p l e R s m args below meth c D (mj_cl G) tys ad bi z nL off QQ b0 b1 pc ls st h) (hok : mj_OK G own cc nL off rt ini nh pc (.ishl)) (hs : mj_stp call cst (mj_nw G) hd Q k (.ishl) pc ls st h) : mj_J p l e R s m args below meth c D (mj_cl G) tys ad bi z nL off QQ b0 b1 pc ls st h := by
  obtain ⟨hx, hb, hml, hown, hts, hgood, hK, hSt, hR, hRf, hRl, hlocks, hrt, hini, hnh, htr, hty, had, hQQ⟩ := Cx
  simp only [mj_stp] at hs
  split at hs
  · exact mj_so_ishl hx hb hok.1 hok.2 (hk _ _ _ _ hs)
  · exact hs.elim
theorem mj_st_ishr (Cx : mj_Cx p l e R s m args below meth c G D tys ad bi z nL QQ b0 b1 cc cst own rt ini nh n Q) (hk : ∀ pc ls st h, k pc ls st h → mj_J p l e R s m args below meth c D (mj_cl G) tys ad bi z nL off QQ b0 b1 pc ls st h) (hok : mj_OK G own cc nL off rt ini nh pc (.ishr)) (hs : mj_stp call cst (mj_nw G) hd Q k (.ishr) pc ls st h) : mj_J p l e R s m args below meth c D (mj_cl G) tys ad bi z nL off QQ b0 b1 pc ls st h := by
  obtain ⟨hx, hb, hml, hown, hts, hgood, hK, hSt, hR, hRf, hRl, hlocks, hrt, hini, hnh, htr, hty, had, hQQ⟩ := Cx
  simp only [mj_stp] at hs
  split at hs
  · exact mj_so_ishr hx hb hok.1 hok.2 (hk _ _ _ _ hs)
  · exact hs.elim
theorem mj_st_iushr (Cx : mj_Cx p l e R s m args below meth c G D tys ad bi z nL QQ b0 b1 cc cst own rt ini nh n Q) (hk : ∀ pc ls st h, k pc ls st h → mj_J p l e R s m args below meth c D (mj_cl G) tys ad bi z nL off QQ b0 b1 pc ls st h) (hok : mj_OK G own cc nL off rt ini nh pc (.iushr)) (hs : mj_stp call cst (mj_nw G) hd Q k (.iushr) pc ls st h) : mj_J p l e R s m args below meth c D (mj_cl G) tys ad bi z nL off QQ b0 b1 pc ls st h := by
  obtain ⟨hx, hb, hml, hown, hts, hgood, hK, hSt, hR, hRf, hRl, hlocks, hrt, hini, hnh, htr, hty, had, hQQ⟩ := Cx
  simp only [mj_stp] at hs
  split at hs
  · exact mj_so_iushr hx hb hok.1 hok.2 (hk _ _ _ _ hs)
  · exact hs.elim
theorem mj_st_ineg (Cx : mj_Cx p l e R s m args below meth c G D tys ad bi z nL QQ b0 b1 cc cst own rt ini nh n Q) (hk : ∀ pc ls st h, k pc ls st h → mj_J p l e R s m args below meth c D (mj_cl G) tys ad bi z nL off QQ b0 b1 pc ls st h) (hok : mj_OK G own cc nL off rt ini nh pc (.ineg)) (hs : mj_stp call cst (mj_nw G) hd Q k (.ineg) pc ls st h) : mj_J p l e R s m args below meth c D (mj_cl G) tys ad bi z nL off QQ b0 b1 pc ls st h := by
  obtain ⟨hx, hb, hml, hown, hts, hgood, hK, hSt, hR, hRf, hRl, hlocks, hrt, hini, hnh, htr, hty, had, hQQ⟩ := Cx
  simp only [mj_stp] at hs
  split at hs
  · exact mj_so_ineg hx hb hok.1 hok.2 (hk _ _ _ _ hs)
  · exact hs.elim
theorem mj_st_lneg (Cx : mj_Cx p l e R s m args below meth c G D tys ad bi z nL QQ b0 b1 cc cst own rt ini nh n Q) (hk : ∀ pc ls st h, k pc ls st h → mj_J p l e R s m args below meth c D (mj_cl G) tys ad bi z nL off QQ b0 b1 pc ls st h) (hok : mj_OK G own cc nL off rt ini nh pc (.lneg)) (hs : mj_stp call cst (mj_nw G) hd Q k (.lneg) pc ls st h) : mj_J p l e R s m args below meth c D (mj_cl G) tys ad bi z nL off QQ b0 b1 pc ls st h := by
  obtain ⟨hx, hb, hml, hown, hts, hgood, hK, hSt, hR, hRf, hRl, hlocks, hrt, hini, hnh, htr, hty, had, hQQ⟩ := Cx
  simp only [mj_stp] at hs
  split at hs
  · exact mj_so_lneg hx hb hok.1 hok.2 (hk _ _ _ _ hs)
  · exact hs.elim
theorem mj_st_ladd (Cx : mj_Cx p l e R s m args below meth c G D tys ad bi z nL QQ b0 b1 cc cst own rt ini nh n Q) (hk : ∀ pc ls st h, k pc ls st h → mj_J p l e R s m args below meth c D (mj_cl G) tys ad bi z nL off QQ b0 b1 pc ls st h) (hok : mj_OK G own cc nL off rt ini nh pc (.ladd)) (hs : mj_stp call cst (mj_nw G) hd Q k (.ladd) pc ls st h) : mj_J p l e R s m args below meth c D (mj_cl G) tys ad bi z nL off QQ b0 b1 pc ls st h := by
  obtain ⟨hx, hb, hml, hown, hts, hgood, hK, hSt, hR, hRf, hRl, hlocks, hrt, hini, hnh, htr, hty, had, hQQ⟩ := Cx
  simp only [mj_stp] at hs
  split at hs
  · exact mj_so_ladd hx hb hok.1 hok.2 (hk _ _ _ _ hs)
  · exact hs.elim
theorem mj_st_lsub (Cx : mj_Cx p l e R s m args below meth c G D tys ad bi z nL QQ b0 b1 cc cst own rt ini nh n Q) (hk : ∀ pc ls st h, k pc ls st h → mj_J p l e R s m args below meth c D (mj_cl G) tys ad bi z nL off QQ b0 b1 pc ls st h) (hok : mj_OK G own cc nL off rt ini nh pc (.lsub)) (hs : mj_stp call cst (mj_nw G) hd Q k (.lsub) pc ls st h) : mj_J p l e R s m args below meth c D (mj_cl G) tys ad bi z nL off QQ b0 b1 pc ls st h := by
  obtain ⟨hx, hb, hml, hown, hts, hgood, hK, hSt, hR, hRf, hRl, hlocks, hrt, hini, hnh, htr, hty, had, hQQ⟩ := Cx
  simp only [mj_stp] at hs
  split at hs
  · exact mj_so_lsub hx hb hok.1 hok.2 (hk _ _ _ _ hs)
  · exact hs.elim
theorem mj_st_land (Cx : mj_Cx p l e R s m args below meth c G D tys ad bi z nL QQ b0 b1 cc cst own rt ini nh n Q) (hk : ∀ pc ls st h, k pc ls st h → mj_J p l e R s m args below meth c D (mj_cl G) tys ad bi z nL off QQ b0 b1 pc ls st h) (hok : mj_OK G own cc nL off rt ini nh pc (.land)) (hs : mj_stp call cst (mj_nw G) hd Q k (.land) pc ls st h) : mj_J p l e R s m args below meth c D (mj_cl G) tys ad bi z nL off QQ b0 b1 pc ls st h := by
  obtain ⟨hx, hb, hml, hown, hts, hgood, hK, hSt, hR, hRf, hRl, hlocks, hrt, hini, hnh, htr, hty, had, hQQ⟩ := Cx
  simp only [mj_stp] at hs
  split at hs
  · exact mj_so_land hx hb hok.1 hok.2 (hk _ _ _ _ hs)
  · exact hs.elim
theorem mj_st_lor (Cx : mj_Cx p l e R s m args below meth c G D tys ad bi z nL QQ b0 b1 cc cst own rt ini nh n Q) (hk : ∀ pc ls st h, k pc ls st h → mj_J p l e R s m args below meth c D (mj_cl G) tys ad bi z nL off QQ b0 b1 pc ls st h) (hok : mj_OK G own cc nL off rt ini nh pc (.lor)) (hs : mj_stp call cst (mj_nw G) hd Q k (.lor) pc ls st h) : mj_J p l e R s m args below meth c D (mj_cl G) tys ad bi z nL off QQ b0 b1 pc ls st h := by
  obtain ⟨hx, hb, hml, hown, hts, hgood, hK, hSt, hR, hRf, hRl, hlocks, hrt, hini, hnh, htr, hty, had, hQQ⟩ := Cx
  simp only [mj_stp] at hs
  split at hs
  · exact mj_so_lor hx hb hok.1 hok.2 (hk _ _ _ _ hs)
  · exact hs.elim
theorem mj_st_lshl (Cx : mj_Cx p l e R s m args below meth c G D tys ad bi z nL QQ b0 b1 cc cst own rt ini nh n Q) (hk : ∀ pc ls st h, k pc ls st h → mj_J p l e R s m args below meth c D (mj_cl G) tys ad bi z nL off QQ b0 b1 pc ls st h) (hok : mj_OK G own cc nL off rt ini nh pc (.lshl)) (hs : mj_stp call cst (mj_nw G) hd Q k (.lshl) pc ls st h) : mj_J p l e R s m args below meth c D (mj_cl G) tys ad bi z nL off QQ b0 b1 pc ls st h := by
  obtain ⟨hx, hb, hml, hown, hts, hgood, hK, hSt, hR, hRf, hRl, hlocks, hrt, hini, hnh, htr, hty, had, hQQ⟩ := Cx
  simp only [mj_stp] at hs
  split at hs
  · exact mj_so_lshl hx hb hok.1 hok.2 (hk _ _ _ _ hs)
  · exact hs.elim
theorem mj_st_lshr (Cx : mj_Cx p l e R s m args below meth c G D tys ad bi z nL QQ b0 b1 cc cst own rt ini nh n Q) (hk : ∀ pc ls st h, k pc ls st h → mj_J p l e R s m args below meth c D (mj_cl G) tys ad bi z nL off QQ b0 b1 pc ls st h) (hok : mj_OK G own cc nL off rt ini nh pc (.lshr)) (hs : mj_stp call cst (mj_nw G) hd Q k (.lshr) pc ls st h) : mj_J p l e R s m args below meth c D (mj_cl G) tys ad bi z nL off QQ b0 b1 pc ls st h := by
  obtain ⟨hx, hb, hml, hown, hts, hgood, hK, hSt, hR, hRf, hRl, hlocks, hrt, hini, hnh, htr, hty, had, hQQ⟩ := Cx
  simp only [mj_stp] at hs
  split at hs
  · exact mj_so_lshr hx hb hok.1 hok.2 (hk _ _ _ _ hs)
  · exact hs.elim
theorem mj_st_lushr (Cx : mj_Cx p l e R s m args below meth c G D tys ad bi z nL QQ b0 b1 cc cst own rt ini nh n Q) (hk : ∀ pc ls st h, k pc ls st h → mj_J p l e R s m args below meth c D (mj_cl G) tys ad bi z nL off QQ b0 b1 pc ls st h) (hok : mj_OK G own cc nL off rt ini nh pc (.lushr)) (hs : mj_stp call cst (mj_nw G) hd Q k (.lushr) pc ls st h) : mj_J p l e R s m args below meth c D (mj_cl G) tys ad bi z nL off QQ b0 b1 pc ls st h := by
  obtain ⟨hx, hb, hml, hown, hts, hgood, hK, hSt, hR, hRf, hRl, hlocks, hrt, hini, hnh, htr, hty, had, hQQ⟩ := Cx
  simp only [mj_stp] at hs
  split at hs
  · exact mj_so_lushr hx hb hok.1 hok.2 (hk _ _ _ _ hs)
  · exact hs.elim
theorem mj_st_lcmp (Cx : mj_Cx p l e R s m args below meth c G D tys ad bi z nL QQ b0 b1 cc cst own rt ini nh n Q) (hk : ∀ pc ls st h, k pc ls st h → mj_J p l e R s m args below meth c D (mj_cl G) tys ad bi z nL off QQ b0 b1 pc ls st h) (hok : mj_OK G own cc nL off rt ini nh pc (.lcmp)) (hs : mj_stp call cst (mj_nw G) hd Q k (.lcmp) pc ls st h) : mj_J p l e R s m args below meth c D (mj_cl G) tys ad bi z nL off QQ b0 b1 pc ls st h := by
  obtain ⟨hx, hb, hml, hown, hts, hgood, hK, hSt, hR, hRf, hRl, hlocks, hrt, hini, hnh, htr, hty, had, hQQ⟩ := Cx
  simp only [mj_stp] at hs
  split at hs
  · exact mj_so_lcmp hx hb hok.1 hok.2 (hk _ _ _ _ hs)
  · exact hs.elim
theorem mj_st_i2l (Cx : mj_Cx p l e R s m args below meth c G D tys ad bi z nL QQ b0 b1 cc cst own rt ini nh n Q) (hk : ∀ pc ls st h, k pc ls st h → mj_J p l e R s m args below meth c D (mj_cl G) tys ad bi z nL off QQ b0 b1 pc ls st h) (hok : mj_OK G own cc nL off rt ini nh pc (.i2l)) (hs : mj_stp call cst (mj_nw G) hd Q k (.i2l) pc ls st h) : mj_J p l e R s m args below meth c D (mj_cl G) tys ad bi z nL off QQ b0 b1 pc ls st h := by
  obtain ⟨hx, hb, hml, hown, hts, hgood, hK, hSt, hR, hRf, hRl, hlocks, hrt, hini, hnh, htr, hty, had, hQQ⟩ := Cx
  simp only [mj_stp] at hs
  split at hs
  · exact mj_so_i2l hx hb hok.1 hok.2 (hk _ _ _ _ hs)
  · exact hs.elim
theorem mj_st_l2i (Cx : mj_Cx p l e R s m args below meth c G D tys ad bi z nL QQ b0 b1 cc cst own rt ini nh n Q) (hk : ∀ pc ls st h, k pc ls st h → mj_J p l e R s m args below meth c D (mj_cl G) tys ad bi z nL off QQ b0 b1 pc ls st h) (hok : mj_OK G own cc nL off rt ini nh pc (.l2i)) (hs : mj_stp call cst (mj_nw G) hd Q k (.l2i) pc ls st h) : mj_J p l e R s m args below meth c D (mj_cl G) tys ad bi z nL off QQ b0 b1 pc ls st h := by
  obtain ⟨hx, hb, hml, hown, hts, hgood, hK, hSt, hR, hRf, hRl, hlocks, hrt, hini, hnh, htr, hty, had, hQQ⟩ := Cx
  simp only [mj_stp] at hs
  split at hs
  · exact mj_so_l2i hx hb hok.1 hok.2 (hk _ _ _ _ hs)
  · exact hs.elim
theorem mj_st_i2c (Cx : mj_Cx p l e R s m args below meth c G D tys ad bi z nL QQ b0 b1 cc cst own rt ini nh n Q) (hk : ∀ pc ls st h, k pc ls st h → mj_J p l e R s m args below meth c D (mj_cl G) tys ad bi z nL off QQ b0 b1 pc ls st h) (hok : mj_OK G own cc nL off rt ini nh pc (.i2c)) (hs : mj_stp call cst (mj_nw G) hd Q k (.i2c) pc ls st h) : mj_J p l e R s m args below meth c D (mj_cl G) tys ad bi z nL off QQ b0 b1 pc ls st h := by
  obtain ⟨hx, hb, hml, hown, hts, hgood, hK, hSt, hR, hRf, hRl, hlocks, hrt, hini, hnh, htr, hty, had, hQQ⟩ := Cx
  simp only [mj_stp] at hs
  split at hs
  · exact mj_so_i2c hx hb hok.1 hok.2 (hk _ _ _ _ hs)
  · exact hs.elim
theorem mj_st_i2b (Cx : mj_Cx p l e R s m args below meth c G D tys ad bi z nL QQ b0 b1 cc cst own rt ini nh n Q) (hk : ∀ pc ls st h, k pc ls st h → mj_J p l e R s m args below meth c D (mj_cl G) tys ad bi z nL off QQ b0 b1 pc ls st h) (hok : mj_OK G own cc nL off rt ini nh pc (.i2b)) (hs : mj_stp call cst (mj_nw G) hd Q k (.i2b) pc ls st h) : mj_J p l e R s m args below meth c D (mj_cl G) tys ad bi z nL off QQ b0 b1 pc ls st h := by
  obtain ⟨hx, hb, hml, hown, hts, hgood, hK, hSt, hR, hRf, hRl, hlocks, hrt, hini, hnh, htr, hty, had, hQQ⟩ := Cx
  simp only [mj_stp] at hs
  split at hs
  · exact mj_so_i2b hx hb hok.1 hok.2 (hk _ _ _ _ hs)
  · exact hs.elim
theorem mj_st_lmul (Cx : mj_Cx p l e R s m args below meth c G D tys ad bi z nL QQ b0 b1 cc cst own rt ini nh n Q) (hk : ∀ pc ls st h, k pc ls st h → mj_J p l e R s m args below meth c D (mj_cl G) tys ad bi z nL off QQ b0 b1 pc ls st h) (hok : mj_OK G own cc nL off rt ini nh pc (.lmul)) (hs : mj_stp call cst (mj_nw G) hd Q k (.lmul) pc ls st h) : mj_J p l e R s m args below meth c D (mj_cl G) tys ad bi z nL off QQ b0 b1 pc ls st h := by
  obtain ⟨hx, hb, hml, hown, hts, hgood, hK, hSt, hR, hRf, hRl, hlocks, hrt, hini, hnh, htr, hty, had, hQQ⟩ := Cx
  simp only [mj_stp] at hs
  split at hs
  · exact mj_so_lmul hx hb hok.1 hok.2 (hk _ _ _ _ hs)
  · exact hs.elim
theorem mj_st_idiv (Cx : mj_Cx p l e R s m args below meth c G D tys ad bi z nL QQ b0 b1 cc cst own rt ini nh n Q) (hk : ∀ pc ls st h, k pc ls st h → mj_J p l e R s m args below meth c D (mj_cl G) tys ad bi z nL off QQ b0 b1 pc ls st h) (hok : mj_OK G own cc nL off rt ini nh pc (.idiv)) (hs : mj_stp call cst (mj_nw G) hd Q k (.idiv) pc ls st h) : mj_J p l e R s m args below meth c D (mj_cl G) tys ad bi z nL off QQ b0 b1 pc ls st h := by
  obtain ⟨hx, hb, hml, hown, hts, hgood, hK, hSt, hR, hRf, hRl, hlocks, hrt, hini, hnh, htr, hty, had, hQQ⟩ := Cx
  simp only [mj_stp] at hs
  split at hs
  · exact mj_so_idiv hx hb hok.1 hok.2 hs.1 (hk _ _ _ _ hs.2)
  · exact hs.elim
theorem mj_st_irem (Cx : mj_Cx p l e R s m args below meth c G D tys ad bi z nL QQ b0 b1 cc cst own rt ini nh n Q) (hk : ∀ pc ls st h, k pc ls st h → mj_J p l e R s m args below meth c D (mj_cl G) tys ad bi z nL off QQ b0 b1 pc ls st h) (hok : mj_OK G own cc nL off rt ini nh pc (.irem)) (hs : mj_stp call cst (mj_nw G) hd Q k (.irem) pc ls st h) : mj_J p l e R s m args below meth c D (mj_cl G) tys ad bi z nL off QQ b0 b1 pc ls st h := by
  obtain ⟨hx, hb, hml, hown, hts, hgood, hK, hSt, hR, hRf, hRl, hlocks, hrt, hini, hnh, htr, hty, had, hQQ⟩ := Cx
  simp only [mj_stp] at hs
  split at hs
  · exact mj_so_irem hx hb hok.1 hok.2 hs.1 (hk _ _ _ _ hs.2)
  · exact hs.elim
theorem mj_st_ldiv (Cx : mj_Cx p l e R s m args below meth c G D tys ad bi z nL QQ b0 b1 cc cst own rt ini nh n Q) (hk : ∀ pc ls st h, k pc ls st h → mj_J p l e R s m args below meth c D (mj_cl G) tys ad bi z nL off QQ b0 b1 pc ls st h) (hok : mj_OK G own cc nL off rt ini nh pc (.ldiv)) (hs : mj_stp call cst (mj_nw G) hd Q k (.ldiv) pc ls st h) : mj_J p l e R s m args below meth c D (mj_cl G) tys ad bi z nL off QQ b0 b1 pc ls st h := by
  obtain ⟨hx, hb, hml, hown, hts, hgood, hK, hSt, hR, hRf, hRl, hlocks, hrt, hini, hnh, htr, hty, had, hQQ⟩ := Cx
  simp only [mj_stp] at hs
  split at hs
  · exact mj_so_ldiv hx hb hok.1 hok.2 hs.1 (hk _ _ _ _ hs.2)
  · exact hs.elim
theorem mj_st_lrem (Cx : mj_Cx p l e R s m args below meth c G D tys ad bi z nL QQ b0 b1 cc cst own rt ini nh n Q) (hk : ∀ pc ls st h, k pc ls st h → mj_J p l e R s m args below meth c D (mj_cl G) tys ad bi z nL off QQ b0 b1 pc ls st h) (hok : mj_OK G own cc nL off rt ini nh pc (.lrem)) (hs : mj_stp call cst (mj_nw G) hd Q k (.lrem) pc ls st h) : mj_J p l e R s m args below meth c D (mj_cl G) tys ad bi z nL off QQ b0 b1 pc ls st h := by
  obtain ⟨hx, hb, hml, hown, hts, hgood, hK, hSt, hR, hRf, hRl, hlocks, hrt, hini, hnh, htr, hty, had, hQQ⟩ := Cx
  simp only [mj_stp] at hs
  split at hs
  · exact mj_so_lrem hx hb hok.1 hok.2 hs.1 (hk _ _ _ _ hs.2)
  · exact hs.elim
theorem mj_st_dup (Cx : mj_Cx p l e R s m args below meth c G D tys ad bi z nL QQ b0 b1 cc cst own rt ini nh n Q) (hk : ∀ pc ls st h, k pc ls st h → mj_J p l e R s m args below meth c D (mj_cl G) tys ad bi z nL off QQ b0 b1 pc ls st h) (hok : mj_OK G own cc nL off rt ini nh pc (.dup)) (hs : mj_stp call cst (mj_nw G) hd Q k (.dup) pc ls st h) : mj_J p l e R s m args below meth c D (mj_cl G) tys ad bi z nL off QQ b0 b1 pc ls st h := by
  obtain ⟨hx, hb, hml, hown, hts, hgood, hK, hSt, hR, hRf, hRl, hlocks, hrt, hini, hnh, htr, hty, had, hQQ⟩ := Cx
  simp only [mj_stp] at hs
  split at hs
  · exact mj_so_dup hx hb hok.1 hok.2 rfl (hk _ _ _ _ hs)
  · exact mj_so_dup hx hb hok.1 hok.2 rfl (hk _ _ _ _ hs)
  · exact hs.elim
theorem mj_st_dup_x1 (Cx : mj_Cx p l e R s m args below meth c G D tys ad bi z nL QQ b0 b1 cc cst own rt ini nh n Q) (hk : ∀ pc ls st h, k pc ls st h → mj_J p l e R s m args below meth c D (mj_cl G) tys ad bi z nL off QQ b0 b1 pc ls st h) (hok : mj_OK G own cc nL off rt ini nh pc (.dup_x1)) (hs : mj_stp call cst (mj_nw G) hd Q k (.dup_x1) pc ls st h) : mj_J p l e R s m args below meth c D (mj_cl G) tys ad bi z nL off QQ b0 b1 pc ls st h := by
  obtain ⟨hx, hb, hml, hown, hts, hgood, hK, hSt, hR, hRf, hRl, hlocks, hrt, hini, hnh, htr, hty, had, hQQ⟩ := Cx
  simp only [mj_stp] at hs
  split at hs
  · exact mj_so_dup_x1 hx hb hok.1 hok.2 rfl rfl (hk _ _ _ _ hs)
  · exact mj_so_dup_x1 hx hb hok.1 hok.2 rfl rfl (hk _ _ _ _ hs)
  · exact hs.elim
theorem mj_st_dup2 (Cx : mj_Cx p l e R s m args below meth c G D tys ad bi z nL QQ b0 b1 cc cst own rt ini nh n Q) (hk : ∀ pc ls st h, k pc ls st h → mj_J p l e R s m args below meth c D (mj_cl G) tys ad bi z nL off QQ b0 b1 pc ls st h) (hok : mj_OK G own cc nL off rt ini nh pc (.dup2)) (hs : mj_stp call cst (mj_nw G) hd Q k (.dup2) pc ls st h) : mj_J p l e R s m args below meth c D (mj_cl G) tys ad bi z nL off QQ b0 b1 pc ls st h := by
  obtain ⟨hx, hb, hml, hown, hts, hgood, hK, hSt, hR, hRf, hRl, hlocks, hrt, hini, hnh, htr, hty, had, hQQ⟩ := Cx
  simp only [mj_stp] at hs
  split at hs
  · exact mj_so_dup2 hx hb hok.1 hok.2 rfl rfl (hk _ _ _ _ hs)
  · exact mj_so_dup2 hx hb hok.1 hok.2 rfl rfl (hk _ _ _ _ hs)
  · exact mj_so_dup2l hx hb hok.1 hok.2 rfl (hk _ _ _ _ hs)
  · exact hs.elim
theorem mj_st_pop (Cx : mj_Cx p l e R s m args below meth c G D tys ad bi z nL QQ b0 b1 cc cst own rt ini nh n Q) (hk : ∀ pc ls st h, k pc ls st h → mj_J p l e R s m args below meth c D (mj_cl G) tys ad bi z nL off QQ b0 b1 pc ls st h) (hok : mj_OK G own cc nL off rt ini nh pc (.pop)) (hs : mj_stp call cst (mj_nw G) hd Q k (.pop) pc ls st h) : mj_J p l e R s m args below meth c D (mj_cl G) tys ad bi z nL off QQ b0 b1 pc ls st h := by
  obtain ⟨hx, hb, hml, hown, hts, hgood, hK, hSt, hR, hRf, hRl, hlocks, hrt, hini, hnh, htr, hty, had, hQQ⟩ := Cx
  simp only [mj_stp] at hs
  split at hs
  · exact mj_so_pop hx hb hok.1 hok.2 rfl (hk _ _ _ _ hs)
  · exact mj_so_pop hx hb hok.1 hok.2 rfl (hk _ _ _ _ hs)
  · exact hs.elim
theorem mj_st_pop2 (Cx : mj_Cx p l e R s m args below meth c G D tys ad bi z nL QQ b0 b1 cc cst own rt ini nh n Q) (hk : ∀ pc ls st h, k pc ls st h → mj_J p l e R s m args below meth c D (mj_cl G) tys ad bi z nL off QQ b0 b1 pc ls st h) (hok : mj_OK G own cc nL off rt ini nh pc (.pop2)) (hs : mj_stp call cst (mj_nw G) hd Q k (.pop2) pc ls st h) : mj_J p l e R s m args below meth c D (mj_cl G) tys ad bi z nL off QQ b0 b1 pc ls st h := by
  obtain ⟨hx, hb, hml, hown, hts, hgood, hK, hSt, hR, hRf, hRl, hlocks, hrt, hini, hnh, htr, hty, had, hQQ⟩ := Cx
  simp only [mj_stp] at hs
  split at hs
  · exact mj_so_pop2 hx hb hok.1 hok.2 rfl (hk _ _ _ _ hs)
  · exact hs.elim
theorem mj_st_ifCond (Cx : mj_Cx p l e R s m args below meth c G D tys ad bi z nL QQ b0 b1 cc cst own rt ini nh n Q) (hk : ∀ pc ls st h, k pc ls st h → mj_J p l e R s m args below meth c D (mj_cl G) tys ad bi z nL off QQ b0 b1 pc ls st h) {q : ClassFile.Cond} {t : Int} (hok : mj_OK G own cc nL off rt ini nh pc (.ifCond q t)) (hs : mj_stp call cst (mj_nw G) hd Q k (.ifCond q t) pc ls st h) : mj_J p l e R s m args below meth c D (mj_cl G) tys ad bi z nL off QQ b0 b1 pc ls st h := by
  obtain ⟨hx, hb, hml, hown, hts, hgood, hK, hSt, hR, hRf, hRl, hlocks, hrt, hini, hnh, htr, hty, had, hQQ⟩ := Cx
  obtain ⟨o, hd, ho, ht⟩ := hok
  cases q
  · simp only [mj_stp] at hs
    split at hs
    · exact mj_so_if_eq hx hb hd ho ht (fun g => hk _ _ _ _ (hs.1 g)) (fun g => hk _ _ _ _ (hs.2 g))
    · exact hs.elim
  · simp only [mj_stp] at hs
    split at hs
    · exact mj_so_if_ne hx hb hd ho ht (fun g => hk _ _ _ _ (hs.1 g)) (fun g => hk _ _ _ _ (hs.2 g))
    · exact hs.elim
  · simp only [mj_stp] at hs
    split at hs
    · exact mj_so_if_lt hx hb hd ho ht (fun g => hk _ _ _ _ (hs.1 g)) (fun g => hk _ _ _ _ (hs.2 g))
    · exact hs.elim
  · simp only [mj_stp] at hs
    split at hs
    · exact mj_so_if_ge hx hb hd ho ht (fun g => hk _ _ _ _ (hs.1 g)) (fun g => hk _ _ _ _ (hs.2 g))
    · exact hs.elim
  · simp only [mj_stp] at hs
    split at hs
    · exact mj_so_if_gt hx hb hd ho ht (fun g => hk _ _ _ _ (hs.1 g)) (fun g => hk _ _ _ _ (hs.2 g))
    · exact hs.elim
  · simp only [mj_stp] at hs
    split at hs
    · exact mj_so_if_le hx hb hd ho ht (fun g => hk _ _ _ _ (hs.1 g)) (fun g => hk _ _ _ _ (hs.2 g))
    · exact hs.elim
theorem mj_st_if_icmp (Cx : mj_Cx p l e R s m args below meth c G D tys ad bi z nL QQ b0 b1 cc cst own rt ini nh n Q) (hk : ∀ pc ls st h, k pc ls st h → mj_J p l e R s m args below meth c D (mj_cl G) tys ad bi z nL off QQ b0 b1 pc ls st h) {q : ClassFile.Cond} {t : Int} (hok : mj_OK G own cc nL off rt ini nh pc (.if_icmp q t)) (hs : mj_stp call cst (mj_nw G) hd Q k (.if_icmp q t) pc ls st h) : mj_J p l e R s m args below meth c D (mj_cl G) tys ad bi z nL off QQ b0 b1 pc ls st h := by
  obtain ⟨hx, hb, hml, hown, hts, hgood, hK, hSt, hR, hRf, hRl, hlocks, hrt, hini, hnh, htr, hty, had, hQQ⟩ := Cx
  obtain ⟨o, hd, ho, ht⟩ := hok
  cases q
  · simp only [mj_stp] at hs
    split at hs
    · exact mj_so_ic_eq hx hb hd ho ht (fun g => hk _ _ _ _ (hs.1 g)) (fun g => hk _ _ _ _ (hs.2 g))
    · exact hs.elim
  · simp only [mj_stp] at hs
    split at hs
    · exact mj_so_ic_ne hx hb hd ho ht (fun g => hk _ _ _ _ (hs.1 g)) (fun g => hk _ _ _ _ (hs.2 g))
    · exact hs.elim
  · simp only [mj_stp] at hs
    split at hs
    · exact mj_so_ic_lt hx hb hd ho ht (fun g => hk _ _ _ _ (hs.1 g)) (fun g => hk _ _ _ _ (hs.2 g))
    · exact hs.elim
  · simp only [mj_stp] at hs
    split at hs
    · exact mj_so_ic_ge hx hb hd ho ht (fun g => hk _ _ _ _ (hs.1 g)) (fun g => hk _ _ _ _ (hs.2 g))
    · exact hs.elim
  · simp only [mj_stp] at hs
    split at hs
    · exact mj_so_ic_gt hx hb hd ho ht (fun g => hk _ _ _ _ (hs.1 g)) (fun g => hk _ _ _ _ (hs.2 g))
    · exact hs.elim
  · simp only [mj_stp] at hs
    split at hs
    · exact mj_so_ic_le hx hb hd ho ht (fun g => hk _ _ _ _ (hs.1 g)) (fun g => hk _ _ _ _ (hs.2 g))
    · exact hs.elim
theorem mj_st_goto (Cx : mj_Cx p l e R s m args below meth c G D tys ad bi z nL QQ b0 b1 cc cst own rt ini nh n Q) (hk : ∀ pc ls st h, k pc ls st h → mj_J p l e R s m args below meth c D (mj_cl G) tys ad bi z nL off QQ b0 b1 pc ls st h) {t : Int} (hok : mj_OK G own cc nL off rt ini nh pc (.goto t)) (hs : mj_stp call cst (mj_nw G) hd Q k (.goto t) pc ls st h) : mj_J p l e R s m args below meth c D (mj_cl G) tys ad bi z nL off QQ b0 b1 pc ls st h := by
  obtain ⟨hx, hb, hml, hown, hts, hgood, hK, hSt, hR, hRf, hRl, hlocks, hrt, hini, hnh, htr, hty, had, hQQ⟩ := Cx
  obtain ⟨o, hd, ht⟩ := hok
  exact mj_so_goto hx hb hd ht (hk _ _ _ _ hs)
theorem mj_sw_mono {go go2 : Int → Prop} (hg : ∀ t, go t → go2 t) {d : Int} {x : Int32} : ∀ l : List (Int × Int), mj_sw go d x l → mj_sw go2 d x l
  | [], h => hg _ h
  | (_, _) :: l, h => ⟨fun e => hg _ (h.1 e), fun e => mj_sw_mono hg l (h.2 e)⟩
theorem mj_st_sw (Cx : mj_Cx p l e R s m args below meth c G D tys ad bi z nL QQ b0 b1 cc cst own rt ini nh n Q) (hk : ∀ pc ls st h, k pc ls st h → mj_J p l e R s m args below meth c D (mj_cl G) tys ad bi z nL off QQ b0 b1 pc ls st h) {d : Int} {ps : Array (Int × Int)} (hok : mj_OK G own cc nL off rt ini nh pc (.lookupswitch d ps)) (hs : mj_stp call cst (mj_nw G) hd Q k (.lookupswitch d ps) pc ls st h) : mj_J p l e R s m args below meth c D (mj_cl G) tys ad bi z nL off QQ b0 b1 pc ls st h := by
  obtain ⟨hx, hb, hml, hown, hts, hgood, hK, hSt, hR, hRf, hRl, hlocks, hrt, hini, hnh, htr, hty, had, hQQ⟩ := Cx
  simp only [mj_stp] at hs
  split at hs
  · exact mj_so_sw (TS := mj_TS G) (own := own) (rt := rt) hx hb hok (mj_sw_mono (fun t ht => hk _ _ _ _ ht) _ hs)
  · exact hs.elim
theorem mj_st_ireturn (Cx : mj_Cx p l e R s m args below meth c G D tys ad bi z nL QQ b0 b1 cc cst own rt ini nh n Q) (hk : ∀ pc ls st h, k pc ls st h → mj_J p l e R s m args below meth c D (mj_cl G) tys ad bi z nL off QQ b0 b1 pc ls st h) (hok : mj_OK G own cc nL off rt ini nh pc (.ireturn)) (hs : mj_stp call cst (mj_nw G) hd Q k (.ireturn) pc ls st h) : mj_J p l e R s m args below meth c D (mj_cl G) tys ad bi z nL off QQ b0 b1 pc ls st h := by
  obtain ⟨hx, hb, hml, hown, hts, hgood, hK, hSt, hR, hRf, hRl, hlocks, hrt, hini, hnh, htr, hty, had, hQQ⟩ := Cx
  simp only [mj_stp] at hs
  split at hs
  · exact mj_so_iret hx hb hlocks rfl (hrt.trans hok.2) hQQ hok.1 hs
  · exact hs.elim
theorem mj_st_areturn (Cx : mj_Cx p l e R s m args below meth c G D tys ad bi z nL QQ b0 b1 cc cst own rt ini nh n Q) (hk : ∀ pc ls st h, k pc ls st h → mj_J p l e R s m args below meth c D (mj_cl G) tys ad bi z nL off QQ b0 b1 pc ls st h) (hok : mj_OK G own cc nL off rt ini nh pc (.areturn)) (hs : mj_stp call cst (mj_nw G) hd Q k (.areturn) pc ls st h) : mj_J p l e R s m args below meth c D (mj_cl G) tys ad bi z nL off QQ b0 b1 pc ls st h := by
  obtain ⟨hx, hb, hml, hown, hts, hgood, hK, hSt, hR, hRf, hRl, hlocks, hrt, hini, hnh, htr, hty, had, hQQ⟩ := Cx
  simp only [mj_stp] at hs
  split at hs
  · obtain ⟨g1, ty, g2, g3⟩ := hok
    exact mj_so_aret (ty := ty) hx hb hlocks g3 (hrt.trans g2) hQQ g1 hs
  · exact hs.elim
theorem mj_st_zreturn (Cx : mj_Cx p l e R s m args below meth c G D tys ad bi z nL QQ b0 b1 cc cst own rt ini nh n Q) (hk : ∀ pc ls st h, k pc ls st h → mj_J p l e R s m args below meth c D (mj_cl G) tys ad bi z nL off QQ b0 b1 pc ls st h) (hok : mj_OK G own cc nL off rt ini nh pc (.freturn)) (hs : mj_stp call cst (mj_nw G) hd Q k (.freturn) pc ls st h) : mj_J p l e R s m args below meth c D (mj_cl G) tys ad bi z nL off QQ b0 b1 pc ls st h := by
  obtain ⟨hx, hb, hml, hown, hts, hgood, hK, hSt, hR, hRf, hRl, hlocks, hrt, hini, hnh, htr, hty, had, hQQ⟩ := Cx
  simp only [mj_stp] at hs
  split at hs
  · next x =>
    refine mj_so_iret (ty := .boolean) hx hb hlocks ?_ (hrt.trans hok.2) hQQ hok.1 hs.2
    rcases hs.1 with rfl | rfl <;> rfl
  · exact hs.elim
theorem mj_st_creturn (Cx : mj_Cx p l e R s m args below meth c G D tys ad bi z nL QQ b0 b1 cc cst own rt ini nh n Q) (hk : ∀ pc ls st h, k pc ls st h → mj_J p l e R s m args below meth c D (mj_cl G) tys ad bi z nL off QQ b0 b1 pc ls st h) (hok : mj_OK G own cc nL off rt ini nh pc (.dreturn)) (hs : mj_stp call cst (mj_nw G) hd Q k (.dreturn) pc ls st h) : mj_J p l e R s m args below meth c D (mj_cl G) tys ad bi z nL off QQ b0 b1 pc ls st h := by
  obtain ⟨hx, hb, hml, hown, hts, hgood, hK, hSt, hR, hRf, hRl, hlocks, hrt, hini, hnh, htr, hty, had, hQQ⟩ := Cx
  simp only [mj_stp] at hs
  split at hs
  · exact mj_so_iret (ty := .char) hx hb hlocks hs.1 (hrt.trans hok.2) hQQ hok.1 hs.2
  · exact hs.elim
theorem mj_st_breturn (Cx : mj_Cx p l e R s m args below meth c G D tys ad bi z nL QQ b0 b1 cc cst own rt ini nh n Q) (hk : ∀ pc ls st h, k pc ls st h → mj_J p l e R s m args below meth c D (mj_cl G) tys ad bi z nL off QQ b0 b1 pc ls st h) (hok : mj_OK G own cc nL off rt ini nh pc (.athrow)) (hs : mj_stp call cst (mj_nw G) hd Q k (.athrow) pc ls st h) : mj_J p l e R s m args below meth c D (mj_cl G) tys ad bi z nL off QQ b0 b1 pc ls st h := by
  obtain ⟨hx, hb, hml, hown, hts, hgood, hK, hSt, hR, hRf, hRl, hlocks, hrt, hini, hnh, htr, hty, had, hQQ⟩ := Cx
  simp only [mj_stp] at hs
  split at hs
  · exact mj_so_iret (ty := .byte) hx hb hlocks hs.1 (hrt.trans hok.2) hQQ hok.1 hs.2
  · exact hs.elim
theorem mj_st_ifnn (Cx : mj_Cx p l e R s m args below meth c G D tys ad bi z nL QQ b0 b1 cc cst own rt ini nh n Q) (hk : ∀ pc ls st h, k pc ls st h → mj_J p l e R s m args below meth c D (mj_cl G) tys ad bi z nL off QQ b0 b1 pc ls st h) {t : Int} (hok : mj_OK G own cc nL off rt ini nh pc (.ifnonnull t)) (hs : mj_stp call cst (mj_nw G) hd Q k (.ifnonnull t) pc ls st h) : mj_J p l e R s m args below meth c D (mj_cl G) tys ad bi z nL off QQ b0 b1 pc ls st h := by
  obtain ⟨hx, hb, hml, hown, hts, hgood, hK, hSt, hR, hRf, hRl, hlocks, hrt, hini, hnh, htr, hty, had, hQQ⟩ := Cx
  obtain ⟨o, hd, ht⟩ := hok
  simp only [mj_stp] at hs
  split at hs
  · exact mj_so_ifnn hx hb hd ht (hk _ _ _ _ hs)
  · exact hs.elim
theorem mj_st_gets0 (Cx : mj_Cx p l e R s m args below meth c G D tys ad bi z nL QQ b0 b1 cc cst own rt ini nh n Q) (hk : ∀ pc ls st h, k pc ls st h → mj_J p l e R s m args below meth c D (mj_cl G) tys ad bi z nL off QQ b0 b1 pc ls st h) {w : Nat} (hok : mj_OK G own cc nL off rt ini nh pc (.dload w)) (hs : mj_stp call cst (mj_nw G) hd Q k (.dload w) pc ls st h) : mj_J p l e R s m args below meth c D (mj_cl G) tys ad bi z nL off QQ b0 b1 pc ls st h := by
  obtain ⟨hx, hb, hml, hown, hts, hgood, hK, hSt, hR, hRf, hRl, hlocks, hrt, hini, hnh, htr, hty, had, hQQ⟩ := Cx
  obtain ⟨j, C, f, d, g1, g2, g3, g4⟩ := hok
  exact mj_so_gets hx hb hown hts hSt g3 g4 g1 g2 (hk _ _ _ _ hs)
theorem mj_st_ldcS (Cx : mj_Cx p l e R s m args below meth c G D tys ad bi z nL QQ b0 b1 cc cst own rt ini nh n Q) (hk : ∀ pc ls st h, k pc ls st h → mj_J p l e R s m args below meth c D (mj_cl G) tys ad bi z nL off QQ b0 b1 pc ls st h) {w : Nat} (hok : mj_OK G own cc nL off rt ini nh pc (.ldc w)) (hs : mj_stp call cst (mj_nw G) hd Q k (.ldc w) pc ls st h) : mj_J p l e R s m args below meth c D (mj_cl G) tys ad bi z nL off QQ b0 b1 pc ls st h := by
  obtain ⟨hx, hb, hml, hown, hts, hgood, hK, hSt, hR, hRf, hRl, hlocks, hrt, hini, hnh, htr, hty, had, hQQ⟩ := Cx
  obtain ⟨j, tx, g1, g2, g3, g4⟩ := hok
  exact mj_so_ldcS hx hb hown hSt g3 g4 g1 g2 (hk _ _ _ _ hs)
theorem mj_st_sget (Cx : mj_Cx p l e R s m args below meth c G D tys ad bi z nL QQ b0 b1 cc cst own rt ini nh n Q) (hk : ∀ pc ls st h, k pc ls st h → mj_J p l e R s m args below meth c D (mj_cl G) tys ad bi z nL off QQ b0 b1 pc ls st h) {w : Nat} (hok : mj_OK G own cc nL off rt ini nh pc (.anewarray w)) (hs : mj_stp call cst (mj_nw G) hd Q k (.anewarray w) pc ls st h) : mj_J p l e R s m args below meth c D (mj_cl G) tys ad bi z nL off QQ b0 b1 pc ls st h := by
  obtain ⟨hx, hb, hml, hown, hts, hgood, hK, hSt, hR, hRf, hRl, hlocks, hrt, hini, hnh, htr, hty, had, hQQ⟩ := Cx
  obtain ⟨j, g1, g2, g3⟩ := hok
  simp only [mj_stp] at hs
  split at hs
  · next a r =>
    split at hs
    · next x ec he =>
      exact mj_so_sget hx hb hown hts (v := .ref (a - 900)) ((hSt.1 a x.1 x.2 ec).2.2 (Nat.le_of_ble_eq_true he)).2.2 g3 g1 g2 (hk _ _ _ _ hs)
    · next x ec he =>
      exact mj_so_sget hx hb hown hts (v := .int 0) ((hSt.1 a x.1 x.2 ec).2.2 (Nat.le_of_ble_eq_true he)).2.1 g3 g1 g2 (hk _ _ _ _ hs)
    · exact hs.elim
  · exact hs.elim
theorem mj_st_lreturn (Cx : mj_Cx p l e R s m args below meth c G D tys ad bi z nL QQ b0 b1 cc cst own rt ini nh n Q) (hk : ∀ pc ls st h, k pc ls st h → mj_J p l e R s m args below meth c D (mj_cl G) tys ad bi z nL off QQ b0 b1 pc ls st h) (hok : mj_OK G own cc nL off rt ini nh pc (.lreturn)) (hs : mj_stp call cst (mj_nw G) hd Q k (.lreturn) pc ls st h) : mj_J p l e R s m args below meth c D (mj_cl G) tys ad bi z nL off QQ b0 b1 pc ls st h := by
  obtain ⟨hx, hb, hml, hown, hts, hgood, hK, hSt, hR, hRf, hRl, hlocks, hrt, hini, hnh, htr, hty, had, hQQ⟩ := Cx
  simp only [mj_stp] at hs
  split at hs
  · exact mj_so_lret hx hb hlocks (hrt.trans hok.2) hQQ hok.1 hs
  · exact hs.elim
theorem mj_st_return (Cx : mj_Cx p l e R s m args below meth c G D tys ad bi z nL QQ b0 b1 cc cst own rt ini nh n Q) (hk : ∀ pc ls st h, k pc ls st h → mj_J p l e R s m args below meth c D (mj_cl G) tys ad bi z nL off QQ b0 b1 pc ls st h) (hok : mj_OK G own cc nL off rt ini nh pc (.return_)) (hs : mj_stp call cst (mj_nw G) hd Q k (.return_) pc ls st h) : mj_J p l e R s m args below meth c D (mj_cl G) tys ad bi z nL off QQ b0 b1 pc ls st h := by
  obtain ⟨hx, hb, hml, hown, hts, hgood, hK, hSt, hR, hRf, hRl, hlocks, hrt, hini, hnh, htr, hty, had, hQQ⟩ := Cx
  simp only [mj_stp] at hs
  split at hs
  · exact mj_so_vret hx hb hlocks (hrt.trans hok.2) hQQ hok.1 hs
  · exact hs.elim
theorem mj_st_getfield (Cx : mj_Cx p l e R s m args below meth c G D tys ad bi z nL QQ b0 b1 cc cst own rt ini nh n Q) (hk : ∀ pc ls st h, k pc ls st h → mj_J p l e R s m args below meth c D (mj_cl G) tys ad bi z nL off QQ b0 b1 pc ls st h) {f : Nat} (hok : mj_OK G own cc nL off rt ini nh pc (.getfield f)) (hs : mj_stp call cst (mj_nw G) hd Q k (.getfield f) pc ls st h) : mj_J p l e R s m args below meth c D (mj_cl G) tys ad bi z nL off QQ b0 b1 pc ls st h := by
  obtain ⟨hx, hb, hml, hown, hts, hgood, hK, hSt, hR, hRf, hRl, hlocks, hrt, hini, hnh, htr, hty, had, hQQ⟩ := Cx
  obtain ⟨j, C, T, N, hd, ho, ⟨g1, g2, g3, g4⟩, g5, g6⟩ := hok
  simp only [mj_stp] at hs
  split at hs
  · split at hs
    · next ci fs ha =>
      split at hs
      · next v hc hv =>
        have hc : ci = f / 256 := Nat.eq_of_beq_eq_true hc
        subst hc
        exact mj_so_get hx hb hown hts hK ha g1 g5 g6 g2 hv hd ho (hk _ _ _ _ hs)
      · exact hs.elim
    · exact hs.elim
  · exact hs.elim
theorem mj_st_getstatic (Cx : mj_Cx p l e R s m args below meth c G D tys ad bi z nL QQ b0 b1 cc cst own rt ini nh n Q) (hk : ∀ pc ls st h, k pc ls st h → mj_J p l e R s m args below meth c D (mj_cl G) tys ad bi z nL off QQ b0 b1 pc ls st h) {w : Nat} (hok : mj_OK G own cc nL off rt ini nh pc (.getstatic w)) (hs : mj_stp call cst (mj_nw G) hd Q k (.getstatic w) pc ls st h) : mj_J p l e R s m args below meth c D (mj_cl G) tys ad bi z nL off QQ b0 b1 pc ls st h := by
  obtain ⟨hx, hb, hml, hown, hts, hgood, hK, hSt, hR, hRf, hRl, hlocks, hrt, hini, hnh, htr, hty, had, hQQ⟩ := Cx
  obtain ⟨j, C, f, d, g1, g2, g3, g4⟩ := hok
  exact mj_so_gets hx hb hown hts hSt g3 g4 g1 g2 (hk _ _ _ _ hs)
end MJB
end
section
section MJB2
variable {p : Program} {l : Launch} {e : Env} {R : Room} {s : State} {m : MethodId} {args : Array Value} {below : List Frame} {meth : Method} {c : Code}
variable {G : mj_G} {D : va_G} {tys : List (ClassId × FieldType)} {ad : Nat → Nat} {bi : Nat} {z : Nat → Prop} {nL : Nat} {off : Nat → Nat} {QQ : State → Prop} {b0 b1 : Nat} {cc : ByteArray} {pc : Nat} {ls : mj_L} {st r : List Value} {h : mj_H}
variable {cst : Nat → Option (Nat × (Nat → Int32))} {own : String} {rt : Option FieldType} {ini nh : Bool} {n : Nat} {Q : mj_R → Prop} {hd : Nat → Nat → Option (Option (Nat × Nat))} {k : Nat → mj_L → List Value → mj_H → Prop} {call : Nat → List Value → mj_H → (mj_R → Prop) → Prop}
theorem mj_putv {kk : mj_O → Prop} {ci j t : Nat} {fs : List Value} {ty : FieldType} {v : Value} (ad : Nat → Nat) (h : mj_put kk ci fs j t v) (ht : mj_okT t ty) : kk (.inr (.inl (ci, mj_stn fs j v))) ∧ narrow ty (mj_tr ad v) = mj_tr ad v ∧ fits ty (mj_tr ad v) = true := by
  unfold mj_put at h
  split at h
  · have ht : ty = .int := ht
    subst ht
    exact ⟨h, rfl, rfl⟩
  · have ht : ty = .long := ht
    subst ht
    exact ⟨h, rfl, rfl⟩
  · rcases ht with ⟨n, rfl⟩ | ⟨a, rfl⟩
    · exact ⟨h, rfl, rfl⟩
    · exact ⟨h, rfl, rfl⟩
  · rcases ht with rfl | rfl
    · rcases h.1 with rfl | rfl
      · exact ⟨h.2, rfl, rfl⟩
      · exact ⟨h.2, rfl, rfl⟩
    · rcases h.1 with rfl | rfl
      · exact ⟨h.2, rfl, rfl⟩
      · exact ⟨h.2, rfl, rfl⟩
  · exact h.elim
theorem mj_st_putfield (Cx : mj_Cx p l e R s m args below meth c G D tys ad bi z nL QQ b0 b1 cc cst own rt ini nh n Q) (hk : ∀ pc ls st h, k pc ls st h → mj_J p l e R s m args below meth c D (mj_cl G) tys ad bi z nL off QQ b0 b1 pc ls st h) {f : Nat} (hok : mj_OK G own cc nL off rt ini nh pc (.putfield f)) (hs : mj_stp call cst (mj_nw G) hd Q k (.putfield f) pc ls st h) : mj_J p l e R s m args below meth c D (mj_cl G) tys ad bi z nL off QQ b0 b1 pc ls st h := by
  obtain ⟨hx, hb, hml, hown, hts, hgood, hK, hSt, hR, hRf, hRl, hlocks, hrt, hini, hnh, htr, hty, had, hQQ⟩ := Cx
  obtain ⟨j, C, T, N, hd, ho, ⟨g1, g2, g3, g4⟩, g5, g6, g7, g8⟩ := hok
  simp only [mj_stp] at hs
  split at hs
  · next v a r =>
    split at hs
    · next ci fs ha =>
      split at hs
      · next hc hlen =>
        have hc : ci = f / 256 := Nat.eq_of_beq_eq_true hc
        have hlen : f / 4 % 64 < fs.length := Nat.le_of_ble_eq_true hlen
        subst hc
        obtain ⟨q1, q2, q3⟩ := mj_putv ad hs g7
        rcases g8 with g8 | ⟨g8, g9, g10⟩
        · exact mj_so_put hx hb hown hts hK (mj_tf G (f / 256)) g3 g4 ha g1 g5 g6 g2 g8 q2 q3 hlen hd ho (hk _ _ _ _ q1)
        · exact mj_so_putF hx hb hown hts hK (mj_tf G (f / 256)) g3 g4 ha g1 g5 g6 g2 g8 (hini g9) g10 q2 q3 hlen hd ho (hk _ _ _ _ q1)
      · exact hs.elim
    · exact hs.elim
  · exact hs.elim
theorem mj_st_new (Cx : mj_Cx p l e R s m args below meth c G D tys ad bi z nL QQ b0 b1 cc cst own rt ini nh n Q) (hk : ∀ pc ls st h, k pc ls st h → mj_J p l e R s m args below meth c D (mj_cl G) tys ad bi z nL off QQ b0 b1 pc ls st h) {w : Nat} (hok : mj_OK G own cc nL off rt ini nh pc (.new w)) (hs : mj_stp call cst (mj_nw G) hd Q k (.new w) pc ls st h) : mj_J p l e R s m args below meth c D (mj_cl G) tys ad bi z nL off QQ b0 b1 pc ls st h := by
  obtain ⟨hx, hb, hml, hown, hts, hgood, hK, hSt, hR, hRf, hRl, hlocks, hrt, hini, hnh, htr, hty, had, hQQ⟩ := Cx
  obtain ⟨j, C, T, N, fs, hd, ho, ⟨g1, g2, g3, g4⟩, g5, g6, g7, g8, g9, g10⟩ := hok
  simp only [mj_stp, g5] at hs
  split at hs
  · next fs' os bc bs e1 =>
    cases e1
    obtain ⟨q1, q2, q3⟩ := hs
    refine mj_so_new hx hb trivial hown hts hK hR (mj_tf G w) g3 g1 g8 g9 g10 g2 (fun k hk => ?_) g6 q1 q2 hd ho (hk _ _ _ _ q3)
    have e2 := g7 k hk
    unfold vp_V
    rw [List.getD_eq_getElem?_getD, List.getElem?_map, e2]
    cases mj_tf G w k <;> rfl
  · exact hs.elim
theorem mj_st_newarray (Cx : mj_Cx p l e R s m args below meth c G D tys ad bi z nL QQ b0 b1 cc cst own rt ini nh n Q) (hk : ∀ pc ls st h, k pc ls st h → mj_J p l e R s m args below meth c D (mj_cl G) tys ad bi z nL off QQ b0 b1 pc ls st h) {t : ArrayType} (hok : mj_OK G own cc nL off rt ini nh pc (.newarray t)) (hs : mj_stp call cst (mj_nw G) hd Q k (.newarray t) pc ls st h) : mj_J p l e R s m args below meth c D (mj_cl G) tys ad bi z nL off QQ b0 b1 pc ls st h := by
  obtain ⟨hx, hb, hml, hown, hts, hgood, hK, hSt, hR, hRf, hRl, hlocks, hrt, hini, hnh, htr, hty, had, hQQ⟩ := Cx
  obtain ⟨c0, c1, c2, c3, c4, hty⟩ := hty
  subst hty
  obtain ⟨hd, ho, g1⟩ := hok
  simp only [mj_stp] at hs
  split at hs
  · next g w r os bc bs e1 =>
    split at hs
    · next a e2 =>
      obtain ⟨q1, q2, q3, q4, q5⟩ := hs
      cases t <;> simp only [mj_tag, Option.some.injEq, reduceCtorEq] at e1 <;> subst e1 <;> simp only [mj_fresh, Option.some.injEq] at e2 <;> subst e2
      · exact mj_so_newa (cA := c3) (ty := .boolean) (t := 3) hx hb trivial hK hR hts rfl g1 rfl rfl (fun cA => rfl) q2 q4 (by decide) q1 q3 hd ho (hk _ _ _ _ q5)
      · exact mj_so_newa (cA := c2) (ty := .char) (t := 2) hx hb trivial hK hR hts rfl g1 rfl rfl (fun cA => rfl) q2 q4 (by decide) q1 q3 hd ho (hk _ _ _ _ q5)
      · exact mj_so_newa (cA := c4) (ty := .byte) (t := 4) hx hb trivial hK hR hts rfl g1 rfl rfl (fun cA => rfl) q2 q4 (by decide) q1 q3 hd ho (hk _ _ _ _ q5)
      · exact mj_so_newa (cA := c0) (ty := .int) (t := 0) hx hb trivial hK hR hts rfl g1 rfl rfl (fun cA => rfl) q2 q4 (by decide) q1 q3 hd ho (hk _ _ _ _ q5)
      · exact mj_so_newa (cA := c1) (ty := .long) (t := 1) hx hb trivial hK hR hts rfl g1 rfl rfl (fun cA => rfl) q2 q4 (by decide) q1 q3 hd ho (hk _ _ _ _ q5)
    · exact hs.elim
  · exact hs.elim
theorem mj_st_iaload (Cx : mj_Cx p l e R s m args below meth c G D tys ad bi z nL QQ b0 b1 cc cst own rt ini nh n Q) (hk : ∀ pc ls st h, k pc ls st h → mj_J p l e R s m args below meth c D (mj_cl G) tys ad bi z nL off QQ b0 b1 pc ls st h) (hok : mj_OK G own cc nL off rt ini nh pc (.iaload)) (hs : mj_stp call cst (mj_nw G) hd Q k (.iaload) pc ls st h) : mj_J p l e R s m args below meth c D (mj_cl G) tys ad bi z nL off QQ b0 b1 pc ls st h := by
  obtain ⟨hx, hb, hml, hown, hts, hgood, hK, hSt, hR, hRf, hRl, hlocks, hrt, hini, hnh, htr, hty, had, hQQ⟩ := Cx
  obtain ⟨c0, c1, c2, c3, c4, hty⟩ := hty
  subst hty
  simp only [mj_stp] at hs
  split at hs
  · split at hs
    · split at hs
      · next e1 e2 =>
        exact mj_so_cald0 hx hb ((hSt.1 _ _ _ e1).1 (Nat.le_of_ble_eq_true e2)) hs.1 hok.1 hok.2 (hk _ _ _ _ hs.2)
      · exact hs.elim
    · split at hs
      · next ha => exact mj_so_iald hx hb hK rfl ha hs.1 hok.1 hok.2 (hk _ _ _ _ hs.2)
      · exact hs.elim
  · exact hs.elim
theorem mj_st_laload (Cx : mj_Cx p l e R s m args below meth c G D tys ad bi z nL QQ b0 b1 cc cst own rt ini nh n Q) (hk : ∀ pc ls st h, k pc ls st h → mj_J p l e R s m args below meth c D (mj_cl G) tys ad bi z nL off QQ b0 b1 pc ls st h) (hok : mj_OK G own cc nL off rt ini nh pc (.laload)) (hs : mj_stp call cst (mj_nw G) hd Q k (.laload) pc ls st h) : mj_J p l e R s m args below meth c D (mj_cl G) tys ad bi z nL off QQ b0 b1 pc ls st h := by
  obtain ⟨hx, hb, hml, hown, hts, hgood, hK, hSt, hR, hRf, hRl, hlocks, hrt, hini, hnh, htr, hty, had, hQQ⟩ := Cx
  obtain ⟨c0, c1, c2, c3, c4, hty⟩ := hty
  subst hty
  simp only [mj_stp] at hs
  split at hs
  · split at hs
    · next ha => exact mj_so_lald hx hb hK rfl ha hs.1 hok.1 hok.2 (hk _ _ _ _ hs.2)
    · exact hs.elim
  · exact hs.elim
theorem mj_st_caload (Cx : mj_Cx p l e R s m args below meth c G D tys ad bi z nL QQ b0 b1 cc cst own rt ini nh n Q) (hk : ∀ pc ls st h, k pc ls st h → mj_J p l e R s m args below meth c D (mj_cl G) tys ad bi z nL off QQ b0 b1 pc ls st h) (hok : mj_OK G own cc nL off rt ini nh pc (.caload)) (hs : mj_stp call cst (mj_nw G) hd Q k (.caload) pc ls st h) : mj_J p l e R s m args below meth c D (mj_cl G) tys ad bi z nL off QQ b0 b1 pc ls st h := by
  obtain ⟨hx, hb, hml, hown, hts, hgood, hK, hSt, hR, hRf, hRl, hlocks, hrt, hini, hnh, htr, hty, had, hQQ⟩ := Cx
  obtain ⟨c0, c1, c2, c3, c4, hty⟩ := hty
  subst hty
  simp only [mj_stp] at hs
  split at hs
  · split at hs
    · next ha => exact mj_so_cald hx hb hK rfl ha hs.1 hok.1 hok.2 (hk _ _ _ _ hs.2)
    · exact hs.elim
  · exact hs.elim
theorem mj_st_baload (Cx : mj_Cx p l e R s m args below meth c G D tys ad bi z nL QQ b0 b1 cc cst own rt ini nh n Q) (hk : ∀ pc ls st h, k pc ls st h → mj_J p l e R s m args below meth c D (mj_cl G) tys ad bi z nL off QQ b0 b1 pc ls st h) (hok : mj_OK G own cc nL off rt ini nh pc (.baload)) (hs : mj_stp call cst (mj_nw G) hd Q k (.baload) pc ls st h) : mj_J p l e R s m args below meth c D (mj_cl G) tys ad bi z nL off QQ b0 b1 pc ls st h := by
  obtain ⟨hx, hb, hml, hown, hts, hgood, hK, hSt, hR, hRf, hRl, hlocks, hrt, hini, hnh, htr, hty, had, hQQ⟩ := Cx
  obtain ⟨c0, c1, c2, c3, c4, hty⟩ := hty
  subst hty
  simp only [mj_stp] at hs
  split at hs
  · split at hs
    · split at hs
      · next e1 e2 e3 =>
        exact mj_so_cbld hx hb ((hSt.1 _ _ _ e1).2.1 (Nat.le_of_ble_eq_true e2) (Nat.le_of_ble_eq_true e3)) hs.1 hok.1 hok.2 (hk _ _ _ _ hs.2)
      · exact hs.elim
    · split at hs
      · next ha => exact mj_so_zald hx hb hK rfl ha hs.1 hok.1 hok.2 (hk _ _ _ _ hs.2)
      · next ha => exact mj_so_bald hx hb hK rfl ha hs.1 hok.1 hok.2 (hk _ _ _ _ hs.2)
      · exact hs.elim
  · exact hs.elim
theorem mj_st_iastore (Cx : mj_Cx p l e R s m args below meth c G D tys ad bi z nL QQ b0 b1 cc cst own rt ini nh n Q) (hk : ∀ pc ls st h, k pc ls st h → mj_J p l e R s m args below meth c D (mj_cl G) tys ad bi z nL off QQ b0 b1 pc ls st h) (hok : mj_OK G own cc nL off rt ini nh pc (.iastore)) (hs : mj_stp call cst (mj_nw G) hd Q k (.iastore) pc ls st h) : mj_J p l e R s m args below meth c D (mj_cl G) tys ad bi z nL off QQ b0 b1 pc ls st h := by
  obtain ⟨hx, hb, hml, hown, hts, hgood, hK, hSt, hR, hRf, hRl, hlocks, hrt, hini, hnh, htr, hty, had, hQQ⟩ := Cx
  obtain ⟨c0, c1, c2, c3, c4, hty⟩ := hty
  subst hty
  simp only [mj_stp] at hs
  split at hs
  · split at hs
    · next ha => exact mj_so_iast hx hb hK rfl ha hs.1 hok.1 hok.2 (hk _ _ _ _ hs.2)
    · exact hs.elim
  · exact hs.elim
theorem mj_st_lastore (Cx : mj_Cx p l e R s m args below meth c G D tys ad bi z nL QQ b0 b1 cc cst own rt ini nh n Q) (hk : ∀ pc ls st h, k pc ls st h → mj_J p l e R s m args below meth c D (mj_cl G) tys ad bi z nL off QQ b0 b1 pc ls st h) (hok : mj_OK G own cc nL off rt ini nh pc (.lastore)) (hs : mj_stp call cst (mj_nw G) hd Q k (.lastore) pc ls st h) : mj_J p l e R s m args below meth c D (mj_cl G) tys ad bi z nL off QQ b0 b1 pc ls st h := by
  obtain ⟨hx, hb, hml, hown, hts, hgood, hK, hSt, hR, hRf, hRl, hlocks, hrt, hini, hnh, htr, hty, had, hQQ⟩ := Cx
  obtain ⟨c0, c1, c2, c3, c4, hty⟩ := hty
  subst hty
  simp only [mj_stp] at hs
  split at hs
  · split at hs
    · next ha => exact mj_so_last hx hb hK rfl ha hs.1 hok.1 hok.2 (hk _ _ _ _ hs.2)
    · exact hs.elim
  · exact hs.elim
theorem mj_st_castore (Cx : mj_Cx p l e R s m args below meth c G D tys ad bi z nL QQ b0 b1 cc cst own rt ini nh n Q) (hk : ∀ pc ls st h, k pc ls st h → mj_J p l e R s m args below meth c D (mj_cl G) tys ad bi z nL off QQ b0 b1 pc ls st h) (hok : mj_OK G own cc nL off rt ini nh pc (.castore)) (hs : mj_stp call cst (mj_nw G) hd Q k (.castore) pc ls st h) : mj_J p l e R s m args below meth c D (mj_cl G) tys ad bi z nL off QQ b0 b1 pc ls st h := by
  obtain ⟨hx, hb, hml, hown, hts, hgood, hK, hSt, hR, hRf, hRl, hlocks, hrt, hini, hnh, htr, hty, had, hQQ⟩ := Cx
  obtain ⟨c0, c1, c2, c3, c4, hty⟩ := hty
  subst hty
  simp only [mj_stp] at hs
  split at hs
  · split at hs
    · next ha => exact mj_so_cast hx hb hK rfl ha hs.1 hok.1 hok.2 (hk _ _ _ _ hs.2)
    · exact hs.elim
  · exact hs.elim
theorem mj_st_bastore (Cx : mj_Cx p l e R s m args below meth c G D tys ad bi z nL QQ b0 b1 cc cst own rt ini nh n Q) (hk : ∀ pc ls st h, k pc ls st h → mj_J p l e R s m args below meth c D (mj_cl G) tys ad bi z nL off QQ b0 b1 pc ls st h) (hok : mj_OK G own cc nL off rt ini nh pc (.bastore)) (hs : mj_stp call cst (mj_nw G) hd Q k (.bastore) pc ls st h) : mj_J p l e R s m args below meth c D (mj_cl G) tys ad bi z nL off QQ b0 b1 pc ls st h := by
  obtain ⟨hx, hb, hml, hown, hts, hgood, hK, hSt, hR, hRf, hRl, hlocks, hrt, hini, hnh, htr, hty, had, hQQ⟩ := Cx
  obtain ⟨c0, c1, c2, c3, c4, hty⟩ := hty
  subst hty
  simp only [mj_stp] at hs
  split at hs
  · split at hs
    · next ha => exact mj_so_zast hx hb hK rfl ha hs.1 hok.1 hok.2 (hk _ _ _ _ hs.2)
    · next ha => exact mj_so_bast hx hb hK rfl ha hs.1 hok.1 hok.2 (hk _ _ _ _ hs.2)
    · exact hs.elim
  · exact hs.elim
theorem mj_st_monitorenter (Cx : mj_Cx p l e R s m args below meth c G D tys ad bi z nL QQ b0 b1 cc cst own rt ini nh n Q) (hk : ∀ pc ls st h, k pc ls st h → mj_J p l e R s m args below meth c D (mj_cl G) tys ad bi z nL off QQ b0 b1 pc ls st h) (hok : mj_OK G own cc nL off rt ini nh pc (.monitorenter)) (hs : mj_stp call cst (mj_nw G) hd Q k (.monitorenter) pc ls st h) : mj_J p l e R s m args below meth c D (mj_cl G) tys ad bi z nL off QQ b0 b1 pc ls st h := by
  obtain ⟨hx, hb, hml, hown, hts, hgood, hK, hSt, hR, hRf, hRl, hlocks, hrt, hini, hnh, htr, hty, had, hQQ⟩ := Cx
  obtain ⟨j, hd, ho, g1, g2, g3⟩ := hok
  simp only [mj_stp] at hs
  split at hs
  · split at hs
    · next hw =>
      have hw := Nat.le_of_ble_eq_true hw
      exact mj_so_obj hx hb hown hts hml g1 g2 g3 (by omega) (by omega) hd ho (hk _ _ _ _ hs)
    · exact hs.elim
  · exact hs.elim
theorem mj_st_math (Cx : mj_Cx p l e R s m args below meth c G D tys ad bi z nL QQ b0 b1 cc cst own rt ini nh n Q) (hk : ∀ pc ls st h, k pc ls st h → mj_J p l e R s m args below meth c D (mj_cl G) tys ad bi z nL off QQ b0 b1 pc ls st h) {w : Nat} (hok : mj_OK G own cc nL off rt ini nh pc (.invokedynamic w)) (hs : mj_stp call cst (mj_nw G) hd Q k (.invokedynamic w) pc ls st h) : mj_J p l e R s m args below meth c D (mj_cl G) tys ad bi z nL off QQ b0 b1 pc ls st h := by
  obtain ⟨hx, hb, hml, hown, hts, hgood, hK, hSt, hR, hRf, hRl, hlocks, hrt, hini, hnh, htr, hty, had, hQQ⟩ := Cx
  obtain ⟨j, hd, ho, g1, g2⟩ := hok
  simp only [mj_stp] at hs
  split at hs
  · split at hs
    · next hw =>
      have hw := Nat.le_of_ble_eq_true hw
      exact mj_so_max hx hb hml hown hts hR g2.1 g2.2.1 g1 g2.2.2 (by omega) (by omega) hd ho (hk _ _ _ _ hs)
    · exact hs.elim
  · split at hs
    · next hw =>
      have hw := Nat.le_of_ble_eq_true hw
      exact mj_so_min hx hb hml hown hts hR g2.1 g2.2.1 g1 g2.2.2 (by omega) (by omega) hd ho (hk _ _ _ _ hs)
    · exact hs.elim
  · exact hs.elim
theorem mj_st_arraylength (Cx : mj_Cx p l e R s m args below meth c G D tys ad bi z nL QQ b0 b1 cc cst own rt ini nh n Q) (hk : ∀ pc ls st h, k pc ls st h → mj_J p l e R s m args below meth c D (mj_cl G) tys ad bi z nL off QQ b0 b1 pc ls st h) (hok : mj_OK G own cc nL off rt ini nh pc (.arraylength)) (hs : mj_stp call cst (mj_nw G) hd Q k (.arraylength) pc ls st h) : mj_J p l e R s m args below meth c D (mj_cl G) tys ad bi z nL off QQ b0 b1 pc ls st h := by
  obtain ⟨hx, hb, hml, hown, hts, hgood, hK, hSt, hR, hRf, hRl, hlocks, hrt, hini, hnh, htr, hty, had, hQQ⟩ := Cx
  obtain ⟨c0, c1, c2, c3, c4, hty⟩ := hty
  subst hty
  simp only [mj_stp] at hs
  split at hs
  · split at hs
    · split at hs
      · next e1 e2 =>
        obtain ⟨ty, hT⟩ := (hSt.1 _ _ _ e1).row (Nat.le_of_ble_eq_true e2)
        exact mj_so_clen0 hx hb hT hok.1 hok.2 (hk _ _ _ _ hs)
      · exact hs.elim
    · split at hs
      · next t w y ha =>
        split at hs
        · next ht =>
          have ht : t < 5 := Nat.le_of_ble_eq_true ht
          obtain ⟨x, hx5⟩ : ∃ x, ([(c0, FieldType.int), (c1, .long), (c2, .char), (c3, .boolean), (c4, .byte)] : List (ClassId × FieldType))[t]? = some x := ⟨_, List.getElem?_eq_getElem ht⟩
          exact mj_so_alen hx hb hK (cA := x.1) (ty := x.2) hx5 ha hok.1 hok.2 (hk _ _ _ _ hs)
        · exact hs.elim
      · exact hs.elim
  · exact hs.elim
theorem mj_st_throw (Cx : mj_Cx p l e R s m args below meth c G D tys ad bi z nL QQ b0 b1 cc cst own rt ini nh n Q) (hk : ∀ pc ls st h, k pc ls st h → mj_J p l e R s m args below meth c D (mj_cl G) tys ad bi z nL off QQ b0 b1 pc ls st h) {q : Nat} (hnd : nh = true → ∀ pc q, hd pc q = some none) (hok : mj_OK G own cc nL off rt ini nh pc (.checkcast q)) (hs : mj_stp call cst (mj_nw G) hd Q k (.checkcast q) pc ls st h) : mj_J p l e R s m args below meth c D (mj_cl G) tys ad bi z nL off QQ b0 b1 pc ls st h := by
  obtain ⟨hx, hb, hml, hown, hts, hgood, hK, hSt, hR, hRf, hRl, hlocks, hrt, hini, hnh, htr, hty, had, hQQ⟩ := Cx
  obtain ⟨g0, ia, ib, ic, tx, g1, g2, g3, g4, g5, g6, g7, g8, g9, g10, g11, g12, g13⟩ := hok
  simp only [mj_stp] at hs
  split at hs
  · next hw =>
    have hw := Nat.le_of_ble_eq_true hw
    obtain ⟨q1, q2⟩ := hs
    unfold mj_thr at q2
    rw [hnd g0] at q2
    exact mj_so_throw hx hb hml hown hlocks htr hts hSt hR (by omega) (by omega) hQQ g6 g7 g8 g9 g10 g11 g12 g13 hw q1 g1 g2 g3 g4 g5 (fun x hx9 => by rw [hnh g0] at hx9; cases hx9) q2
  · exact hs.elim
theorem mj_st_copy (Cx : mj_Cx p l e R s m args below meth c G D tys ad bi z nL QQ b0 b1 cc cst own rt ini nh n Q) (hk : ∀ pc ls st h, k pc ls st h → mj_J p l e R s m args below meth c D (mj_cl G) tys ad bi z nL off QQ b0 b1 pc ls st h) {w : Nat} (hok : mj_OK G own cc nL off rt ini nh pc (.invokestatic w)) (hs : mj_stp call cst (mj_nw G) hd Q k (.invokestatic w) pc ls st h) : mj_J p l e R s m args below meth c D (mj_cl G) tys ad bi z nL off QQ b0 b1 pc ls st h := by
  obtain ⟨hx, hb, hml, hown, hts, hgood, hK, hSt, hR, hRf, hRl, hlocks, hrt, hini, hnh, htr, hty, had, hQQ⟩ := Cx
  obtain ⟨c0, c1, c2, c3, c4, hty⟩ := hty
  subst hty
  obtain ⟨j, hd, ho, g1, g2, g3, g4⟩ := hok
  simp only [mj_stp] at hs
  split at hs
  · next n dp a sp a0 r =>
    split at hs
    · next n0 f n1 g hw ha0 ha =>
      have hw := Nat.le_of_ble_eq_true hw
      obtain ⟨q1, q2, q3, q4, q5, q6, q7⟩ := hs
      have e : nativeFrameWords "java/lang/System" "arraycopy" 5 ≤ 200 := by decide +kernel
      have hlo : mj_wt r + (nativeFrameWords "java/lang/System" "arraycopy" 5 + 11) ≤ R.locals := by rw [hRl]; omega
      have hfr : 1 ≤ R.frames := by rw [hRf]; omega
      exact mj_so_copy (cA := c4) hx hb hml hown hts hK g1 g2 g3 g4 rfl ha0 ha q1 q2 q3 q4 q5 q6 hfr hlo hd ho (hk _ _ _ _ q7)
    · exact hs.elim
  · exact hs.elim
theorem mj_st_ccopy (Cx : mj_Cx p l e R s m args below meth c G D tys ad bi z nL QQ b0 b1 cc cst own rt ini nh n Q) (hk : ∀ pc ls st h, k pc ls st h → mj_J p l e R s m args below meth c D (mj_cl G) tys ad bi z nL off QQ b0 b1 pc ls st h) {w : Nat} (hok : mj_OK G own cc nL off rt ini nh pc (.fload w)) (hs : mj_stp call cst (mj_nw G) hd Q k (.fload w) pc ls st h) : mj_J p l e R s m args below meth c D (mj_cl G) tys ad bi z nL off QQ b0 b1 pc ls st h := by
  obtain ⟨hx, hb, hml, hown, hts, hgood, hK, hSt, hR, hRf, hRl, hlocks, hrt, hini, hnh, htr, hty, had, hQQ⟩ := Cx
  obtain ⟨c0, c1, c2, c3, c4, hty⟩ := hty
  subst hty
  obtain ⟨j, hd, ho, g1, g2, g3, g4⟩ := hok
  simp only [mj_stp] at hs
  split at hs
  · next n dp a sp a0 r =>
    split at hs
    · next n0 f n1 g hw ha0 ha =>
      have hw := Nat.le_of_ble_eq_true hw
      obtain ⟨q8, q9, q1, q2, q3, q4, q5, q6, q7⟩ := hs
      have e : nativeFrameWords "java/lang/System" "arraycopy" 5 ≤ 200 := by decide +kernel
      have hlo : mj_wt r + (nativeFrameWords "java/lang/System" "arraycopy" 5 + 11) ≤ R.locals := by rw [hRl]; omega
      have hfr : 1 ≤ R.frames := by rw [hRf]; omega
      exact mj_so_ccopy (cA := c4) hx hb hml hown hts hK g1 g2 g3 g4 rfl ((hSt.1 _ _ _ ha0).2.1 q8 q9) ha q1 q2 q3 q4 q5 q6 hfr hlo hd ho (hk _ _ _ _ q7)
    · exact hs.elim
  · exact hs.elim
theorem mj_st_scall (Cx : mj_Cx p l e R s m args below meth c G D tys ad bi z nL QQ b0 b1 cc cst own rt ini nh n Q) (hk : ∀ pc ls st h, k pc ls st h → mj_J p l e R s m args below meth c D (mj_cl G) tys ad bi z nL off QQ b0 b1 pc ls st h) {w : Nat} (hM : ∀ y as h Qp, call y as h Qp → MetFree l (mj_mn G y) (headSpec (mj_cw G y :: mj_TS G) (mj_rm n h)) (mj_Pc D (mj_cl G) tys ad bi z cst (mj_nc G) as h) (fun _ _ _ _ _ => True) (fun _ => mj_Qc D (mj_cl G) tys ad bi z (mj_xn G) h.2.1 h.2.2.1 Qp)) (hH : ∀ q ls h, mj_thr hd Q k pc ls q h → mj_JT p l e R s m args below meth c D (mj_cl G) tys ad bi z nL off QQ b0 b1 (mj_xn G) pc ls q h) (hok : mj_OK G own cc nL off rt ini nh pc (.instanceof w)) (hs : mj_stp call cst (mj_nw G) hd Q k (.instanceof w) pc ls st h) : mj_J p l e R s m args below meth c D (mj_cl G) tys ad bi z nL off QQ b0 b1 pc ls st h := by
  obtain ⟨hx, hb, hml, hown, hts, hgood, hK, hSt, hR, hRf, hRl, hlocks, hrt, hini, hnh, htr, hty, had, hQQ⟩ := Cx
  obtain ⟨ho, g1, g2, g3, g4, j, g5, hdc, g7, g9, g10⟩ := hok
  simp only [mj_stp] at hs
  split at hs
  · next a as r hp =>
    split at hs
    · next x ec he hw =>
      have hw := Nat.le_of_ble_eq_true hw
      obtain ⟨f, e1, e2, e3⟩ := mj_pop_eq hp
      rw [List.append_nil] at e2
      generalize w / 1024 = y at *
      have hws : ∀ v ∈ mj_cw G y :: mj_TS G, ∀ (a' : Array Value) (U : State), s.WarmedH U.vm → v.before a' U = true := fun v hv a' U hW => by
        rcases List.mem_cons.mp hv with rfl | hv
        · exact mj_wat hW (hgood _ g1) (hts _ g1)
        · exact mj_wat hW (hgood _ hv) (hts _ hv)
      have hin9 : ∀ (a' : Array Value) (U : State), s.WarmedH U.vm → (Cond.initialized (mj_mn G y).cls).before a' U = true := fun a' U hW => mj_wat hW (hgood _ g3) (hts _ g3)
      have kret : ∀ v h', mj_after hd Q k pc ls r (.inl v, h') → mj_J p l e R s m args below meth c D (mj_cl G) tys ad bi z nL off QQ b0 b1 (pc + 1) ls (v.toList ++ r) h' := fun v h' h9 => by
        cases v with
        | none => exact hk _ _ _ _ h9
        | some v => exact hk _ _ _ _ h9
      have hcd : mj_cd (mj_mn G y) (mj_mb G y) (mj_ml G y) (mj_mr G y) (mj_mh G y) ∈ mj_cw G y :: mj_TS G := List.mem_cons_self
      have hcs : (mj_cd (mj_mn G y) (mj_mb G y) (mj_ml G y) (mj_mr G y) (mj_mh G y)).before args s = true := hts _ g1
      have hfr : (mj_rm n h).frames + 1 ≤ R.frames := by rw [hRf]; exact Nat.le_refl _
      have hlo : 8 + (mj_ml G y + 11) + (mj_rm n h).locals ≤ R.locals := by rw [hRl]; show 8 + (mj_ml G y + 11) + (300 + 64 * n) ≤ _; omega
      have ef : f = as.reverse ++ [.ref a] := by rw [← List.reverse_reverse f, ← e2]; simp
      have hO := ((hSt.1 a x.1 x.2 ec).2.2 (Nat.le_of_ble_eq_true he)).1
      have hM2 := hM _ _ _ _ hs
      refine mj_so_call hx hb hml hK hSt hR hM2 rfl rfl hfr hlo hw hws hcd hin9 hdc ho (fun T9 H9 locs9 k9 n9 L9 hT9 hr9 hS9 X9 => ?_) kret (fun q h' h9 => hH q ls h' h9)
      obtain ⟨cellB, c1, c2, c3, -⟩ := hO.kept hS9.2.1
      refine mj_invV (C := "java/lang/String") X9 hx hown (hts _ g5) (hts _ g7) (hts _ g9) hcs g4 (b := ad a) (cellB := cellB) (by rw [hT9]; exact c1) c2 c3 (As := as.map (mj_tr ad)) rfl ?_ ?_ (by rw [hb]; exact hdc)
      · have e5 : as.length + 1 = w / 4 % 16 := by rw [← e3, ef]; simp
        rw [List.length_map]
        cases hpd : parseMethodDescriptor (mj_mn G y).desc with
        | none => rw [hpd] at g10; cases g10
        | some sg => rw [hpd] at g10; have this : sg.parameters.length + 1 = w / 4 % 16 := Option.some.inj g10; simp only [Option.map_some, Option.some.injEq]; omega
      · show st.map (mj_tr ad) = _
        rw [e1, ef]
        simp [mj_tr]
    · exact hs.elim
  · exact hs.elim
theorem mj_st_binit (Cx : mj_Cx p l e R s m args below meth c G D tys ad bi z nL QQ b0 b1 cc cst own rt ini nh n Q) (hk : ∀ pc ls st h, k pc ls st h → mj_J p l e R s m args below meth c D (mj_cl G) tys ad bi z nL off QQ b0 b1 pc ls st h) {w : Nat} (hM : ∀ y as h Qp, call y as h Qp → MetFree l (mj_mn G y) (headSpec (mj_cw G y :: mj_TS G) (mj_rm n h)) (mj_Pc D (mj_cl G) tys ad bi z cst (mj_nc G) as h) (fun _ _ _ _ _ => True) (fun _ => mj_Qc D (mj_cl G) tys ad bi z (mj_xn G) h.2.1 h.2.2.1 Qp)) (hok : mj_OK G own cc nL off rt ini nh pc (.invokespecial w)) (hs : mj_stp call cst (mj_nw G) hd Q k (.invokespecial w) pc ls st h) : mj_J p l e R s m args below meth c D (mj_cl G) tys ad bi z nL off QQ b0 b1 pc ls st h := by
  obtain ⟨hx, hb, hml, hown, hts, hgood, hK, hSt, hR, hRf, hRl, hlocks, hrt, hini, hnh, htr, hty, had, hQQ⟩ := Cx
  obtain ⟨ho, ⟨g1, g2, g3, g4, j, g5, g6⟩, gw, gn⟩ := hok
  obtain ⟨rfl, h9⟩ := id had
  simp only [mj_stp] at hs
  split at hs
  · next a r =>
    split at hs
    · next hw =>
      have hw := Nat.le_of_ble_eq_true hw
      have h4 : w % 1024 % 4 = 2 := by omega
      have h16 : w % 1024 / 4 % 16 = 1 := by omega
      generalize w / 1024 = y at *
      have hws : ∀ v ∈ mj_cw G y :: mj_TS G, ∀ (a' : Array Value) (U : State), s.WarmedH U.vm → v.before a' U = true := fun v hv a' U hW => by
        rcases List.mem_cons.mp hv with rfl | hv
        · exact mj_wat hW (hgood _ g1) (hts _ g1)
        · exact mj_wat hW (hgood _ hv) (hts _ hv)
      have hin9 : ∀ (a' : Array Value) (U : State), s.WarmedH U.vm → (Cond.initialized (mj_mn G y).cls).before a' U = true := fun a' U hW => mj_wat hW (hgood _ g3) (hts _ g3)
      have hcd : mj_cd (mj_mn G y) (mj_mb G y) (mj_ml G y) (mj_mr G y) (mj_mh G y) ∈ mj_cw G y :: mj_TS G := List.mem_cons_self
      have hcs : (mj_cd (mj_mn G y) (mj_mb G y) (mj_ml G y) (mj_mr G y) (mj_mh G y)).before args s = true := hts _ g1
      have hfr : (mj_rm n h).frames + 1 ≤ R.frames := by rw [hRf]; exact Nat.le_refl _
      have hlo : 8 + (mj_ml G y + 11) + (mj_rm n h).locals ≤ R.locals := by rw [hRl]; show 8 + (mj_ml G y + 11) + (300 + 64 * n) ≤ _; omega
      simp only [h4] at g6
      obtain ⟨hdc, g7, g8, g9, g9r, g10⟩ := g6
      rw [h16] at g10
      have kret : ∀ v h', mj_ip k pc ls r a (.inl v, h') → mj_J p l e R s m args below meth c D (mj_cl G) tys ad 9 z nL off QQ b0 b1 (pc + 1) ls (v.toList ++ r) h' := fun v h' q9 => by
        obtain ⟨os, bc, bs, fl⟩ := h'
        cases v with
        | none =>
          obtain ⟨N, g, ml, q1, q2, q3, q4, q5⟩ := q9
          exact fun H9 locs9 k9 n9 L9 f1 f2 f3 f4 f5 => hk _ _ _ _ q5 H9 locs9 k9 n9 L9 f1 (mj_rep_cv f2 q1 q2 q3 q4) f3 f4 f5
        | some v => exact q9.elim
      have hM2 := hM y [.ref a] h _ hs
      refine mj_so_call (y := mj_mn G y) (ws := mj_cw G y :: mj_TS G) (rm := mj_rm n h) hx hb hml hK hSt hR hM2 rfl rfl hfr hlo hw hws hcd hin9 hdc ho (fun T9 H9 locs9 k9 n9 L9 hT9 hr9 hS9 X9 => ?_) kret (fun q h' q9 => False.elim (by obtain ⟨os, bc, bs, fl⟩ := h'; exact q9))
      have hcs' : (Cond.code (mj_mn G y) (mj_mb G y) (mj_ml G y) none).before args s = true := by
        have := hcs
        unfold mj_cd at this
        rw [if_pos g9, g9r] at this
        exact this
      refine mj_invI X9 hx hown g8 (hts _ g5) (hts _ g7) hcs' g4 (As := ([] : List Value).map (mj_tr ad)) (b := ad a) rfl ?_ ?_ (by rw [hb]; exact hdc)
      · rw [List.length_map]
        cases hpd : parseMethodDescriptor (mj_mn G y).desc with
        | none => rw [hpd] at g10; cases g10
        | some sg => rw [hpd] at g10; have this : sg.parameters.length + 1 = 1 := Option.some.inj g10; simp only [Option.map_some, Option.some.injEq]; show sg.parameters.length = 0; omega
      · rfl
    · exact hs.elim
  · exact hs.elim
theorem mj_st_bcall (Cx : mj_Cx p l e R s m args below meth c G D tys ad bi z nL QQ b0 b1 cc cst own rt ini nh n Q) (hk : ∀ pc ls st h, k pc ls st h → mj_J p l e R s m args below meth c D (mj_cl G) tys ad bi z nL off QQ b0 b1 pc ls st h) {w : Nat} (hM : ∀ (ad2 : Nat → Nat) (z2 : Nat → Prop) y as h Qp, call y as h Qp → MetFree l (mj_mn G y) (headSpec (mj_cw G y :: mj_TS G) (mj_rm n h)) (mj_Pc D (mj_cl G) tys ad2 bi z2 cst (mj_nc G) as h) (fun _ _ _ _ _ => True) (fun _ => mj_Qc D (mj_cl G) tys ad2 bi z2 (mj_xn G) h.2.1 h.2.2.1 Qp)) (hok : mj_OK G own cc nL off rt ini nh pc (.invokevirtual w)) (hs : mj_stp call cst (mj_nw G) hd Q k (.invokevirtual w) pc ls st h) : mj_J p l e R s m args below meth c D (mj_cl G) tys ad bi z nL off QQ b0 b1 pc ls st h := by
  obtain ⟨hx, hb, hml, hown, hts, hgood, hK, hSt, hR, hRf, hRl, hlocks, hrt, hini, hnh, htr, hty, had, hQQ⟩ := Cx
  obtain ⟨ho, ⟨g1, g2, g3, g4, j, g5, g6⟩, gc, gw⟩ := hok
  obtain ⟨rfl, h9⟩ := id had
  simp only [mj_stp] at hs
  split at hs
  · next a as r hp =>
    split at hs
    · next nb fb ha hni hw =>
      have hw := Nat.le_of_ble_eq_true hw
      obtain ⟨f, e1, e2, e3⟩ := mj_pop_eq hp
      rw [List.append_nil] at e2
      have hws : ∀ v ∈ mj_cw G (w / 1024) :: mj_TS G, ∀ (a' : Array Value) (U : State), s.WarmedH U.vm → v.before a' U = true := fun v hv a' U hW => by
        rcases List.mem_cons.mp hv with rfl | hv
        · exact mj_wat hW (hgood _ g1) (hts _ g1)
        · exact mj_wat hW (hgood _ hv) (hts _ hv)
      have hin9 : ∀ (a' : Array Value) (U : State), s.WarmedH U.vm → (Cond.initialized (mj_mn G (w / 1024)).cls).before a' U = true := fun a' U hW => mj_wat hW (hgood _ g3) (hts _ g3)
      have hcd : mj_cd (mj_mn G (w / 1024)) (mj_mb G (w / 1024)) (mj_ml G (w / 1024)) (mj_mr G (w / 1024)) (mj_mh G (w / 1024)) ∈ mj_cw G (w / 1024) :: mj_TS G := List.mem_cons_self
      have hcs : (mj_cd (mj_mn G (w / 1024)) (mj_mb G (w / 1024)) (mj_ml G (w / 1024)) (mj_mr G (w / 1024)) (mj_mh G (w / 1024))).before args s = true := hts _ g1
      have hfr : (mj_rm n h).frames + 1 ≤ R.frames := by rw [hRf]; exact Nat.le_refl _
      have hlo : 8 + (mj_ml G (w / 1024) + 11) + (mj_rm n h).locals ≤ R.locals := by rw [hRl]; show 8 + (mj_ml G (w / 1024) + 11) + (300 + 64 * n) ≤ _; omega
      have h4 : w % 1024 % 4 = 0 := by omega
      have h16 : w % 1024 / 4 % 16 = w / 4 % 16 := by omega
      simp only [h4] at g6
      obtain ⟨hdc, g7, ⟨C, T, N, g8, g9⟩, g10⟩ := g6
      rw [gc] at g8
      rw [h16] at g10
      have ef : f = as.reverse ++ [.ref a] := by rw [← List.reverse_reverse f, ← e2]; simp
      generalize w / 1024 = y at *
      have hM2 : ∀ (ad2 : Nat → Nat) (z2 : Nat → Prop) (ml : Int32) (N : Nat) (g : Nat → Int32), nb ≤ N → N ≤ 65536 → sb_Lat fb nb g → sb_Fit g → MetFree l (mj_mn G y) (headSpec (mj_cw G y :: mj_TS G) (mj_rm n h)) (mj_Pc D (mj_cl G) tys ad2 9 z2 cst (mj_nc G) (.ref 0 :: as) (mj_lo ml nb N g, h.2.1, h.2.2.1, true)) (fun _ _ _ _ _ => True) (fun _ => mj_Qc D (mj_cl G) tys ad2 9 z2 (mj_xn G) h.2.1 h.2.2.1 (mj_bp k pc ls r h a)) := fun ad2 z2 ml N g q1 q2 q3 q4 => hM ad2 z2 y (.ref 0 :: as) (mj_lo ml nb N g, h.2.1, h.2.2.1, true) _ (hs ml N g q1 q2 q3 q4)
      refine mj_so_bcall (y := mj_mn G y) (ws := mj_cw G y :: mj_TS G) (rm := mj_rm n h) hx hb hml hK hSt hR ⟨rfl, h9⟩ ha hni hM2 rfl rfl hfr hlo hw hws hcd hin9 hdc ho (fun T9 H9 locs9 k9 n9 L9 hT9 hr9 X9 => ?_) hk
      obtain ⟨⟨b, hP, hD, hB⟩, -, -⟩ := hr9
      obtain ⟨cellB, c1, c2, c3⟩ := va_recv hK hP g8 (mj_b0 (tys := tys) (ad := ad) (b := b) ha)
      refine mj_invV (C := C) X9 hx hown (hts _ g5) (hts _ g7) (hts _ g9) hcs g4 (b := ad a) (cellB := cellB) (by rw [hT9]; exact c1) c2 c3 (As := as.map (mj_tr ad)) rfl ?_ ?_ (by rw [hb]; exact hdc)
      · have e5 : as.length + 1 = w / 4 % 16 := by rw [← e3, ef]; simp
        rw [List.length_map]
        cases hpd : parseMethodDescriptor (mj_mn G y).desc with
        | none => rw [hpd] at g10; cases g10
        | some sg => rw [hpd] at g10; have this : sg.parameters.length + 1 = w / 4 % 16 := Option.some.inj g10; simp only [Option.map_some, Option.some.injEq]; omega
      · show st.map (mj_tr ad) = _
        rw [e1, ef]
        simp [mj_tr]
    · exact hs.elim
  · exact hs.elim
theorem mj_st_call (Cx : mj_Cx p l e R s m args below meth c G D tys ad bi z nL QQ b0 b1 cc cst own rt ini nh n Q) (hk : ∀ pc ls st h, k pc ls st h → mj_J p l e R s m args below meth c D (mj_cl G) tys ad bi z nL off QQ b0 b1 pc ls st h) {y w : Nat} (hM : ∀ y as h Qp, call y as h Qp → MetFree l (mj_mn G y) (headSpec (mj_cw G y :: mj_TS G) (mj_rm n h)) (mj_Pc D (mj_cl G) tys ad bi z cst (mj_nc G) as h) (fun _ _ _ _ _ => True) (fun _ => mj_Qc D (mj_cl G) tys ad bi z (mj_xn G) h.2.1 h.2.2.1 Qp)) (hH : ∀ q ls h, mj_thr hd Q k pc ls q h → mj_JT p l e R s m args below meth c D (mj_cl G) tys ad bi z nL off QQ b0 b1 (mj_xn G) pc ls q h) (hok : mj_OK G own cc nL off rt ini nh pc (.invokeinterface y w)) (hs : mj_stp call cst (mj_nw G) hd Q k (.invokeinterface y w) pc ls st h) : mj_J p l e R s m args below meth c D (mj_cl G) tys ad bi z nL off QQ b0 b1 pc ls st h := by
  obtain ⟨hx, hb, hml, hown, hts, hgood, hK, hSt, hR, hRf, hRl, hlocks, hrt, hini, hnh, htr, hty, had, hQQ⟩ := Cx
  obtain ⟨ho, g1, g2, g3, g4, j, g5, g6⟩ := hok
  simp only [mj_stp] at hs
  split at hs
  · next as r hp =>
    split at hs
    · next hrc hw =>
      have hw := Nat.le_of_ble_eq_true hw
      obtain ⟨f, e1, e2, e3⟩ := mj_pop_eq hp
      rw [List.append_nil] at e2
      have hws : ∀ w ∈ mj_cw G y :: mj_TS G, ∀ (a' : Array Value) (U : State), s.WarmedH U.vm → w.before a' U = true := fun w hw a' U hW => by
        rcases List.mem_cons.mp hw with rfl | hw
        · exact mj_wat hW (hgood _ g1) (hts _ g1)
        · exact mj_wat hW (hgood _ hw) (hts _ hw)
      have hin9 : ∀ (a' : Array Value) (U : State), s.WarmedH U.vm → (Cond.initialized (mj_mn G y).cls).before a' U = true := fun a' U hW => mj_wat hW (hgood _ g3) (hts _ g3)
      have kret : ∀ v h', mj_after hd Q k pc ls r (.inl v, h') → mj_J p l e R s m args below meth c D (mj_cl G) tys ad bi z nL off QQ b0 b1 (pc + 1) ls (v.toList ++ r) h' := fun v h' h9 => by
        cases v with
        | none => exact hk _ _ _ _ h9
        | some v => exact hk _ _ _ _ h9
      have hcd : mj_cd (mj_mn G y) (mj_mb G y) (mj_ml G y) (mj_mr G y) (mj_mh G y) ∈ mj_cw G y :: mj_TS G := List.mem_cons_self
      have hcs : (mj_cd (mj_mn G y) (mj_mb G y) (mj_ml G y) (mj_mr G y) (mj_mh G y)).before args s = true := hts _ g1
      have hfr : (mj_rm n h).frames + 1 ≤ R.frames := by rw [hRf]; exact Nat.le_refl _
      have hlo : 8 + (mj_ml G y + 11) + (mj_rm n h).locals ≤ R.locals := by rw [hRl]; show 8 + (mj_ml G y + 11) + (300 + 64 * n) ≤ _; omega
      rcases (show w % 4 = 0 ∨ w % 4 = 1 ∨ w % 4 = 2 ∨ w % 4 = 3 by omega) with h4 | h4 | h4 | h4
      · simp only [h4] at g6
        obtain ⟨hdc, g7, ⟨C, T, N, g8, g9⟩, g10⟩ := g6
        simp only [mj_recv, h4] at hrc
        split at hrc
        · next a As =>
          split at hrc
          · next ci fs ha =>
            have hci : ci = w / 64 := Nat.eq_of_beq_eq_true hrc
            subst hci
            have ef : f = As.reverse ++ [.ref a] := by rw [← List.reverse_reverse f, ← e2]; simp
            refine mj_so_call hx hb hml hK hSt hR (hM _ _ _ _ hs) rfl rfl hfr hlo hw hws hcd hin9 hdc ho (fun T9 H9 locs9 k9 n9 L9 hT9 hr9 hS9 X9 => ?_) kret (fun q h' h9 => hH q ls h' h9)
            obtain ⟨⟨b, hP, hD, hB⟩, -, -⟩ := hr9
            obtain ⟨cellB, c1, c2, c3⟩ := va_recv hK hP g8 (mj_at (tys := tys) (ad := ad) (bi := bi) (b := b) ha)
            refine mj_invV (C := C) X9 hx hown (hts _ g5) (hts _ g7) (hts _ g9) hcs g4 (b := ad a) (cellB := cellB) (by rw [hT9]; exact c1) c2 c3 (As := As.map (mj_tr ad)) rfl ?_ ?_ (by rw [hb]; exact hdc)
            · have e5 : As.length + 1 = w / 4 % 16 := by rw [← e3, ef]; simp
              rw [List.length_map]
              cases hpd : parseMethodDescriptor (mj_mn G y).desc with
              | none => rw [hpd] at g10; cases g10
              | some sg => rw [hpd] at g10; have this : sg.parameters.length + 1 = w / 4 % 16 := Option.some.inj g10; simp only [Option.map_some, Option.some.injEq]; omega
            · show st.map (mj_tr ad) = _
              rw [e1, ef]
              simp [mj_tr]
          · cases hrc
        · cases hrc
      · simp only [h4] at g6
        obtain ⟨hdc, g7, g10⟩ := g6
        have ef : f = as.reverse := by rw [e2]; simp
        refine mj_so_call hx hb hml hK hSt hR (hM _ _ _ _ hs) rfl rfl hfr hlo hw hws hcd hin9 hdc ho (fun T9 H9 locs9 k9 n9 L9 hT9 hr9 hS9 X9 => ?_) kret (fun q h' h9 => hH q ls h' h9)
        refine mj_invS X9 hx hown (hts _ g5) (hts _ g7) (hts _ g3) hcs g4 (As := as.map (mj_tr ad)) rfl ?_ ?_ (by rw [hb]; exact hdc)
        · rw [List.length_map, g10]
          rw [← e3, ef]
          simp
        · show st.map (mj_tr ad) = _
          rw [e1, ef]
          simp
      · simp only [h4] at g6
        obtain ⟨hdc, g7, g8, g9, g9r, g10⟩ := g6
        simp only [mj_recv, h4] at hrc
        split at hrc
        · next a As =>
          have ef : f = As.reverse ++ [.ref a] := by rw [← List.reverse_reverse f, ← e2]; simp
          refine mj_so_call hx hb hml hK hSt hR (hM _ _ _ _ hs) rfl rfl hfr hlo hw hws hcd hin9 hdc ho (fun T9 H9 locs9 k9 n9 L9 hT9 hr9 hS9 X9 => ?_) kret (fun q h' h9 => hH q ls h' h9)
          have hcs' : (Cond.code (mj_mn G y) (mj_mb G y) (mj_ml G y) none).before args s = true := by
            have := hcs
            unfold mj_cd at this
            rw [if_pos g9, g9r] at this
            exact this
          refine mj_invI X9 hx hown g8 (hts _ g5) (hts _ g7) hcs' g4 (As := As.map (mj_tr ad)) (b := ad a) rfl ?_ ?_ (by rw [hb]; exact hdc)
          · have e5 : As.length + 1 = w / 4 % 16 := by rw [← e3, ef]; simp
            rw [List.length_map]
            cases hpd : parseMethodDescriptor (mj_mn G y).desc with
            | none => rw [hpd] at g10; cases g10
            | some sg => rw [hpd] at g10; have this : sg.parameters.length + 1 = w / 4 % 16 := Option.some.inj g10; simp only [Option.map_some, Option.some.injEq]; omega
          · show st.map (mj_tr ad) = _
            rw [e1, ef]
            simp [mj_tr]
        · cases hrc
      · simp only [h4] at g6
        obtain ⟨hdc, g7, gs, gp, gn, ⟨C, T, N, g8, g9⟩, g10⟩ := g6
        simp only [mj_recv, h4] at hrc
        split at hrc
        · next a As =>
          split at hrc
          · next ci fs ha =>
            have hci : ci = w / 64 := Nat.eq_of_beq_eq_true hrc
            subst hci
            have ef : f = As.reverse ++ [.ref a] := by rw [← List.reverse_reverse f, ← e2]; simp
            refine mj_so_call hx hb hml hK hSt hR (hM _ _ _ _ hs) rfl rfl hfr hlo hw hws hcd hin9 hdc ho (fun T9 H9 locs9 k9 n9 L9 hT9 hr9 hS9 X9 => ?_) kret (fun q h' h9 => hH q ls h' h9)
            obtain ⟨⟨b, hP, hD, hB⟩, -, -⟩ := hr9
            obtain ⟨cellB, c1, c2, c3⟩ := va_recv hK hP g8 (mj_at (tys := tys) (ad := ad) (bi := bi) (b := b) ha)
            obtain ⟨cX, kX, hfX, hkX, -⟩ := Cond.instantiable_spec (hts _ g9)
            have e9 : cX = cellB.cls := Option.some.inj (hfX.symm.trans c3)
            subst e9
            refine mj_invU X9 hx hown (hts _ g5) (hts _ gs) (hts _ gp) (hts _ g7) hcs gn (b := ad a) (cellB := cellB) (by rw [hT9]; exact c1) c2 hkX (As := As.map (mj_tr ad)) rfl ?_ ?_ (by rw [hb]; exact hdc)
            · have e5 : As.length + 1 = w / 4 % 16 := by rw [← e3, ef]; simp
              rw [List.length_map]
              cases hpd : parseMethodDescriptor (mj_mn G y).desc with
              | none => rw [hpd] at g10; cases g10
              | some sg => rw [hpd] at g10; have this : sg.parameters.length + 1 = w / 4 % 16 := Option.some.inj g10; simp only [Option.map_some, Option.some.injEq]; omega
            · show st.map (mj_tr ad) = _
              rw [e1, ef]
              simp [mj_tr]
          · cases hrc
        · cases hrc
    · exact hs.elim
  · exact hs.elim
end MJB2
end
section
def mj_okH (G : mj_G) (own : String) (cc : ByteArray) (nL : Nat) (off : Nat → Nat) : mj_X → List (Nat × Nat × Nat × Nat) → Prop
  | [], [] => True
  | (a, b, t, j, q0) :: r, (a', b', hp, ct) :: r' => (a = a' ∧ b = b' ∧ hp = off t ∧ ct ≠ 0 ∧ j < nL ∧ ((∃ f : Fin 4, (f : Nat) = j ∧ decode cc (off t) = .ok (.astore_n f, 1) ∧ off (t + 1) = off t + 1) ∨ (decode cc (off t) = .ok (.astore j, 2) ∧ off (t + 1) = off t + 2)) ∧ Jvm.Cond.classLink own ct (mj_xn G q0) ∈ mj_TS G ∧ (mj_xn G q0, mj_xn G q0) ∈ (mj_nc G).2.1 ∧ ∀ q, q < 2 → q ≠ q0 → (mj_xn G q, mj_xn G q0) ∈ (mj_nc G).1) ∧ mj_okH G own cc nL off r r'
  | _, _ => False
section MJF
variable {p : Program} {l : Launch} {e : Env} {R : Room} {s : State} {m : MethodId} {args : Array Value} {below : List Frame} {meth : Method} {c : Code}
variable {G : mj_G} {D : va_G} {tys : List (ClassId × FieldType)} {ad : Nat → Nat} {bi : Nat} {z : Nat → Prop} {nL : Nat} {off : Nat → Nat} {QQ : State → Prop} {b0 b1 : Nat} {cc : ByteArray} {pc : Nat} {ls : mj_L} {st r : List Value} {h : mj_H}
variable {cst : Nat → Option (Nat × (Nat → Int32))} {own : String} {rt : Option FieldType} {ini nh : Bool} {n : Nat} {Q : mj_R → Prop} {hd : Nat → Nat → Option (Option (Nat × Nat))} {k : Nat → mj_L → List Value → mj_H → Prop} {call : Nat → List Value → mj_H → (mj_R → Prop) → Prop}
def mj_ent (x : ExceptionTableEntry) : Nat × Nat × Nat × Nat := (x.startPc, x.endPc, x.handlerPc, x.catchType)
theorem mj_cov (x : ExceptionTableEntry) (b : Nat) : covers x b = (Nat.ble x.startPc b && Nat.blt b x.endPc) := by
  unfold covers
  rw [Bool.eq_iff_iff]
  simp [Nat.ble_eq, Nat.blt_eq]
theorem mj_hd_none (hx : mj_X) {q : Nat} : ∀ L : List ExceptionTableEntry, mj_okH G own cc nL off hx (L.map mj_ent) → mj_hd off hx pc q = some none → ∀ x ∈ L, covers x (off pc) = false := by
  induction hx with
  | nil =>
    intro L h1 h2 x hx
    cases L with
    | nil => cases hx
    | cons y L => exact h1.elim
  | cons w hx ih =>
    obtain ⟨a, b, t, j, q0⟩ := w
    intro L h1 h2 x hm
    cases L with
    | nil => cases hm
    | cons y L =>
      obtain ⟨⟨ea, eb, -⟩, h1'⟩ := h1
      have hcv : covers y (off pc) = (Nat.ble a (off pc) && Nat.blt (off pc) b) := by rw [mj_cov, ea, eb]
      simp only [mj_hd] at h2
      split at h2
      · split at h2
        · cases h2
        · split at h2 <;> cases h2
      · next hf =>
        rcases List.mem_cons.mp hm with rfl | hm
        · rw [hcv, hf]
        · exact ih L h1' h2 x hm
theorem mj_hd_some (hx : mj_X) {q t j : Nat} : ∀ L : List ExceptionTableEntry, mj_okH G own cc nL off hx (L.map mj_ent) → mj_hd off hx pc q = some (some (t, j)) → ∃ pre x rest, L = pre ++ x :: rest ∧ (∀ y ∈ pre, covers y (off pc) = false ∨ (y.catchType ≠ 0 ∧ ∃ q1, Jvm.Cond.classLink own y.catchType (mj_xn G q1) ∈ mj_TS G ∧ (mj_xn G q, mj_xn G q1) ∈ (mj_nc G).1)) ∧ covers x (off pc) = true ∧ x.catchType ≠ 0 ∧ x.handlerPc = off t ∧ j < nL ∧ ((∃ f : Fin 4, (f : Nat) = j ∧ decode cc (off t) = .ok (.astore_n f, 1) ∧ off (t + 1) = off t + 1) ∨ (decode cc (off t) = .ok (.astore j, 2) ∧ off (t + 1) = off t + 2)) ∧ Jvm.Cond.classLink own x.catchType (mj_xn G q) ∈ mj_TS G ∧ (mj_xn G q, mj_xn G q) ∈ (mj_nc G).2.1 := by
  induction hx with
  | nil => intro L h1 h2; cases h2
  | cons w hx ih =>
    obtain ⟨a, b, t0, j0, q0⟩ := w
    intro L h1 h2
    cases L with
    | nil => exact h1.elim
    | cons y L =>
      obtain ⟨⟨ea, eb, e1, e2, e3, e4, e5, e6, e7⟩, h1'⟩ := h1
      have hcv : covers y (off pc) = (Nat.ble a (off pc) && Nat.blt (off pc) b) := by rw [mj_cov, ea, eb]
      simp only [mj_hd] at h2
      split at h2
      · next hf =>
        split at h2
        · next hq =>
          have hq : q = q0 := Nat.eq_of_beq_eq_true hq
          subst hq
          cases h2
          exact ⟨[], y, L, rfl, (fun z hz => by cases hz), by rw [hcv, hf], e2, e1, e3, e4, e5, e6⟩
        · next hq =>
          split at h2
          · next x9 hl hr =>
            cases h2
            obtain ⟨pre, x, rest, g1, g2, g3⟩ := ih L h1' hr
            refine ⟨y :: pre, x, rest, by rw [g1]; rfl, fun z hz => ?_, g3⟩
            rcases List.mem_cons.mp hz with rfl | hz
            · exact Or.inr ⟨e2, q0, e5, e7 q (Nat.le_of_ble_eq_true hl) (fun e => by subst e; rw [Nat.beq_refl] at hq; cases hq)⟩
            · exact g2 z hz
          · cases h2
      · next hf =>
        obtain ⟨pre, x, rest, g1, g2, g3⟩ := ih L h1' h2
        refine ⟨y :: pre, x, rest, by rw [g1]; rfl, fun z hz => ?_, g3⟩
        rcases List.mem_cons.mp hz with rfl | hz
        · exact Or.inl (by rw [hcv, hf])
        · exact g2 z hz
theorem mj_thr_ok (Cx : mj_Cx p l e R s m args below meth c G D tys ad bi z nL QQ b0 b1 cc cst own rt ini nh n Q) {hxl : mj_X} (hH : mj_okH G own cc nL off hxl (c.exceptionTable.toList.map mj_ent)) (hk : ∀ pc ls st h, k pc ls st h → mj_J p l e R s m args below meth c D (mj_cl G) tys ad bi z nL off QQ b0 b1 pc ls st h) {q : Nat} (ht : mj_thr (mj_hd off hxl) Q k pc ls q h) : mj_JT p l e R s m args below meth c D (mj_cl G) tys ad bi z nL off QQ b0 b1 (mj_xn G) pc ls q h := by
  obtain ⟨hx, hb, hml, hown, hts, hgood, hK, hSt, hR, hRf, hRl, hlocks, hrt, hini, hnh, htr, hty, had, hQQ⟩ := Cx
  unfold mj_thr at ht
  split at ht
  · next t j hh =>
    obtain ⟨pre, x, rest, g1, g2, g3, g4, g5, g6, g7, g8, g9⟩ := mj_hd_some hxl _ hH hh
    obtain ⟨c1, c2, f1, f2, f3⟩ := hSt.2.2.2.1 _ g9
    have e12 : c1 = c2 := Option.some.inj (f1.symm.trans f2)
    subst e12
    refine mj_so_handler hx hb pre x rest g1 (fun ha cX hX y hy => ?_) g3 g4 (cT := c1) (fun ha => ?_) (fun cX hX => ?_) g5 g6 g7 (hk _ _ _ _ ht)
    · rcases g2 y hy with g | ⟨g, q1, gl, gn⟩
      · exact Or.inl g
      · have hpl : e.platform.magicAccessors = ({} : Platform).magicAccessors := by rw [ha.platform]
        obtain ⟨c', hc', hcl⟩ := Cond.classLink_spec hown (hts _ gl) e.platform hpl
        exact Or.inr ⟨g, c', hcl, hSt.2.2.1 _ gn cX c' hX hc'⟩
    · have hpl : e.platform.magicAccessors = ({} : Platform).magicAccessors := by rw [ha.platform]
      obtain ⟨c', hc', hcl⟩ := Cond.classLink_spec hown (hts _ g8) e.platform hpl
      have : c' = c1 := Option.some.inj (hc'.symm.trans f1)
      subst this
      exact hcl
    · have : cX = c1 := Option.some.inj (hX.symm.trans f1)
      subst this
      exact f3
  · next hh => exact mj_so_out hlocks hQQ (mj_hd_none hxl _ hH hh) ht
  · exact ht.elim
theorem mj_step (Cx : mj_Cx p l e R s m args below meth c G D tys ad bi z nL QQ b0 b1 cc cst own rt ini nh n Q) {hxl : mj_X} (hH : mj_okH G own cc nL off hxl (c.exceptionTable.toList.map mj_ent)) (hnd : nh = true → hxl = []) (hk : ∀ pc ls st h, k pc ls st h → mj_J p l e R s m args below meth c D (mj_cl G) tys ad bi z nL off QQ b0 b1 pc ls st h) (hM : ∀ (ad2 : Nat → Nat) (z2 : Nat → Prop) y as h Qp, call y as h Qp → MetFree l (mj_mn G y) (headSpec (mj_cw G y :: mj_TS G) (mj_rm n h)) (mj_Pc D (mj_cl G) tys ad2 bi z2 cst (mj_nc G) as h) (fun _ _ _ _ _ => True) (fun _ => mj_Qc D (mj_cl G) tys ad2 bi z2 (mj_xn G) h.2.1 h.2.2.1 Qp)) {i : Instr} (hok : mj_OK G own cc nL off rt ini nh pc i) (hs : mj_stp call cst (mj_nw G) (mj_hd off hxl) Q k i pc ls st h) : mj_J p l e R s m args below meth c D (mj_cl G) tys ad bi z nL off QQ b0 b1 pc ls st h := by
  cases i
  case iconst v => exact mj_st_iconst Cx hk hok hs
  case ldc2_w v => exact mj_st_ldc2 Cx hk hok hs
  case iload i => exact mj_st_iload Cx hk hok hs
  case lload i => exact mj_st_lload Cx hk hok hs
  case aload i => exact mj_st_aload Cx hk hok hs
  case istore i => exact mj_st_istore Cx hk hok hs
  case lstore i => exact mj_st_lstore Cx hk hok hs
  case astore i => exact mj_st_astore Cx hk hok hs
  case iinc i v => exact mj_st_iinc Cx hk hok hs
  case iadd => exact mj_st_iadd Cx hk hok hs
  case isub => exact mj_st_isub Cx hk hok hs
  case imul => exact mj_st_imul Cx hk hok hs
  case iand => exact mj_st_iand Cx hk hok hs
  case ior => exact mj_st_ior Cx hk hok hs
  case ixor => exact mj_st_ixor Cx hk hok hs
  case ishl => exact mj_st_ishl Cx hk hok hs
  case ishr => exact mj_st_ishr Cx hk hok hs
  case iushr => exact mj_st_iushr Cx hk hok hs
  case ineg => exact mj_st_ineg Cx hk hok hs
  case lneg => exact mj_st_lneg Cx hk hok hs
  case ladd => exact mj_st_ladd Cx hk hok hs
  case lsub => exact mj_st_lsub Cx hk hok hs
  case land => exact mj_st_land Cx hk hok hs
  case lor => exact mj_st_lor Cx hk hok hs
  case lshl => exact mj_st_lshl Cx hk hok hs
  case lshr => exact mj_st_lshr Cx hk hok hs
  case lushr => exact mj_st_lushr Cx hk hok hs
  case lcmp => exact mj_st_lcmp Cx hk hok hs
  case i2l => exact mj_st_i2l Cx hk hok hs
  case l2i => exact mj_st_l2i Cx hk hok hs
  case i2c => exact mj_st_i2c Cx hk hok hs
  case i2b => exact mj_st_i2b Cx hk hok hs
  case idiv => exact mj_st_idiv Cx hk hok hs
  case irem => exact mj_st_irem Cx hk hok hs
  case dup => exact mj_st_dup Cx hk hok hs
  case dup_x1 => exact mj_st_dup_x1 Cx hk hok hs
  case dup2 => exact mj_st_dup2 Cx hk hok hs
  case pop => exact mj_st_pop Cx hk hok hs
  case pop2 => exact mj_st_pop2 Cx hk hok hs
  case ireturn => exact mj_st_ireturn Cx hk hok hs
  case lreturn => exact mj_st_lreturn Cx hk hok hs
  case iaload => exact mj_st_iaload Cx hk hok hs
  case laload => exact mj_st_laload Cx hk hok hs
  case caload => exact mj_st_caload Cx hk hok hs
  case baload => exact mj_st_baload Cx hk hok hs
  case iastore => exact mj_st_iastore Cx hk hok hs
  case lastore => exact mj_st_lastore Cx hk hok hs
  case castore => exact mj_st_castore Cx hk hok hs
  case bastore => exact mj_st_bastore Cx hk hok hs
  case arraylength => exact mj_st_arraylength Cx hk hok hs
  case monitorenter => exact mj_st_monitorenter Cx hk hok hs
  case lmul => exact mj_st_lmul Cx hk hok hs
  case ldiv => exact mj_st_ldiv Cx hk hok hs
  case lrem => exact mj_st_lrem Cx hk hok hs
  case freturn => exact mj_st_zreturn Cx hk hok hs
  case dreturn => exact mj_st_creturn Cx hk hok hs
  case return_ => exact mj_st_return Cx hk hok hs
  case ifCond q t => exact mj_st_ifCond Cx hk hok hs
  case if_icmp q t => exact mj_st_if_icmp Cx hk hok hs
  case goto t => exact mj_st_goto Cx hk hok hs
  case lookupswitch d ps => exact mj_st_sw Cx hk hok hs
  case getfield f => exact mj_st_getfield Cx hk hok hs
  case putfield f => exact mj_st_putfield Cx hk hok hs
  case getstatic w => exact mj_st_getstatic Cx hk hok hs
  case new w => exact mj_st_new Cx hk hok hs
  case newarray t => exact mj_st_newarray Cx hk hok hs
  case invokedynamic w => exact mj_st_math Cx hk hok hs
  case checkcast q => exact mj_st_throw Cx hk (fun h9 pc q => by rw [hnd h9]; rfl) hok hs
  case athrow => exact mj_st_breturn Cx hk hok hs
  case ifnonnull t => exact mj_st_ifnn Cx hk hok hs
  case dload w => exact mj_st_gets0 Cx hk hok hs
  case ldc w => exact mj_st_ldcS Cx hk hok hs
  case anewarray w => exact mj_st_sget Cx hk hok hs
  case fload w => exact mj_st_ccopy Cx hk hok hs
  case instanceof w => exact mj_st_scall Cx hk (hM ad z) (fun q ls h h9 => mj_thr_ok Cx hH hk h9) hok hs
  case invokevirtual w => exact mj_st_bcall Cx hk hM hok hs
  case invokespecial w => exact mj_st_binit Cx hk (hM ad z) hok hs
  case areturn => exact mj_st_areturn Cx hk hok hs
  case invokestatic w => exact mj_st_copy Cx hk hok hs
  case invokeinterface y w => exact mj_st_call Cx hk (hM ad z) (fun q ls h h9 => mj_thr_ok Cx hH hk h9) hok hs
  all_goals exact False.elim hs
theorem mj_sg_ok (Cx : mj_Cx p l e R s m args below meth c G D tys ad bi z nL QQ b0 b1 cc cst own rt ini nh n Q) {hxl : mj_X} (hH : mj_okH G own cc nL off hxl (c.exceptionTable.toList.map mj_ent)) (hnd : nh = true → hxl = []) (hM : ∀ (ad2 : Nat → Nat) (z2 : Nat → Prop) y as h Qp, call y as h Qp → MetFree l (mj_mn G y) (headSpec (mj_cw G y :: mj_TS G) (mj_rm n h)) (mj_Pc D (mj_cl G) tys ad2 bi z2 cst (mj_nc G) as h) (fun _ _ _ _ _ => True) (fun _ => mj_Qc D (mj_cl G) tys ad2 bi z2 (mj_xn G) h.2.1 h.2.2.1 Qp)) {code : mj_C} (hcode : ∀ pc b i, mj_nth code pc = some (b, i) → mj_OK G own cc nL off rt ini nh pc i) {J : Nat → mj_L → List Value → mj_H → Prop} (hJ : ∀ pc ls st h, J pc ls st h → mj_J p l e R s m args below meth c D (mj_cl G) tys ad bi z nL off QQ b0 b1 pc ls st h) : ∀ (f : Nat) (fst : Bool) (pc : Nat) (ls : mj_L) (st : List Value) (h : mj_H), mj_sg call cst (mj_nw G) (mj_hd off hxl) code J Q f fst pc ls st h → mj_J p l e R s m args below meth c D (mj_cl G) tys ad bi z nL off QQ b0 b1 pc ls st h := by
  intro f
  induction f with
  | zero => intro fst pc ls st h hs; exact False.elim hs
  | succ f ih =>
    intro fst pc ls st h hs
    simp only [mj_sg] at hs
    split at hs
    · exact hs.elim
    · next cu i he =>
      split at hs
      · exact hJ _ _ _ _ hs
      · exact mj_step Cx hH hnd (ih false) hM (hcode _ _ _ he) hs
end MJF
end
section
def mj_okM (G : mj_G) (T : mj_T) : Prop := ∀ y code nL os hxl, T y = some (code, nL, os, hxl) → nL = mj_ml G y ∧ mj_off os 0 = 0 ∧ plainFor (mj_mn G y) = true ∧ mj_okH G (mj_mn G y).cls (mj_mb G y) nL (mj_off os) hxl (mj_mh G y) ∧ ∀ pc b i, mj_nth code pc = some (b, i) → mj_OK G (mj_mn G y).cls (mj_mb G y) nL (mj_off os) (mj_mr G y) (decide ((mj_mn G y).name = "<init>")) hxl.isEmpty pc i
def mj_okI (G : mj_G) (own : String) (cc : ByteArray) (nL : Nat) (off : Nat → Nat) (rt : Option FieldType) (ini nh : Bool) : Nat → mj_C → Prop
  | _, [] => True
  | k, (_, i) :: r => mj_OK G own cc nL off rt ini nh k i ∧ mj_okI G own cc nL off rt ini nh (k + 1) r
theorem mj_okI_at {G : mj_G} {own : String} {cc : ByteArray} {nL : Nat} {off : Nat → Nat} {rt : Option FieldType} {ini nh : Bool} {code : mj_C} {k : Nat} (h : mj_okI G own cc nL off rt ini nh k code) : ∀ pc b i, mj_nth code pc = some (b, i) → mj_OK G own cc nL off rt ini nh (k + pc) i := by
  induction code generalizing k with
  | nil => intro pc b i hi; cases pc <;> cases hi
  | cons a r ih =>
    obtain ⟨b0, i0⟩ := a
    intro pc b i hi
    cases pc with
    | zero => cases hi; exact h.1
    | succ pc =>
      have := ih h.2 pc b i hi
      rw [show k + 1 + pc = k + (pc + 1) by omega] at this
      exact this
def mj_okE (G : mj_G) (y : Nat) (x : mj_C × Nat × List Nat × mj_X) : Prop := x.2.1 = mj_ml G y ∧ mj_off x.2.2.1 0 = 0 ∧ plainFor (mj_mn G y) = true ∧ mj_okH G (mj_mn G y).cls (mj_mb G y) x.2.1 (mj_off x.2.2.1) x.2.2.2 (mj_mh G y) ∧ mj_okI G (mj_mn G y).cls (mj_mb G y) x.2.1 (mj_off x.2.2.1) (mj_mr G y) (decide ((mj_mn G y).name = "<init>")) x.2.2.2.isEmpty 0 x.1
def mj_okL (G : mj_G) : Nat → List (Option (mj_C × Nat × List Nat × mj_X)) → Prop
  | _, [] => True
  | k, none :: r => True ∧ mj_okL G (k + 1) r
  | k, some x :: r => mj_okE G k x ∧ mj_okL G (k + 1) r
theorem mj_okL_at {G : mj_G} {L : List (Option (mj_C × Nat × List Nat × mj_X))} {k : Nat} (h : mj_okL G k L) : ∀ y x, mj_nth L y = some (some x) → mj_okE G (k + y) x := by
  induction L generalizing k with
  | nil => intro y x hy; cases y <;> cases hy
  | cons a r ih =>
    intro y x hy
    have h2 : mj_okL G (k + 1) r := by cases a <;> exact h.2
    cases y with
    | zero => cases hy; exact h.1
    | succ y =>
      have := ih h2 y x hy
      rw [show k + 1 + y = k + (y + 1) by omega] at this
      exact this
theorem mj_okM_of {G : mj_G} {L : List (Option (mj_C × Nat × List Nat × mj_X))} (h : mj_okL G 0 L) : mj_okM G (fun y => (mj_nth L y).getD none) := by
  intro y code nL os hxl hy
  have hy : (mj_nth L y).getD none = some (code, nL, os, hxl) := hy
  have h1 : mj_nth L y = some (some (code, nL, os, hxl)) := by
    cases e : mj_nth L y with
    | none => rw [e] at hy; cases hy
    | some w => rw [e] at hy; cases w with
      | none => cases hy
      | some v => exact congrArg some hy
  obtain ⟨g1, g2, g3, g4, g5⟩ := mj_okL_at h y _ h1
  rw [Nat.zero_add] at g1 g3 g4 g5
  refine ⟨g1, g2, g3, g4, fun pc b i hi => ?_⟩
  have := mj_okI_at g5 pc b i hi
  rw [Nat.zero_add] at this
  exact this
theorem mj_wt_sl (vs : List Value) : (lg_sl vs).length = mj_wt vs := by
  unfold mj_wt
  induction vs with
  | nil => rfl
  | cons v vs ih =>
    rw [List.map_cons, List.sum_cons, ← ih]
    cases v <;> simp [lg_sl, Value.category] <;> omega
theorem mj_okH_nil {G : mj_G} {own : String} {cc : ByteArray} {nL : Nat} {off : Nat → Nat} {L : List (Nat × Nat × Nat × Nat)} (h : mj_okH G own cc nL off [] L) : L = [] := by
  cases L with
  | nil => rfl
  | cons a L => exact h.elim
theorem mj_sound {l : Launch} {G : mj_G} {T : mj_T} {D : va_G} {tys : List (ClassId × FieldType)} {bi : Nat} {cst : Nat → Option (Nat × (Nat → Int32))} (hT : mj_okM G T) (hgood : ∀ w ∈ mj_TS G, mj_gw w = true) (hty : mj_ty5 tys) (had : mj_c9 bi cst (mj_nc G)) (htr : ∀ e, l.admits e → e.platform.stackTraces = false) :
    ∀ (n : Nat) (ad : Nat → Nat) (z : Nat → Prop) (y : Nat) (as : List Value) (h : mj_H) (Q : mj_R → Prop), mj_Mt T cst (mj_nw G) n y as h Q → MetFree l (mj_mn G y) (headSpec (mj_cw G y :: mj_TS G) (mj_rm n h)) (mj_Pc D (mj_cl G) tys ad bi z cst (mj_nc G) as h) (fun _ _ _ _ _ => True) (fun _ => mj_Qc D (mj_cl G) tys ad bi z (mj_xn G) h.2.1 h.2.2.1 Q) := by
  intro n
  induction n with
  | zero => intro ad z y as h Q hM; exact False.elim hM
  | succ n ih =>
    intro ad z y as h Q hM
    simp only [mj_Mt] at hM
    split at hM
    · exact hM.elim
    · next code nL os hxl hTy =>
      split at hM
      · next hw =>
        have hw := Nat.le_of_ble_eq_true hw
        obtain ⟨g1, g2, g3, g5, g6⟩ := hT y code nL os hxl hTy
        refine MetFree.of_bodySF (code := mj_mb G y) (maxLocals := mj_ml G y) (ret := mj_mr G y) g3 ?_ ?_
        · intro args s m hp hn
          have h9 := atoms_spec (ws := mj_cw G y :: mj_TS G) hp _ List.mem_cons_self
          rcases mj_cd_or h9 with h9 | h9
          · obtain ⟨meth, c, h1, h2, h3, h4, h5, h6, -, -⟩ := Cond.code_spec hn h9
            exact ⟨meth, c, h1, h2, h3, h4, h5, h6⟩
          · obtain ⟨m9, meth, c, hn9, h1, h2, h3, h4, -, h5, h6, -⟩ := Cond.codeWith_spec h9
            cases hn.symm.trans hn9
            exact ⟨meth, c, h1, h2, h3, h4, h5, h6⟩
        · intro p e s m args below meth c s₁ B hml hP _
          obtain ⟨rfl, hrep, hK, hSt⟩ := hP
          have hts := atoms_spec (ws := mj_cw G y :: mj_TS G) B.pre
          have hexc : c.exceptionTable.toList.map mj_ent = mj_mh G y := by
            have h9 := hts _ List.mem_cons_self
            have hc : meth.code = some c := (Stand.of_body B).code
            unfold mj_cw mj_cd at h9
            split at h9
            · next hh =>
              have := B.noHandlers h9
              rw [hh]
              have e : c.exceptionTable = #[] := by simpa using this
              rw [e]
              rfl
            · obtain ⟨m9, meth9, c9, hn9, h1, h2, -, -, h3, -⟩ := Cond.codeWith_spec h9
              cases B.named.symm.trans hn9
              cases B.method.symm.trans h1
              cases hc.symm.trans h2
              exact h3
          have hh0 : s₁.heap = s.heap := by rw [B.state]; rfl
          have Cx : mj_Cx p l e (headSpec (mj_cw G y :: mj_TS G) (mj_rm (n + 1) h)).room s m (as.map (mj_tr ad)).toArray below meth c G D tys ad bi z nL (mj_Z below s (mj_Qc D (mj_cl G) tys ad bi z (mj_xn G) h.2.1 h.2.2.1 Q s)) h.2.1 h.2.2.1 (mj_mb G y) cst (mj_mn G y).cls (mj_mr G y) (decide ((mj_mn G y).name = "<init>")) hxl.isEmpty n Q := by
            refine ⟨B.exec, B.bytes, by rw [g1]; exact hml, findClass_of_methodNamed B.named, fun w hw => hts w (List.mem_cons_of_mem _ hw), hgood, hK, hSt, ⟨rfl, rfl⟩, rfl, rfl, B.notSynchronized, B.returns, fun h9 => ?_, fun h9 => ?_, htr e, hty, had, rfl⟩
            · rw [(name_of_methodNamed B.named B.method).1]
              exact of_decide_eq_true h9
            · have : hxl = [] := by simpa using h9
              subst this
              have h8 := mj_okH_nil g5
              rw [h8] at hexc
              simpa using hexc
          have key := hM (mj_J p l e (headSpec (mj_cw G y :: mj_TS G) (mj_rm (n + 1) h)).room s m (as.map (mj_tr ad)).toArray below meth c D (mj_cl G) tys ad bi z nL (mj_off os) (mj_Z below s (mj_Qc D (mj_cl G) tys ad bi z (mj_xn G) h.2.1 h.2.2.1 Q s)) h.2.1 h.2.2.1)
            (fun pc ls st h9 hs => mj_sg_ok Cx (by rw [hexc]; exact g5) (fun h9 => by simpa using h9) (fun ad2 z2 y as h Qp hq => ih ad2 z2 y as h Qp hq) (fun pc b i hi => g6 pc b i hi) (fun _ _ _ _ hJ => hJ) 400 true pc ls st h9 hs)
          have hle : (lg_sl (as.map (mj_tr ad))).length ≤ nL := by rw [mj_wt_sl, mj_wt_tr]; exact hw
          have hl := lv_entry (as.map (mj_tr ad)) (n := nL) hle
          rw [← mj_lv_lay ad as 0 nL] at hl
          have hW := key s.heap [] 0 0 _ hl hrep va_S.rf (by omega) (by omega)
          rw [g2] at hW
          obtain ⟨t, a1, o, b1, b2, b3⟩ := hW s₁ hh0 (Stand.of_body B)
          refine ⟨t, o, ?_, b1, b2, b3⟩
          rw [← g1, lg_entry_eq]
          exact a1
      · exact hM.elim
end
