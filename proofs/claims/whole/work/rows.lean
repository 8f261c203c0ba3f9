section
-- ===== PART A: goes FIRST, ahead of the names: the tables' words, and 'selects' of the private methods out of them =====
/-- a private method of a class that the tables say can be made, by its rows of tables_1 -/
def lw_okq (q : MethodName × Nat) : Prop := (q.1.cls ≠ "java/lang/invoke/MethodHandle" ∧ q.1.cls ≠ "java/lang/invoke/VarHandle") ∧ Cond.instantiable q.1.cls q.2 ∈ tables_1 ∧ Cond.privateMethod q.1 ∈ tables_1 ∧ Cond.instanceMethod q.1 ∈ tables_1
theorem lw_p0 : lw_okq (⟨"SchemeSystem$Writer", "element", "(LSchemeSystem$Row;I)V"⟩, 7) := ⟨⟨by decide +kernel, by decide +kernel⟩, List.mem_of_getElem? (i := 371) (by decide +kernel), List.mem_of_getElem? (i := 409) (by decide +kernel), List.mem_of_getElem? (i := 410) (by decide +kernel)⟩
theorem lw_p1 : lw_okq (⟨"SchemeSystem$Writer", "put", "(I)V"⟩, 7) := ⟨⟨by decide +kernel, by decide +kernel⟩, List.mem_of_getElem? (i := 371) (by decide +kernel), List.mem_of_getElem? (i := 421) (by decide +kernel), List.mem_of_getElem? (i := 422) (by decide +kernel)⟩
theorem lw_p2 : lw_okq (⟨"SchemeSystem$Writer", "atom", "(LSchemeSystem$Row;I)V"⟩, 7) := ⟨⟨by decide +kernel, by decide +kernel⟩, List.mem_of_getElem? (i := 371) (by decide +kernel), List.mem_of_getElem? (i := 428) (by decide +kernel), List.mem_of_getElem? (i := 429) (by decide +kernel)⟩
theorem lw_p3 : lw_okq (⟨"SchemeSystem$Writer", "decimal", "(I)V"⟩, 7) := ⟨⟨by decide +kernel, by decide +kernel⟩, List.mem_of_getElem? (i := 371) (by decide +kernel), List.mem_of_getElem? (i := 432) (by decide +kernel), List.mem_of_getElem? (i := 433) (by decide +kernel)⟩
theorem lw_p4 : lw_okq (⟨"SchemeSystem$Writer", "goOn", "()V"⟩, 7) := ⟨⟨by decide +kernel, by decide +kernel⟩, List.mem_of_getElem? (i := 371) (by decide +kernel), List.mem_of_getElem? (i := 442) (by decide +kernel), List.mem_of_getElem? (i := 443) (by decide +kernel)⟩
theorem lw_p5 : lw_okq (⟨"SchemeSystem$Heap", "hold", "(I)V"⟩, 11) := ⟨⟨by decide +kernel, by decide +kernel⟩, List.mem_of_getElem? (i := 77) (by decide +kernel), List.mem_of_getElem? (i := 491) (by decide +kernel), List.mem_of_getElem? (i := 492) (by decide +kernel)⟩
theorem lw_p6 : lw_okq (⟨"SchemeSystem$Heap", "holdSurroundings", "(I)V"⟩, 11) := ⟨⟨by decide +kernel, by decide +kernel⟩, List.mem_of_getElem? (i := 77) (by decide +kernel), List.mem_of_getElem? (i := 502) (by decide +kernel), List.mem_of_getElem? (i := 503) (by decide +kernel)⟩
theorem lw_p7 : lw_okq (⟨"java/lang/Throwable", "fillInStackTrace", "(I)Ljava/lang/Throwable;"⟩, 6) := ⟨⟨by decide +kernel, by decide +kernel⟩, List.mem_of_getElem? (i := 573) (by decide +kernel), List.mem_of_getElem? (i := 571) (by decide +kernel), List.mem_of_getElem? (i := 572) (by decide +kernel)⟩
theorem lw_p8 : lw_okq (⟨"SchemeSystem$Reader", "datum", "(I)LSchemeSystem$Datum;"⟩, 4) := ⟨⟨by decide +kernel, by decide +kernel⟩, List.mem_of_getElem? (i := 39) (by decide +kernel), List.mem_of_getElem? (i := 624) (by decide +kernel), List.mem_of_getElem? (i := 625) (by decide +kernel)⟩
theorem lw_p9 : lw_okq (⟨"SchemeSystem$Reader", "skipSpaces", "()V"⟩, 4) := ⟨⟨by decide +kernel, by decide +kernel⟩, List.mem_of_getElem? (i := 39) (by decide +kernel), List.mem_of_getElem? (i := 628) (by decide +kernel), List.mem_of_getElem? (i := 629) (by decide +kernel)⟩
theorem lw_p10 : lw_okq (⟨"SchemeSystem$Reader", "here", "()I"⟩, 4) := ⟨⟨by decide +kernel, by decide +kernel⟩, List.mem_of_getElem? (i := 39) (by decide +kernel), List.mem_of_getElem? (i := 632) (by decide +kernel), List.mem_of_getElem? (i := 633) (by decide +kernel)⟩
theorem lw_p11 : lw_okq (⟨"SchemeSystem$Reader", "digitIsHere", "()Z"⟩, 4) := ⟨⟨by decide +kernel, by decide +kernel⟩, List.mem_of_getElem? (i := 39) (by decide +kernel), List.mem_of_getElem? (i := 636) (by decide +kernel), List.mem_of_getElem? (i := 637) (by decide +kernel)⟩
theorem lw_p12 : lw_okq (⟨"SchemeSystem$Reader", "numeral", "()LSchemeSystem$Datum;"⟩, 4) := ⟨⟨by decide +kernel, by decide +kernel⟩, List.mem_of_getElem? (i := 39) (by decide +kernel), List.mem_of_getElem? (i := 640) (by decide +kernel), List.mem_of_getElem? (i := 641) (by decide +kernel)⟩
theorem lw_p13 : lw_okq (⟨"SchemeSystem$Reader", "digits", "(II)I"⟩, 4) := ⟨⟨by decide +kernel, by decide +kernel⟩, List.mem_of_getElem? (i := 39) (by decide +kernel), List.mem_of_getElem? (i := 644) (by decide +kernel), List.mem_of_getElem? (i := 645) (by decide +kernel)⟩
theorem lw_p14 : lw_okq (⟨"SchemeSystem$Reader", "failHere", "()V"⟩, 4) := ⟨⟨by decide +kernel, by decide +kernel⟩, List.mem_of_getElem? (i := 39) (by decide +kernel), List.mem_of_getElem? (i := 648) (by decide +kernel), List.mem_of_getElem? (i := 649) (by decide +kernel)⟩
theorem lw_p15 : lw_okq (⟨"SchemeSystem$Reader", "list", "(I)LSchemeSystem$Datum;"⟩, 4) := ⟨⟨by decide +kernel, by decide +kernel⟩, List.mem_of_getElem? (i := 39) (by decide +kernel), List.mem_of_getElem? (i := 700) (by decide +kernel), List.mem_of_getElem? (i := 701) (by decide +kernel)⟩
def lw_privs_1 : List (MethodName × Nat) := [(⟨"SchemeSystem$Writer", "element", "(LSchemeSystem$Row;I)V"⟩, 7), (⟨"SchemeSystem$Writer", "put", "(I)V"⟩, 7), (⟨"SchemeSystem$Writer", "atom", "(LSchemeSystem$Row;I)V"⟩, 7), (⟨"SchemeSystem$Writer", "decimal", "(I)V"⟩, 7), (⟨"SchemeSystem$Writer", "goOn", "()V"⟩, 7), (⟨"SchemeSystem$Heap", "hold", "(I)V"⟩, 11), (⟨"SchemeSystem$Heap", "holdSurroundings", "(I)V"⟩, 11), (⟨"java/lang/Throwable", "fillInStackTrace", "(I)Ljava/lang/Throwable;"⟩, 6), (⟨"SchemeSystem$Reader", "datum", "(I)LSchemeSystem$Datum;"⟩, 4), (⟨"SchemeSystem$Reader", "skipSpaces", "()V"⟩, 4), (⟨"SchemeSystem$Reader", "here", "()I"⟩, 4), (⟨"SchemeSystem$Reader", "digitIsHere", "()Z"⟩, 4), (⟨"SchemeSystem$Reader", "numeral", "()LSchemeSystem$Datum;"⟩, 4), (⟨"SchemeSystem$Reader", "digits", "(II)I"⟩, 4), (⟨"SchemeSystem$Reader", "failHere", "()V"⟩, 4), (⟨"SchemeSystem$Reader", "list", "(I)LSchemeSystem$Datum;"⟩, 4)]
theorem lw_r1 : ∀ q ∈ lw_privs_1, lw_okq q := List.forall_mem_cons.mpr ⟨lw_p0, List.forall_mem_cons.mpr ⟨lw_p1, List.forall_mem_cons.mpr ⟨lw_p2, List.forall_mem_cons.mpr ⟨lw_p3, List.forall_mem_cons.mpr ⟨lw_p4, List.forall_mem_cons.mpr ⟨lw_p5, List.forall_mem_cons.mpr ⟨lw_p6, List.forall_mem_cons.mpr ⟨lw_p7, List.forall_mem_cons.mpr ⟨lw_p8, List.forall_mem_cons.mpr ⟨lw_p9, List.forall_mem_cons.mpr ⟨lw_p10, List.forall_mem_cons.mpr ⟨lw_p11, List.forall_mem_cons.mpr ⟨lw_p12, List.forall_mem_cons.mpr ⟨lw_p13, List.forall_mem_cons.mpr ⟨lw_p14, List.forall_mem_cons.mpr ⟨lw_p15, fun _ h => absurd h List.not_mem_nil⟩⟩⟩⟩⟩⟩⟩⟩⟩⟩⟩⟩⟩⟩⟩⟩
theorem lw_p16 : lw_okq (⟨"SchemeSystem$Reader", "quoted", "(I)LSchemeSystem$Datum;"⟩, 4) := ⟨⟨by decide +kernel, by decide +kernel⟩, List.mem_of_getElem? (i := 39) (by decide +kernel), List.mem_of_getElem? (i := 708) (by decide +kernel), List.mem_of_getElem? (i := 709) (by decide +kernel)⟩
theorem lw_p17 : lw_okq (⟨"SchemeSystem$Compiler", "define", "(LSchemeSystem$Datum;)V"⟩, 3) := ⟨⟨by decide +kernel, by decide +kernel⟩, List.mem_of_getElem? (i := 60) (by decide +kernel), List.mem_of_getElem? (i := 765) (by decide +kernel), List.mem_of_getElem? (i := 766) (by decide +kernel)⟩
theorem lw_p18 : lw_okq (⟨"SchemeSystem$Compiler", "expression", "(LSchemeSystem$Datum;LSchemeSystem$Template;ZI)V"⟩, 3) := ⟨⟨by decide +kernel, by decide +kernel⟩, List.mem_of_getElem? (i := 60) (by decide +kernel), List.mem_of_getElem? (i := 790) (by decide +kernel), List.mem_of_getElem? (i := 791) (by decide +kernel)⟩
theorem lw_p19 : lw_okq (⟨"SchemeSystem$Compiler", "list", "(LSchemeSystem$Datum;LSchemeSystem$Template;ZI)V"⟩, 3) := ⟨⟨by decide +kernel, by decide +kernel⟩, List.mem_of_getElem? (i := 60) (by decide +kernel), List.mem_of_getElem? (i := 794) (by decide +kernel), List.mem_of_getElem? (i := 795) (by decide +kernel)⟩
theorem lw_p20 : lw_okq (⟨"SchemeSystem$Compiler", "procedureCall", "(LSchemeSystem$Datum;LSchemeSystem$Template;ZI)V"⟩, 3) := ⟨⟨by decide +kernel, by decide +kernel⟩, List.mem_of_getElem? (i := 60) (by decide +kernel), List.mem_of_getElem? (i := 798) (by decide +kernel), List.mem_of_getElem? (i := 799) (by decide +kernel)⟩
theorem lw_p21 : lw_okq (⟨"SchemeSystem$Compiler", "call", "(IZ)V"⟩, 3) := ⟨⟨by decide +kernel, by decide +kernel⟩, List.mem_of_getElem? (i := 60) (by decide +kernel), List.mem_of_getElem? (i := 802) (by decide +kernel), List.mem_of_getElem? (i := 803) (by decide +kernel)⟩
theorem lw_p22 : lw_okq (⟨"SchemeSystem$Compiler", "emit", "(III)I"⟩, 3) := ⟨⟨by decide +kernel, by decide +kernel⟩, List.mem_of_getElem? (i := 60) (by decide +kernel), List.mem_of_getElem? (i := 806) (by decide +kernel), List.mem_of_getElem? (i := 807) (by decide +kernel)⟩
theorem lw_p23 : lw_okq (⟨"SchemeSystem$Compiler", "literal", "(LSchemeSystem$Datum;)V"⟩, 3) := ⟨⟨by decide +kernel, by decide +kernel⟩, List.mem_of_getElem? (i := 60) (by decide +kernel), List.mem_of_getElem? (i := 810) (by decide +kernel), List.mem_of_getElem? (i := 811) (by decide +kernel)⟩
theorem lw_p24 : lw_okq (⟨"SchemeSystem$Compiler", "choice", "(LSchemeSystem$Datum;LSchemeSystem$Template;ZI)V"⟩, 3) := ⟨⟨by decide +kernel, by decide +kernel⟩, List.mem_of_getElem? (i := 60) (by decide +kernel), List.mem_of_getElem? (i := 823) (by decide +kernel), List.mem_of_getElem? (i := 824) (by decide +kernel)⟩
theorem lw_p25 : lw_okq (⟨"SchemeSystem$Compiler", "leadHere", "(I)V"⟩, 3) := ⟨⟨by decide +kernel, by decide +kernel⟩, List.mem_of_getElem? (i := 60) (by decide +kernel), List.mem_of_getElem? (i := 827) (by decide +kernel), List.mem_of_getElem? (i := 828) (by decide +kernel)⟩
theorem lw_p26 : lw_okq (⟨"SchemeSystem$Compiler", "assignment", "(LSchemeSystem$Datum;LSchemeSystem$Template;I)V"⟩, 3) := ⟨⟨by decide +kernel, by decide +kernel⟩, List.mem_of_getElem? (i := 60) (by decide +kernel), List.mem_of_getElem? (i := 831) (by decide +kernel), List.mem_of_getElem? (i := 832) (by decide +kernel)⟩
theorem lw_p27 : lw_okq (⟨"SchemeSystem$Compiler", "reach", "(IIILSchemeSystem$Template;)V"⟩, 3) := ⟨⟨by decide +kernel, by decide +kernel⟩, List.mem_of_getElem? (i := 60) (by decide +kernel), List.mem_of_getElem? (i := 835) (by decide +kernel), List.mem_of_getElem? (i := 836) (by decide +kernel)⟩
theorem lw_p28 : lw_okq (⟨"SchemeSystem$Compiler", "lambda", "(LSchemeSystem$Datum;LSchemeSystem$Template;I)V"⟩, 3) := ⟨⟨by decide +kernel, by decide +kernel⟩, List.mem_of_getElem? (i := 60) (by decide +kernel), List.mem_of_getElem? (i := 843) (by decide +kernel), List.mem_of_getElem? (i := 844) (by decide +kernel)⟩
theorem lw_p29 : lw_okq (⟨"SchemeSystem$Compiler", "body", "(LSchemeSystem$Template;LSchemeSystem$Datum;I)V"⟩, 3) := ⟨⟨by decide +kernel, by decide +kernel⟩, List.mem_of_getElem? (i := 60) (by decide +kernel), List.mem_of_getElem? (i := 889) (by decide +kernel), List.mem_of_getElem? (i := 890) (by decide +kernel)⟩
theorem lw_p30 : lw_okq (⟨"SchemeSystem$Compiler", "open", "(LSchemeSystem$Template;)I"⟩, 3) := ⟨⟨by decide +kernel, by decide +kernel⟩, List.mem_of_getElem? (i := 60) (by decide +kernel), List.mem_of_getElem? (i := 893) (by decide +kernel), List.mem_of_getElem? (i := 894) (by decide +kernel)⟩
theorem lw_p31 : lw_okq (⟨"SchemeSystem$Compiler", "end", "(LSchemeSystem$Template;I)V"⟩, 3) := ⟨⟨by decide +kernel, by decide +kernel⟩, List.mem_of_getElem? (i := 60) (by decide +kernel), List.mem_of_getElem? (i := 901) (by decide +kernel), List.mem_of_getElem? (i := 902) (by decide +kernel)⟩
def lw_privs_2 : List (MethodName × Nat) := [(⟨"SchemeSystem$Reader", "quoted", "(I)LSchemeSystem$Datum;"⟩, 4), (⟨"SchemeSystem$Compiler", "define", "(LSchemeSystem$Datum;)V"⟩, 3), (⟨"SchemeSystem$Compiler", "expression", "(LSchemeSystem$Datum;LSchemeSystem$Template;ZI)V"⟩, 3), (⟨"SchemeSystem$Compiler", "list", "(LSchemeSystem$Datum;LSchemeSystem$Template;ZI)V"⟩, 3), (⟨"SchemeSystem$Compiler", "procedureCall", "(LSchemeSystem$Datum;LSchemeSystem$Template;ZI)V"⟩, 3), (⟨"SchemeSystem$Compiler", "call", "(IZ)V"⟩, 3), (⟨"SchemeSystem$Compiler", "emit", "(III)I"⟩, 3), (⟨"SchemeSystem$Compiler", "literal", "(LSchemeSystem$Datum;)V"⟩, 3), (⟨"SchemeSystem$Compiler", "choice", "(LSchemeSystem$Datum;LSchemeSystem$Template;ZI)V"⟩, 3), (⟨"SchemeSystem$Compiler", "leadHere", "(I)V"⟩, 3), (⟨"SchemeSystem$Compiler", "assignment", "(LSchemeSystem$Datum;LSchemeSystem$Template;I)V"⟩, 3), (⟨"SchemeSystem$Compiler", "reach", "(IIILSchemeSystem$Template;)V"⟩, 3), (⟨"SchemeSystem$Compiler", "lambda", "(LSchemeSystem$Datum;LSchemeSystem$Template;I)V"⟩, 3), (⟨"SchemeSystem$Compiler", "body", "(LSchemeSystem$Template;LSchemeSystem$Datum;I)V"⟩, 3), (⟨"SchemeSystem$Compiler", "open", "(LSchemeSystem$Template;)I"⟩, 3), (⟨"SchemeSystem$Compiler", "end", "(LSchemeSystem$Template;I)V"⟩, 3)]
theorem lw_r2 : ∀ q ∈ lw_privs_2, lw_okq q := List.forall_mem_cons.mpr ⟨lw_p16, List.forall_mem_cons.mpr ⟨lw_p17, List.forall_mem_cons.mpr ⟨lw_p18, List.forall_mem_cons.mpr ⟨lw_p19, List.forall_mem_cons.mpr ⟨lw_p20, List.forall_mem_cons.mpr ⟨lw_p21, List.forall_mem_cons.mpr ⟨lw_p22, List.forall_mem_cons.mpr ⟨lw_p23, List.forall_mem_cons.mpr ⟨lw_p24, List.forall_mem_cons.mpr ⟨lw_p25, List.forall_mem_cons.mpr ⟨lw_p26, List.forall_mem_cons.mpr ⟨lw_p27, List.forall_mem_cons.mpr ⟨lw_p28, List.forall_mem_cons.mpr ⟨lw_p29, List.forall_mem_cons.mpr ⟨lw_p30, List.forall_mem_cons.mpr ⟨lw_p31, fun _ h => absurd h List.not_mem_nil⟩⟩⟩⟩⟩⟩⟩⟩⟩⟩⟩⟩⟩⟩⟩⟩
theorem lw_p32 : lw_okq (⟨"SchemeSystem$Compiler", "binding", "(LSchemeSystem$Datum;LSchemeSystem$Template;ZI)V"⟩, 3) := ⟨⟨by decide +kernel, by decide +kernel⟩, List.mem_of_getElem? (i := 60) (by decide +kernel), List.mem_of_getElem? (i := 905) (by decide +kernel), List.mem_of_getElem? (i := 906) (by decide +kernel)⟩
theorem lw_p33 : lw_okq (⟨"SchemeSystem$Compiler", "templateOf", "(LSchemeSystem$Datum;LSchemeSystem$Template;)LSchemeSystem$Template;"⟩, 3) := ⟨⟨by decide +kernel, by decide +kernel⟩, List.mem_of_getElem? (i := 60) (by decide +kernel), List.mem_of_getElem? (i := 909) (by decide +kernel), List.mem_of_getElem? (i := 910) (by decide +kernel)⟩
theorem lw_p34 : lw_okq (⟨"SchemeSystem$Compiler", "callWith", "(LSchemeSystem$Datum;LSchemeSystem$Template;ZI)V"⟩, 3) := ⟨⟨by decide +kernel, by decide +kernel⟩, List.mem_of_getElem? (i := 60) (by decide +kernel), List.mem_of_getElem? (i := 913) (by decide +kernel), List.mem_of_getElem? (i := 914) (by decide +kernel)⟩
theorem lw_p35 : lw_okq (⟨"SchemeSystem$Compiler", "allOf", "(LSchemeSystem$Datum;LSchemeSystem$Template;ZI)V"⟩, 3) := ⟨⟨by decide +kernel, by decide +kernel⟩, List.mem_of_getElem? (i := 60) (by decide +kernel), List.mem_of_getElem? (i := 917) (by decide +kernel), List.mem_of_getElem? (i := 918) (by decide +kernel)⟩
theorem lw_p36 : lw_okq (⟨"SchemeSystem$Compiler", "oneOf", "(LSchemeSystem$Datum;LSchemeSystem$Template;ZI)V"⟩, 3) := ⟨⟨by decide +kernel, by decide +kernel⟩, List.mem_of_getElem? (i := 60) (by decide +kernel), List.mem_of_getElem? (i := 921) (by decide +kernel), List.mem_of_getElem? (i := 922) (by decide +kernel)⟩
theorem lw_p37 : lw_okq (⟨"SchemeSystem$Compiler", "leadAllHere", "([II)V"⟩, 3) := ⟨⟨by decide +kernel, by decide +kernel⟩, List.mem_of_getElem? (i := 60) (by decide +kernel), List.mem_of_getElem? (i := 925) (by decide +kernel), List.mem_of_getElem? (i := 926) (by decide +kernel)⟩
theorem lw_p38 : lw_okq (⟨"SchemeSystem$Compiler", "cases", "(LSchemeSystem$Datum;LSchemeSystem$Template;ZI)V"⟩, 3) := ⟨⟨by decide +kernel, by decide +kernel⟩, List.mem_of_getElem? (i := 60) (by decide +kernel), List.mem_of_getElem? (i := 929) (by decide +kernel), List.mem_of_getElem? (i := 930) (by decide +kernel)⟩
theorem lw_p39 : lw_okq (⟨"SchemeSystem$Compiler", "loop", "(LSchemeSystem$Datum;LSchemeSystem$Template;ZI)V"⟩, 3) := ⟨⟨by decide +kernel, by decide +kernel⟩, List.mem_of_getElem? (i := 60) (by decide +kernel), List.mem_of_getElem? (i := 933) (by decide +kernel), List.mem_of_getElem? (i := 934) (by decide +kernel)⟩
theorem lw_p40 : lw_okq (⟨"SchemeSystem$Compiler", "sequence", "(LSchemeSystem$Datum;LSchemeSystem$Template;ZI)V"⟩, 3) := ⟨⟨by decide +kernel, by decide +kernel⟩, List.mem_of_getElem? (i := 60) (by decide +kernel), List.mem_of_getElem? (i := 937) (by decide +kernel), List.mem_of_getElem? (i := 938) (by decide +kernel)⟩
theorem lw_p41 : lw_okq (⟨"SchemeSystem$Heap", "makeObject", "(LSchemeSystem$Template;I)I"⟩, 11) := ⟨⟨by decide +kernel, by decide +kernel⟩, List.mem_of_getElem? (i := 77) (by decide +kernel), List.mem_of_getElem? (i := 969) (by decide +kernel), List.mem_of_getElem? (i := 970) (by decide +kernel)⟩
theorem lw_p42 : lw_okq (⟨"SchemeSystem$Machine", "advance", "()Z"⟩, 17) := ⟨⟨by decide +kernel, by decide +kernel⟩, List.mem_of_getElem? (i := 181) (by decide +kernel), List.mem_of_getElem? (i := 1028) (by decide +kernel), List.mem_of_getElem? (i := 1029) (by decide +kernel)⟩
theorem lw_p43 : lw_okq (⟨"SchemeSystem$Machine", "push", "()V"⟩, 17) := ⟨⟨by decide +kernel, by decide +kernel⟩, List.mem_of_getElem? (i := 181) (by decide +kernel), List.mem_of_getElem? (i := 1032) (by decide +kernel), List.mem_of_getElem? (i := 1033) (by decide +kernel)⟩
theorem lw_p44 : lw_okq (⟨"SchemeSystem$Machine", "slot", "(II)I"⟩, 17) := ⟨⟨by decide +kernel, by decide +kernel⟩, List.mem_of_getElem? (i := 181) (by decide +kernel), List.mem_of_getElem? (i := 1042) (by decide +kernel), List.mem_of_getElem? (i := 1043) (by decide +kernel)⟩
theorem lw_p45 : lw_okq (⟨"SchemeSystem$Machine", "step", "(IZ)V"⟩, 17) := ⟨⟨by decide +kernel, by decide +kernel⟩, List.mem_of_getElem? (i := 181) (by decide +kernel), List.mem_of_getElem? (i := 1056) (by decide +kernel), List.mem_of_getElem? (i := 1057) (by decide +kernel)⟩
theorem lw_p46 : lw_okq (⟨"SchemeSystem$Primitives", "makePair", "(LSchemeSystem$Row;I)V"⟩, 1) := ⟨⟨by decide +kernel, by decide +kernel⟩, List.mem_of_getElem? (i := 187) (by decide +kernel), List.mem_of_getElem? (i := 1083) (by decide +kernel), List.mem_of_getElem? (i := 1084) (by decide +kernel)⟩
theorem lw_p47 : lw_okq (⟨"SchemeSystem$Machine", "enter", "(IIZ)V"⟩, 17) := ⟨⟨by decide +kernel, by decide +kernel⟩, List.mem_of_getElem? (i := 181) (by decide +kernel), List.mem_of_getElem? (i := 1140) (by decide +kernel), List.mem_of_getElem? (i := 1141) (by decide +kernel)⟩
def lw_privs_3 : List (MethodName × Nat) := [(⟨"SchemeSystem$Compiler", "binding", "(LSchemeSystem$Datum;LSchemeSystem$Template;ZI)V"⟩, 3), (⟨"SchemeSystem$Compiler", "templateOf", "(LSchemeSystem$Datum;LSchemeSystem$Template;)LSchemeSystem$Template;"⟩, 3), (⟨"SchemeSystem$Compiler", "callWith", "(LSchemeSystem$Datum;LSchemeSystem$Template;ZI)V"⟩, 3), (⟨"SchemeSystem$Compiler", "allOf", "(LSchemeSystem$Datum;LSchemeSystem$Template;ZI)V"⟩, 3), (⟨"SchemeSystem$Compiler", "oneOf", "(LSchemeSystem$Datum;LSchemeSystem$Template;ZI)V"⟩, 3), (⟨"SchemeSystem$Compiler", "leadAllHere", "([II)V"⟩, 3), (⟨"SchemeSystem$Compiler", "cases", "(LSchemeSystem$Datum;LSchemeSystem$Template;ZI)V"⟩, 3), (⟨"SchemeSystem$Compiler", "loop", "(LSchemeSystem$Datum;LSchemeSystem$Template;ZI)V"⟩, 3), (⟨"SchemeSystem$Compiler", "sequence", "(LSchemeSystem$Datum;LSchemeSystem$Template;ZI)V"⟩, 3), (⟨"SchemeSystem$Heap", "makeObject", "(LSchemeSystem$Template;I)I"⟩, 11), (⟨"SchemeSystem$Machine", "advance", "()Z"⟩, 17), (⟨"SchemeSystem$Machine", "push", "()V"⟩, 17), (⟨"SchemeSystem$Machine", "slot", "(II)I"⟩, 17), (⟨"SchemeSystem$Machine", "step", "(IZ)V"⟩, 17), (⟨"SchemeSystem$Primitives", "makePair", "(LSchemeSystem$Row;I)V"⟩, 1), (⟨"SchemeSystem$Machine", "enter", "(IIZ)V"⟩, 17)]
theorem lw_r3 : ∀ q ∈ lw_privs_3, lw_okq q := List.forall_mem_cons.mpr ⟨lw_p32, List.forall_mem_cons.mpr ⟨lw_p33, List.forall_mem_cons.mpr ⟨lw_p34, List.forall_mem_cons.mpr ⟨lw_p35, List.forall_mem_cons.mpr ⟨lw_p36, List.forall_mem_cons.mpr ⟨lw_p37, List.forall_mem_cons.mpr ⟨lw_p38, List.forall_mem_cons.mpr ⟨lw_p39, List.forall_mem_cons.mpr ⟨lw_p40, List.forall_mem_cons.mpr ⟨lw_p41, List.forall_mem_cons.mpr ⟨lw_p42, List.forall_mem_cons.mpr ⟨lw_p43, List.forall_mem_cons.mpr ⟨lw_p44, List.forall_mem_cons.mpr ⟨lw_p45, List.forall_mem_cons.mpr ⟨lw_p46, List.forall_mem_cons.mpr ⟨lw_p47, fun _ h => absurd h List.not_mem_nil⟩⟩⟩⟩⟩⟩⟩⟩⟩⟩⟩⟩⟩⟩⟩⟩
theorem lw_p48 : lw_okq (⟨"SchemeSystem$Machine", "goDeeper", "()V"⟩, 17) := ⟨⟨by decide +kernel, by decide +kernel⟩, List.mem_of_getElem? (i := 181) (by decide +kernel), List.mem_of_getElem? (i := 1151) (by decide +kernel), List.mem_of_getElem? (i := 1152) (by decide +kernel)⟩
theorem lw_p49 : lw_okq (⟨"SchemeSystem$Machine", "comeBack", "()Z"⟩, 17) := ⟨⟨by decide +kernel, by decide +kernel⟩, List.mem_of_getElem? (i := 181) (by decide +kernel), List.mem_of_getElem? (i := 1166) (by decide +kernel), List.mem_of_getElem? (i := 1167) (by decide +kernel)⟩
theorem lw_p50 : lw_okq (⟨"SchemeSystem$Machine", "useGlobal", "(II)V"⟩, 17) := ⟨⟨by decide +kernel, by decide +kernel⟩, List.mem_of_getElem? (i := 181) (by decide +kernel), List.mem_of_getElem? (i := 1170) (by decide +kernel), List.mem_of_getElem? (i := 1171) (by decide +kernel)⟩
theorem lw_p51 : lw_okq (⟨"SchemeSystemModel", "isSign", "(I)Z"⟩, 72) := ⟨⟨by decide +kernel, by decide +kernel⟩, List.mem_of_getElem? (i := 1194) (by decide +kernel), List.mem_of_getElem? (i := 1200) (by decide +kernel), List.mem_of_getElem? (i := 1201) (by decide +kernel)⟩
theorem lw_p52 : lw_okq (⟨"SchemeSystemModel", "read", "()I"⟩, 72) := ⟨⟨by decide +kernel, by decide +kernel⟩, List.mem_of_getElem? (i := 1194) (by decide +kernel), List.mem_of_getElem? (i := 1433) (by decide +kernel), List.mem_of_getElem? (i := 1434) (by decide +kernel)⟩
theorem lw_p53 : lw_okq (⟨"SchemeSystemModel", "add", "(IID)V"⟩, 72) := ⟨⟨by decide +kernel, by decide +kernel⟩, List.mem_of_getElem? (i := 1194) (by decide +kernel), List.mem_of_getElem? (i := 1438) (by decide +kernel), List.mem_of_getElem? (i := 1439) (by decide +kernel)⟩
theorem lw_p54 : lw_okq (⟨"SchemeSystemModel", "pair", "(IIDID)I"⟩, 72) := ⟨⟨by decide +kernel, by decide +kernel⟩, List.mem_of_getElem? (i := 1194) (by decide +kernel), List.mem_of_getElem? (i := 1442) (by decide +kernel), List.mem_of_getElem? (i := 1443) (by decide +kernel)⟩
theorem lw_p55 : lw_okq (⟨"SchemeSystemModel", "result", "(ID)V"⟩, 72) := ⟨⟨by decide +kernel, by decide +kernel⟩, List.mem_of_getElem? (i := 1194) (by decide +kernel), List.mem_of_getElem? (i := 1446) (by decide +kernel), List.mem_of_getElem? (i := 1447) (by decide +kernel)⟩
theorem lw_p56 : lw_okq (⟨"SchemeSystemModel", "isDigit", "(I)Z"⟩, 72) := ⟨⟨by decide +kernel, by decide +kernel⟩, List.mem_of_getElem? (i := 1194) (by decide +kernel), List.mem_of_getElem? (i := 1450) (by decide +kernel), List.mem_of_getElem? (i := 1451) (by decide +kernel)⟩
theorem lw_p57 : lw_okq (⟨"SchemeSystemModel", "numeral", "(I)I"⟩, 72) := ⟨⟨by decide +kernel, by decide +kernel⟩, List.mem_of_getElem? (i := 1194) (by decide +kernel), List.mem_of_getElem? (i := 1454) (by decide +kernel), List.mem_of_getElem? (i := 1455) (by decide +kernel)⟩
theorem lw_p58 : lw_okq (⟨"SchemeSystemModel", "isName", "(I)Z"⟩, 72) := ⟨⟨by decide +kernel, by decide +kernel⟩, List.mem_of_getElem? (i := 1194) (by decide +kernel), List.mem_of_getElem? (i := 1459) (by decide +kernel), List.mem_of_getElem? (i := 1460) (by decide +kernel)⟩
theorem lw_p59 : lw_okq (⟨"SchemeSystemModel", "block", "()I"⟩, 72) := ⟨⟨by decide +kernel, by decide +kernel⟩, List.mem_of_getElem? (i := 1194) (by decide +kernel), List.mem_of_getElem? (i := 1463) (by decide +kernel), List.mem_of_getElem? (i := 1464) (by decide +kernel)⟩
theorem lw_p60 : lw_okq (⟨"SchemeSystemModel", "push", "(IIDII)V"⟩, 72) := ⟨⟨by decide +kernel, by decide +kernel⟩, List.mem_of_getElem? (i := 1194) (by decide +kernel), List.mem_of_getElem? (i := 1467) (by decide +kernel), List.mem_of_getElem? (i := 1468) (by decide +kernel)⟩
theorem lw_p61 : lw_okq (⟨"SchemeSystemModel", "expand", "(IDIIZ)V"⟩, 72) := ⟨⟨by decide +kernel, by decide +kernel⟩, List.mem_of_getElem? (i := 1194) (by decide +kernel), List.mem_of_getElem? (i := 1471) (by decide +kernel), List.mem_of_getElem? (i := 1472) (by decide +kernel)⟩
theorem lw_p62 : lw_okq (⟨"SchemeSystemModel", "leaf", "(IID)V"⟩, 72) := ⟨⟨by decide +kernel, by decide +kernel⟩, List.mem_of_getElem? (i := 1194) (by decide +kernel), List.mem_of_getElem? (i := 1475) (by decide +kernel), List.mem_of_getElem? (i := 1476) (by decide +kernel)⟩
theorem lw_p63 : lw_okq (⟨"SchemeSystemModel", "find", "(III)V"⟩, 72) := ⟨⟨by decide +kernel, by decide +kernel⟩, List.mem_of_getElem? (i := 1194) (by decide +kernel), List.mem_of_getElem? (i := 1481) (by decide +kernel), List.mem_of_getElem? (i := 1482) (by decide +kernel)⟩
def lw_privs_4 : List (MethodName × Nat) := [(⟨"SchemeSystem$Machine", "goDeeper", "()V"⟩, 17), (⟨"SchemeSystem$Machine", "comeBack", "()Z"⟩, 17), (⟨"SchemeSystem$Machine", "useGlobal", "(II)V"⟩, 17), (⟨"SchemeSystemModel", "isSign", "(I)Z"⟩, 72), (⟨"SchemeSystemModel", "read", "()I"⟩, 72), (⟨"SchemeSystemModel", "add", "(IID)V"⟩, 72), (⟨"SchemeSystemModel", "pair", "(IIDID)I"⟩, 72), (⟨"SchemeSystemModel", "result", "(ID)V"⟩, 72), (⟨"SchemeSystemModel", "isDigit", "(I)Z"⟩, 72), (⟨"SchemeSystemModel", "numeral", "(I)I"⟩, 72), (⟨"SchemeSystemModel", "isName", "(I)Z"⟩, 72), (⟨"SchemeSystemModel", "block", "()I"⟩, 72), (⟨"SchemeSystemModel", "push", "(IIDII)V"⟩, 72), (⟨"SchemeSystemModel", "expand", "(IDIIZ)V"⟩, 72), (⟨"SchemeSystemModel", "leaf", "(IID)V"⟩, 72), (⟨"SchemeSystemModel", "find", "(III)V"⟩, 72)]
theorem lw_r4 : ∀ q ∈ lw_privs_4, lw_okq q := List.forall_mem_cons.mpr ⟨lw_p48, List.forall_mem_cons.mpr ⟨lw_p49, List.forall_mem_cons.mpr ⟨lw_p50, List.forall_mem_cons.mpr ⟨lw_p51, List.forall_mem_cons.mpr ⟨lw_p52, List.forall_mem_cons.mpr ⟨lw_p53, List.forall_mem_cons.mpr ⟨lw_p54, List.forall_mem_cons.mpr ⟨lw_p55, List.forall_mem_cons.mpr ⟨lw_p56, List.forall_mem_cons.mpr ⟨lw_p57, List.forall_mem_cons.mpr ⟨lw_p58, List.forall_mem_cons.mpr ⟨lw_p59, List.forall_mem_cons.mpr ⟨lw_p60, List.forall_mem_cons.mpr ⟨lw_p61, List.forall_mem_cons.mpr ⟨lw_p62, List.forall_mem_cons.mpr ⟨lw_p63, fun _ h => absurd h List.not_mem_nil⟩⟩⟩⟩⟩⟩⟩⟩⟩⟩⟩⟩⟩⟩⟩⟩
theorem lw_p64 : lw_okq (⟨"SchemeSystemModel", "element", "(IDI)V"⟩, 72) := ⟨⟨by decide +kernel, by decide +kernel⟩, List.mem_of_getElem? (i := 1194) (by decide +kernel), List.mem_of_getElem? (i := 1485) (by decide +kernel), List.mem_of_getElem? (i := 1486) (by decide +kernel)⟩
theorem lw_p65 : lw_okq (⟨"SchemeSystemModel", "behind", "(IDI)V"⟩, 72) := ⟨⟨by decide +kernel, by decide +kernel⟩, List.mem_of_getElem? (i := 1194) (by decide +kernel), List.mem_of_getElem? (i := 1489) (by decide +kernel), List.mem_of_getElem? (i := 1490) (by decide +kernel)⟩
theorem lw_p66 : lw_okq (⟨"SchemeSystemModel", "form", "(IIDIIZ)V"⟩, 72) := ⟨⟨by decide +kernel, by decide +kernel⟩, List.mem_of_getElem? (i := 1194) (by decide +kernel), List.mem_of_getElem? (i := 1493) (by decide +kernel), List.mem_of_getElem? (i := 1494) (by decide +kernel)⟩
theorem lw_p67 : lw_okq (⟨"SchemeSystemModel", "elements", "(ID)I"⟩, 72) := ⟨⟨by decide +kernel, by decide +kernel⟩, List.mem_of_getElem? (i := 1194) (by decide +kernel), List.mem_of_getElem? (i := 1497) (by decide +kernel), List.mem_of_getElem? (i := 1498) (by decide +kernel)⟩
theorem lw_p68 : lw_okq (⟨"SchemeSystemModel", "make", "(III)V"⟩, 72) := ⟨⟨by decide +kernel, by decide +kernel⟩, List.mem_of_getElem? (i := 1194) (by decide +kernel), List.mem_of_getElem? (i := 1501) (by decide +kernel), List.mem_of_getElem? (i := 1502) (by decide +kernel)⟩
theorem lw_p69 : lw_okq (⟨"SchemeSystemModel", "give", "(IIDIII)V"⟩, 72) := ⟨⟨by decide +kernel, by decide +kernel⟩, List.mem_of_getElem? (i := 1194) (by decide +kernel), List.mem_of_getElem? (i := 1505) (by decide +kernel), List.mem_of_getElem? (i := 1506) (by decide +kernel)⟩
theorem lw_p70 : lw_okq (⟨"SchemeSystemModel", "free", "()Z"⟩, 72) := ⟨⟨by decide +kernel, by decide +kernel⟩, List.mem_of_getElem? (i := 1194) (by decide +kernel), List.mem_of_getElem? (i := 1509) (by decide +kernel), List.mem_of_getElem? (i := 1510) (by decide +kernel)⟩
theorem lw_p71 : lw_okq (⟨"SchemeSystemModel", "procedure", "(IIDZI)V"⟩, 72) := ⟨⟨by decide +kernel, by decide +kernel⟩, List.mem_of_getElem? (i := 1194) (by decide +kernel), List.mem_of_getElem? (i := 1513) (by decide +kernel), List.mem_of_getElem? (i := 1514) (by decide +kernel)⟩
theorem lw_p72 : lw_okq (⟨"SchemeSystemModel", "name", "(II)V"⟩, 72) := ⟨⟨by decide +kernel, by decide +kernel⟩, List.mem_of_getElem? (i := 1194) (by decide +kernel), List.mem_of_getElem? (i := 1517) (by decide +kernel), List.mem_of_getElem? (i := 1518) (by decide +kernel)⟩
theorem lw_p73 : lw_okq (⟨"SchemeSystemModel", "bindings", "(IDII)V"⟩, 72) := ⟨⟨by decide +kernel, by decide +kernel⟩, List.mem_of_getElem? (i := 1194) (by decide +kernel), List.mem_of_getElem? (i := 1521) (by decide +kernel), List.mem_of_getElem? (i := 1522) (by decide +kernel)⟩
theorem lw_p74 : lw_okq (⟨"SchemeSystemModel", "loop", "(IDII)V"⟩, 72) := ⟨⟨by decide +kernel, by decide +kernel⟩, List.mem_of_getElem? (i := 1194) (by decide +kernel), List.mem_of_getElem? (i := 1525) (by decide +kernel), List.mem_of_getElem? (i := 1526) (by decide +kernel)⟩
theorem lw_p75 : lw_okq (⟨"SchemeSystemModel", "rest", "(IIDII)V"⟩, 72) := ⟨⟨by decide +kernel, by decide +kernel⟩, List.mem_of_getElem? (i := 1194) (by decide +kernel), List.mem_of_getElem? (i := 1529) (by decide +kernel), List.mem_of_getElem? (i := 1530) (by decide +kernel)⟩
theorem lw_p76 : lw_okq (⟨"SchemeSystemModel", "quotes", "(I)Z"⟩, 72) := ⟨⟨by decide +kernel, by decide +kernel⟩, List.mem_of_getElem? (i := 1194) (by decide +kernel), List.mem_of_getElem? (i := 1533) (by decide +kernel), List.mem_of_getElem? (i := 1534) (by decide +kernel)⟩
theorem lw_p77 : lw_okq (⟨"SchemeSystemModel", "hold", "(IZ)I"⟩, 72) := ⟨⟨by decide +kernel, by decide +kernel⟩, List.mem_of_getElem? (i := 1194) (by decide +kernel), List.mem_of_getElem? (i := 1537) (by decide +kernel), List.mem_of_getElem? (i := 1538) (by decide +kernel)⟩
theorem lw_p78 : lw_okq (⟨"SchemeSystemModel", "lay", "(ID)V"⟩, 72) := ⟨⟨by decide +kernel, by decide +kernel⟩, List.mem_of_getElem? (i := 1194) (by decide +kernel), List.mem_of_getElem? (i := 1541) (by decide +kernel), List.mem_of_getElem? (i := 1542) (by decide +kernel)⟩
theorem lw_p79 : lw_okq (⟨"SchemeSystemModel", "room", "()I"⟩, 72) := ⟨⟨by decide +kernel, by decide +kernel⟩, List.mem_of_getElem? (i := 1194) (by decide +kernel), List.mem_of_getElem? (i := 1545) (by decide +kernel), List.mem_of_getElem? (i := 1546) (by decide +kernel)⟩
def lw_privs_5 : List (MethodName × Nat) := [(⟨"SchemeSystemModel", "element", "(IDI)V"⟩, 72), (⟨"SchemeSystemModel", "behind", "(IDI)V"⟩, 72), (⟨"SchemeSystemModel", "form", "(IIDIIZ)V"⟩, 72), (⟨"SchemeSystemModel", "elements", "(ID)I"⟩, 72), (⟨"SchemeSystemModel", "make", "(III)V"⟩, 72), (⟨"SchemeSystemModel", "give", "(IIDIII)V"⟩, 72), (⟨"SchemeSystemModel", "free", "()Z"⟩, 72), (⟨"SchemeSystemModel", "procedure", "(IIDZI)V"⟩, 72), (⟨"SchemeSystemModel", "name", "(II)V"⟩, 72), (⟨"SchemeSystemModel", "bindings", "(IDII)V"⟩, 72), (⟨"SchemeSystemModel", "loop", "(IDII)V"⟩, 72), (⟨"SchemeSystemModel", "rest", "(IIDII)V"⟩, 72), (⟨"SchemeSystemModel", "quotes", "(I)Z"⟩, 72), (⟨"SchemeSystemModel", "hold", "(IZ)I"⟩, 72), (⟨"SchemeSystemModel", "lay", "(ID)V"⟩, 72), (⟨"SchemeSystemModel", "room", "()I"⟩, 72)]
theorem lw_r5 : ∀ q ∈ lw_privs_5, lw_okq q := List.forall_mem_cons.mpr ⟨lw_p64, List.forall_mem_cons.mpr ⟨lw_p65, List.forall_mem_cons.mpr ⟨lw_p66, List.forall_mem_cons.mpr ⟨lw_p67, List.forall_mem_cons.mpr ⟨lw_p68, List.forall_mem_cons.mpr ⟨lw_p69, List.forall_mem_cons.mpr ⟨lw_p70, List.forall_mem_cons.mpr ⟨lw_p71, List.forall_mem_cons.mpr ⟨lw_p72, List.forall_mem_cons.mpr ⟨lw_p73, List.forall_mem_cons.mpr ⟨lw_p74, List.forall_mem_cons.mpr ⟨lw_p75, List.forall_mem_cons.mpr ⟨lw_p76, List.forall_mem_cons.mpr ⟨lw_p77, List.forall_mem_cons.mpr ⟨lw_p78, List.forall_mem_cons.mpr ⟨lw_p79, fun _ h => absurd h List.not_mem_nil⟩⟩⟩⟩⟩⟩⟩⟩⟩⟩⟩⟩⟩⟩⟩⟩
theorem lw_p80 : lw_okq (⟨"SchemeSystemModel", "held", "(ID)D"⟩, 72) := ⟨⟨by decide +kernel, by decide +kernel⟩, List.mem_of_getElem? (i := 1194) (by decide +kernel), List.mem_of_getElem? (i := 1549) (by decide +kernel), List.mem_of_getElem? (i := 1550) (by decide +kernel)⟩
theorem lw_p81 : lw_okq (⟨"SchemeSystemModel", "finish", "(I)I"⟩, 72) := ⟨⟨by decide +kernel, by decide +kernel⟩, List.mem_of_getElem? (i := 1194) (by decide +kernel), List.mem_of_getElem? (i := 1553) (by decide +kernel), List.mem_of_getElem? (i := 1554) (by decide +kernel)⟩
theorem lw_p82 : lw_okq (⟨"SchemeSystemModel", "sweep", "()V"⟩, 72) := ⟨⟨by decide +kernel, by decide +kernel⟩, List.mem_of_getElem? (i := 1194) (by decide +kernel), List.mem_of_getElem? (i := 1561) (by decide +kernel), List.mem_of_getElem? (i := 1562) (by decide +kernel)⟩
theorem lw_p83 : lw_okq (⟨"SchemeSystemModel", "look", "(II)V"⟩, 72) := ⟨⟨by decide +kernel, by decide +kernel⟩, List.mem_of_getElem? (i := 1194) (by decide +kernel), List.mem_of_getElem? (i := 1565) (by decide +kernel), List.mem_of_getElem? (i := 1566) (by decide +kernel)⟩
theorem lw_p84 : lw_okq (⟨"SchemeSystemModel", "slotOf", "(II)I"⟩, 72) := ⟨⟨by decide +kernel, by decide +kernel⟩, List.mem_of_getElem? (i := 1194) (by decide +kernel), List.mem_of_getElem? (i := 1569) (by decide +kernel), List.mem_of_getElem? (i := 1570) (by decide +kernel)⟩
theorem lw_p85 : lw_okq (⟨"SchemeSystemModel", "closure", "(II)V"⟩, 72) := ⟨⟨by decide +kernel, by decide +kernel⟩, List.mem_of_getElem? (i := 1194) (by decide +kernel), List.mem_of_getElem? (i := 1573) (by decide +kernel), List.mem_of_getElem? (i := 1574) (by decide +kernel)⟩
theorem lw_p86 : lw_okq (⟨"SchemeSystemModel", "wait", "(IIII)V"⟩, 72) := ⟨⟨by decide +kernel, by decide +kernel⟩, List.mem_of_getElem? (i := 1194) (by decide +kernel), List.mem_of_getElem? (i := 1577) (by decide +kernel), List.mem_of_getElem? (i := 1578) (by decide +kernel)⟩
theorem lw_p87 : lw_okq (⟨"SchemeSystemModel", "set", "(II)V"⟩, 72) := ⟨⟨by decide +kernel, by decide +kernel⟩, List.mem_of_getElem? (i := 1194) (by decide +kernel), List.mem_of_getElem? (i := 1581) (by decide +kernel), List.mem_of_getElem? (i := 1582) (by decide +kernel)⟩
theorem lw_p88 : lw_okq (⟨"SchemeSystemModel", "given", "(III)V"⟩, 72) := ⟨⟨by decide +kernel, by decide +kernel⟩, List.mem_of_getElem? (i := 1194) (by decide +kernel), List.mem_of_getElem? (i := 1585) (by decide +kernel), List.mem_of_getElem? (i := 1586) (by decide +kernel)⟩
theorem lw_p89 : lw_okq (⟨"SchemeSystemModel", "truth", "(Z)V"⟩, 72) := ⟨⟨by decide +kernel, by decide +kernel⟩, List.mem_of_getElem? (i := 1194) (by decide +kernel), List.mem_of_getElem? (i := 1589) (by decide +kernel), List.mem_of_getElem? (i := 1590) (by decide +kernel)⟩
theorem lw_p90 : lw_okq (⟨"SchemeSystemModel", "reckon", "(IIDID)V"⟩, 72) := ⟨⟨by decide +kernel, by decide +kernel⟩, List.mem_of_getElem? (i := 1194) (by decide +kernel), List.mem_of_getElem? (i := 1593) (by decide +kernel), List.mem_of_getElem? (i := 1594) (by decide +kernel)⟩
theorem lw_p91 : lw_okq (⟨"SchemeSystemModel", "bounded", "(D)V"⟩, 72) := ⟨⟨by decide +kernel, by decide +kernel⟩, List.mem_of_getElem? (i := 1194) (by decide +kernel), List.mem_of_getElem? (i := 1597) (by decide +kernel), List.mem_of_getElem? (i := 1598) (by decide +kernel)⟩
theorem lw_p92 : lw_okq (⟨"SchemeSystemModel", "enter", "(III)I"⟩, 72) := ⟨⟨by decide +kernel, by decide +kernel⟩, List.mem_of_getElem? (i := 1194) (by decide +kernel), List.mem_of_getElem? (i := 1603) (by decide +kernel), List.mem_of_getElem? (i := 1604) (by decide +kernel)⟩
theorem lw_p93 : lw_okq (⟨"SchemeSystemModel", "write", "()V"⟩, 72) := ⟨⟨by decide +kernel, by decide +kernel⟩, List.mem_of_getElem? (i := 1194) (by decide +kernel), List.mem_of_getElem? (i := 1611) (by decide +kernel), List.mem_of_getElem? (i := 1612) (by decide +kernel)⟩
theorem lw_p94 : lw_okq (⟨"SchemeSystemModel", "put", "(I)V"⟩, 72) := ⟨⟨by decide +kernel, by decide +kernel⟩, List.mem_of_getElem? (i := 1194) (by decide +kernel), List.mem_of_getElem? (i := 1615) (by decide +kernel), List.mem_of_getElem? (i := 1616) (by decide +kernel)⟩
theorem lw_p95 : lw_okq (⟨"SchemeSystemModel", "decimal", "(I)V"⟩, 72) := ⟨⟨by decide +kernel, by decide +kernel⟩, List.mem_of_getElem? (i := 1194) (by decide +kernel), List.mem_of_getElem? (i := 1619) (by decide +kernel), List.mem_of_getElem? (i := 1620) (by decide +kernel)⟩
def lw_privs_6 : List (MethodName × Nat) := [(⟨"SchemeSystemModel", "held", "(ID)D"⟩, 72), (⟨"SchemeSystemModel", "finish", "(I)I"⟩, 72), (⟨"SchemeSystemModel", "sweep", "()V"⟩, 72), (⟨"SchemeSystemModel", "look", "(II)V"⟩, 72), (⟨"SchemeSystemModel", "slotOf", "(II)I"⟩, 72), (⟨"SchemeSystemModel", "closure", "(II)V"⟩, 72), (⟨"SchemeSystemModel", "wait", "(IIII)V"⟩, 72), (⟨"SchemeSystemModel", "set", "(II)V"⟩, 72), (⟨"SchemeSystemModel", "given", "(III)V"⟩, 72), (⟨"SchemeSystemModel", "truth", "(Z)V"⟩, 72), (⟨"SchemeSystemModel", "reckon", "(IIDID)V"⟩, 72), (⟨"SchemeSystemModel", "bounded", "(D)V"⟩, 72), (⟨"SchemeSystemModel", "enter", "(III)I"⟩, 72), (⟨"SchemeSystemModel", "write", "()V"⟩, 72), (⟨"SchemeSystemModel", "put", "(I)V"⟩, 72), (⟨"SchemeSystemModel", "decimal", "(I)V"⟩, 72)]
theorem lw_r6 : ∀ q ∈ lw_privs_6, lw_okq q := List.forall_mem_cons.mpr ⟨lw_p80, List.forall_mem_cons.mpr ⟨lw_p81, List.forall_mem_cons.mpr ⟨lw_p82, List.forall_mem_cons.mpr ⟨lw_p83, List.forall_mem_cons.mpr ⟨lw_p84, List.forall_mem_cons.mpr ⟨lw_p85, List.forall_mem_cons.mpr ⟨lw_p86, List.forall_mem_cons.mpr ⟨lw_p87, List.forall_mem_cons.mpr ⟨lw_p88, List.forall_mem_cons.mpr ⟨lw_p89, List.forall_mem_cons.mpr ⟨lw_p90, List.forall_mem_cons.mpr ⟨lw_p91, List.forall_mem_cons.mpr ⟨lw_p92, List.forall_mem_cons.mpr ⟨lw_p93, List.forall_mem_cons.mpr ⟨lw_p94, List.forall_mem_cons.mpr ⟨lw_p95, fun _ h => absurd h List.not_mem_nil⟩⟩⟩⟩⟩⟩⟩⟩⟩⟩⟩⟩⟩⟩⟩⟩
theorem lw_p96 : lw_okq (⟨"SchemeSystemModel", "mark", "(ID)V"⟩, 72) := ⟨⟨by decide +kernel, by decide +kernel⟩, List.mem_of_getElem? (i := 1194) (by decide +kernel), List.mem_of_getElem? (i := 1633) (by decide +kernel), List.mem_of_getElem? (i := 1634) (by decide +kernel)⟩
theorem lw_p97 : lw_okq (⟨"SchemeSystemModel", "markQuotes", "(II)V"⟩, 72) := ⟨⟨by decide +kernel, by decide +kernel⟩, List.mem_of_getElem? (i := 1194) (by decide +kernel), List.mem_of_getElem? (i := 1637) (by decide +kernel), List.mem_of_getElem? (i := 1638) (by decide +kernel)⟩
theorem lw_p98 : lw_okq (⟨"SchemeSystemModel", "markCode", "(I)V"⟩, 72) := ⟨⟨by decide +kernel, by decide +kernel⟩, List.mem_of_getElem? (i := 1194) (by decide +kernel), List.mem_of_getElem? (i := 1641) (by decide +kernel), List.mem_of_getElem? (i := 1642) (by decide +kernel)⟩
def lw_privs_7 : List (MethodName × Nat) := [(⟨"SchemeSystemModel", "mark", "(ID)V"⟩, 72), (⟨"SchemeSystemModel", "markQuotes", "(II)V"⟩, 72), (⟨"SchemeSystemModel", "markCode", "(I)V"⟩, 72)]
theorem lw_r7 : ∀ q ∈ lw_privs_7, lw_okq q := List.forall_mem_cons.mpr ⟨lw_p96, List.forall_mem_cons.mpr ⟨lw_p97, List.forall_mem_cons.mpr ⟨lw_p98, fun _ h => absurd h List.not_mem_nil⟩⟩⟩
def lw_privs : List (MethodName × Nat) := lw_privs_1 ++ (lw_privs_2 ++ (lw_privs_3 ++ (lw_privs_4 ++ (lw_privs_5 ++ (lw_privs_6 ++ (lw_privs_7))))))
def lw_tbl : List Cond := k2_sels lw_privs ++ tables_1
theorem lw_privs_ok : ∀ q ∈ lw_privs, lw_okq q := by
  show ∀ q ∈ lw_privs_1 ++ (lw_privs_2 ++ (lw_privs_3 ++ (lw_privs_4 ++ (lw_privs_5 ++ (lw_privs_6 ++ (lw_privs_7)))))), lw_okq q
  exact List.forall_mem_append.mpr ⟨lw_r1, List.forall_mem_append.mpr ⟨lw_r2, List.forall_mem_append.mpr ⟨lw_r3, List.forall_mem_append.mpr ⟨lw_r4, List.forall_mem_append.mpr ⟨lw_r5, List.forall_mem_append.mpr ⟨lw_r6, lw_r7⟩⟩⟩⟩⟩⟩
/-- the streams that the claim lets the run draw from -/
abbrev lw_cs : List Choice := [Jvm.Choice.named "NaN.bits"]
theorem lw_bits : nanBits ∈ lw_cs := by first | decide | exact List.mem_cons_self | simp [lw_cs, nanBits]
-- ===== end of PART A; then your names; then what follows =====
end
section
/-! THE ABSTRACT MACHINE, 1: values, locals, the instructions that touch neither heap nor flow -/
/-- int, long, double (its bits), reference: (index, length, tag), or null -/
abbrev am_V : Type := Int32 ⊕ Int64 ⊕ UInt64 ⊕ Option (Nat × Nat × Nat)
abbrev am_i (x : Int32) : am_V := .inl x
abbrev am_l (x : Int64) : am_V := .inr (.inl x)
abbrev am_d (x : UInt64) : am_V := .inr (.inr (.inl x))
abbrev am_q (r : Option (Nat × Nat × Nat)) : am_V := .inr (.inr (.inr r))
/-- the machine's own value, the addresses by g -/
def am_re (g : Nat → Nat) (v : am_V) : Value := match v with
  | .inl x => .int x
  | .inr (.inl x) => .long x
  | .inr (.inr (.inl x)) => .double x
  | .inr (.inr (.inr none)) => .null
  | .inr (.inr (.inr (some r))) => .ref (g r.1)
def am_cat (v : am_V) : Nat := match v with
  | .inl _ => 1
  | .inr (.inl _) => 2
  | .inr (.inr (.inl _)) => 2
  | .inr (.inr (.inr _)) => 1
/-- of the kind: 0 int, 1 long, 2 double, 3 reference -/
def am_is (k : Nat) (v : am_V) : Bool := match v with
  | .inl _ => k == 0
  | .inr (.inl _) => k == 1
  | .inr (.inr (.inl _)) => k == 2
  | .inr (.inr (.inr _)) => k == 3
theorem am_cat_re (g : Nat → Nat) (v : am_V) : (am_re g v).category = am_cat v := by
  rcases v with x | x | x | (_ | x) <;> rfl
abbrev am_L : Type := List (Option am_V)
/-- a value of one slot forgets the value of two slots before it -/
def am_cl (L : am_L) (i : Nat) : am_L := match i with
  | 0 => L
  | j + 1 => match L.getD j none with
    | none => L
    | some w => if am_cat w = 2 then L.set j none else L
def am_stv (L : am_L) (i : Nat) (v : am_V) : am_L :=
  if am_cat v = 2 then ((am_cl L i).set i (some v)).set (i + 1) none else (am_cl L i).set i (some v)
abbrev am_P : Type := Option (Nat × am_L × List am_V)
def am_load (k len i : Nat) (L : am_L) (st : List am_V) : am_P := match L.getD i none with
  | none => none
  | some v => if am_is k v = true then some (len, L, v :: st) else none
def am_store (k len i : Nat) (L : am_L) (st : List am_V) : am_P := match st with
  | [] => none
  | v :: s => if am_is k v = true then (if i + am_cat v ≤ L.length then some (len, am_stv L i v, s) else none) else none
def am_ii (f : Int32 → Int32 → Int32) (L : am_L) (st : List am_V) : am_P := match st with
  | .inl y :: .inl x :: s => some (1, L, am_i (f x y) :: s)
  | _ => none
def am_ll (f : Int64 → Int64 → Int64) (L : am_L) (st : List am_V) : am_P := match st with
  | .inr (.inl y) :: .inr (.inl x) :: s => some (1, L, am_l (f x y) :: s)
  | _ => none
/-- the instructions that touch neither heap nor flow: length, locals, stack -/
def am_p (i : Instr) (L : am_L) (st : List am_V) : am_P := match i with
  | .aconst_null => some (1, L, am_q none :: st)
  | .iconst n => some (1, L, am_i (Int32.ofInt n) :: st)
  | .bipush n => some (2, L, am_i (Int8.ofInt n).toInt32 :: st)
  | .sipush n => some (3, L, am_i (Int16.ofInt n).toInt32 :: st)
  | .lconst n => some (1, L, am_l (Int64.ofNat n) :: st)
  | .dconst n => some (1, L, am_d (if (n : Nat) = 0 then FP.dconst0 else FP.dconst1) :: st)
  | .iload n => am_load 0 2 n L st
  | .iload_n n => am_load 0 1 n L st
  | .lload n => am_load 1 2 n L st
  | .lload_n n => am_load 1 1 n L st
  | .dload n => am_load 2 2 n L st
  | .dload_n n => am_load 2 1 n L st
  | .aload n => am_load 3 2 n L st
  | .aload_n n => am_load 3 1 n L st
  | .istore n => am_store 0 2 n L st
  | .istore_n n => am_store 0 1 n L st
  | .lstore n => am_store 1 2 n L st
  | .lstore_n n => am_store 1 1 n L st
  | .dstore n => am_store 2 2 n L st
  | .dstore_n n => am_store 2 1 n L st
  | .astore n => am_store 3 2 n L st
  | .astore_n n => am_store 3 1 n L st
  | .iinc n k => match L.getD n none with
    | some (.inl x) => if n < L.length then some (3, am_stv L n (am_i (x + Int32.ofInt k)), st) else none
    | _ => none
  | .iadd => am_ii (fun x y => x + y) L st
  | .isub => am_ii (fun x y => x - y) L st
  | .imul => am_ii (fun x y => x * y) L st
  | .iand => am_ii (fun x y => x &&& y) L st
  | .ior => am_ii (fun x y => x ||| y) L st
  | .ixor => am_ii (fun x y => x ^^^ y) L st
  | .ishl => am_ii (fun x y => x <<< (y &&& 31)) L st
  | .ishr => am_ii (fun x y => x >>> (y &&& 31)) L st
  | .iushr => am_ii (fun x y => (x.toUInt32 >>> (y.toUInt32 &&& Int32.toUInt32 31)).toInt32) L st
  | .ladd => am_ll (fun x y => x + y) L st
  | .lsub => am_ll (fun x y => x - y) L st
  | .lmul => am_ll (fun x y => x * y) L st
  | .land => am_ll (fun x y => x &&& y) L st
  | .lor => am_ll (fun x y => x ||| y) L st
  | .lxor => am_ll (fun x y => x ^^^ y) L st
  | .ineg => match st with
    | .inl x :: s => some (1, L, am_i (-x) :: s)
    | _ => none
  | .lneg => match st with
    | .inr (.inl x) :: s => some (1, L, am_l (-x) :: s)
    | _ => none
  | .i2l => match st with
    | .inl x :: s => some (1, L, am_l x.toInt64 :: s)
    | _ => none
  | .l2i => match st with
    | .inr (.inl x) :: s => some (1, L, am_i x.toInt32 :: s)
    | _ => none
  | .i2c => match st with
    | .inl x :: s => some (1, L, am_i (x.toUInt32 % 65536).toInt32 :: s)
    | _ => none
  | .i2b => match st with
    | .inl x :: s => some (1, L, am_i x.toInt8.toInt32 :: s)
    | _ => none
  | .i2d => match st with
    | .inl x :: s => some (1, L, am_d (FP.i2d x) :: s)
    | _ => none
  | .d2i => match st with
    | .inr (.inr (.inl x)) :: s => some (1, L, am_i (FP.d2i x) :: s)
    | _ => none
  | .lushr => match st with
    | .inl y :: .inr (.inl x) :: s => some (1, L, am_l (x.toUInt64 >>> (y.toInt64.toUInt64 &&& Int64.toUInt64 63)).toInt64 :: s)
    | _ => none
  | .lshl => match st with
    | .inl y :: .inr (.inl x) :: s => some (1, L, am_l (x <<< (y.toInt64 &&& 63)) :: s)
    | _ => none
  | .lcmp => match st with
    | .inr (.inl y) :: .inr (.inl x) :: s => some (1, L, am_i (lg_cmp x y) :: s)
    | _ => none
  | .dcmp op => match st with
    | .inr (.inr (.inl y)) :: .inr (.inr (.inl x)) :: s => some (1, L, am_i (Op.cmpValue (FP.dcmp x y) op) :: s)
    | _ => none
  | .dup => match st with
    | v :: s => if am_cat v = 1 then some (1, L, v :: v :: s) else none
    | _ => none
  | .pop => match st with
    | v :: s => if am_cat v = 1 then some (1, L, s) else none
    | _ => none
  | .dup_x1 => match st with
    | v :: w :: s => if am_cat v = 1 then (if am_cat w = 1 then some (1, L, v :: w :: v :: s) else none) else none
    | _ => none
  | _ => none
/-- the locals as the kit lists them -/
def am_lv (g : Nat → Nat) : Nat → am_L → List (Nat × Value)
  | _, [] => []
  | k, none :: L => am_lv g (k + 1) L
  | k, some v :: L => (k, am_re g v) :: am_lv g (k + 1) L
theorem am_lv_mem {g : Nat → Nat} {q : Nat × Value} : ∀ {k : Nat} {L : am_L}, q ∈ am_lv g k L ↔ ∃ (i : Nat) (v : am_V), L[i]? = some (some v) ∧ q = (k + i, am_re g v) := by
  intro k L
  induction L generalizing k with
  | nil => simp [am_lv]
  | cons o L ih =>
    cases o with
    | none =>
      rw [am_lv, ih]
      constructor
      · rintro ⟨i, v, h, rfl⟩
        exact ⟨i + 1, v, by simpa using h, by simp; omega⟩
      · rintro ⟨i, v, h, rfl⟩
        cases i with
        | zero => simp at h
        | succ i => exact ⟨i, v, by simpa using h, by simp; omega⟩
    | some w =>
      rw [am_lv, List.mem_cons, ih]
      constructor
      · rintro (rfl | ⟨i, v, h, rfl⟩)
        · exact ⟨0, w, by simp, by simp⟩
        · exact ⟨i + 1, v, by simpa using h, by simp; omega⟩
      · rintro ⟨i, v, h, rfl⟩
        cases i with
        | zero =>
          left
          have : w = v := by simpa using h
          simp [this]
        | succ i => right; exact ⟨i, v, by simpa using h, by simp; omega⟩
def am_LR (g : Nat → Nat) (n : Nat) (ls : Array Slot) (L : am_L) : Prop := L.length = n ∧ lv_has ls n (am_lv g 0 L)
theorem am_LR.at {g : Nat → Nat} {n : Nat} {ls : Array Slot} {L : am_L} (h : am_LR g n ls L) {i : Nat} {v : am_V} (hi : L.getD i none = some v) : ls[i]? = some (.val (am_re g v)) := by
  have hv : L[i]? = some (some v) := by
    rw [List.getD_eq_getElem?_getD] at hi
    cases h9 : L[i]? with
    | none => rw [h9] at hi; cases hi
    | some o => rw [h9] at hi; cases hi; rfl
  have := h.2.2.2 (i, am_re g v) (am_lv_mem.mpr ⟨i, v, hv, by simp⟩)
  exact this
theorem am_cl_len (L : am_L) (i : Nat) : (am_cl L i).length = L.length := by
  unfold am_cl
  split
  · rfl
  · split
    · rfl
    · split <;> simp
theorem am_cl_at {L : am_L} {i j : Nat} {w : am_V} (h : (am_cl L i)[j]? = some (some w)) : L[j]? = some (some w) ∧ ¬ (j + 1 = i ∧ am_cat w = 2) := by
  unfold am_cl at h
  split at h
  · exact ⟨h, by omega⟩
  · rename_i k
    split at h
    · rename_i hk
      refine ⟨h, fun q => ?_⟩
      have : j = k := by omega
      subst this
      rw [List.getD_eq_getElem?_getD, h] at hk
      cases hk
    · rename_i v hk
      split at h
      · rename_i hc
        by_cases e : k = j
        · subst e
          rw [List.getElem?_set_self'] at h
          cases h9 : L[k]? with
          | none => rw [h9] at h; cases h
          | some o => rw [h9] at h; cases h
        · rw [List.getElem?_set_ne e] at h
          exact ⟨h, by omega⟩
      · rename_i hc
        refine ⟨h, fun q => ?_⟩
        have : j = k := by omega
        subst this
        rw [List.getD_eq_getElem?_getD, h] at hk
        cases hk
        exact hc q.2
theorem am_stv_len (L : am_L) (i : Nat) (v : am_V) : (am_stv L i v).length = L.length := by
  unfold am_stv
  split <;> simp [am_cl_len]
/-- storing: the locals stay in step -/
theorem am_LR.store {g : Nat → Nat} {n : Nat} {ls : Array Slot} {L : am_L} (h : am_LR g n ls L) {i : Nat} {v : am_V} (hi : i + am_cat v ≤ n) :
    ∃ ls', storeLocals ls i (am_re g v) = some ls' ∧ am_LR g n ls' (am_stv L i v) := by
  obtain ⟨hn, hl⟩ := h
  by_cases hc : am_cat v = 2
  · obtain ⟨ls', e, h1⟩ := lv_store2 (v := am_re g v) hl (i := i) (by omega) (by rw [am_cat_re]; exact hc)
    refine ⟨ls', e, by rw [am_stv_len]; exact hn, h1.1, h1.2.1, fun q hq => h1.2.2 q ?_⟩
    obtain ⟨j, w, hw, rfl⟩ := am_lv_mem.mp hq
    unfold am_stv at hw
    rw [if_pos hc] at hw
    have hj1 : j ≠ i + 1 := by
      intro e1
      subst e1
      rw [List.getElem?_set_self'] at hw
      cases h9 : ((am_cl L i).set i (some v))[i + 1]? with
      | none => rw [h9] at hw; cases hw
      | some o => rw [h9] at hw; cases hw
    rw [List.getElem?_set_ne (fun q => hj1 q.symm)] at hw
    by_cases hj : j = i
    · subst hj
      rw [List.getElem?_set_self'] at hw
      cases h9 : (am_cl L j)[j]? with
      | none => rw [h9] at hw; cases hw
      | some o =>
        rw [h9] at hw
        cases hw
        simp
    · rw [List.getElem?_set_ne (fun q => hj q.symm)] at hw
      obtain ⟨a1, a2⟩ := am_cl_at hw
      refine List.mem_cons_of_mem _ (List.mem_filter.mpr ⟨am_lv_mem.mpr ⟨j, w, a1, rfl⟩, ?_⟩)
      simp only [Nat.zero_add, am_cat_re]
      simp [hj, hj1]
      intro h2
      exact fun h3 => a2 ⟨h2, h3⟩
  · have hc1 : am_cat v = 1 := by rcases v with x | x | x | x <;> simp [am_cat] at hc ⊢
    obtain ⟨ls', e, h1⟩ := lv_store1 (v := am_re g v) hl (i := i) (by omega) (by rw [am_cat_re]; exact hc1)
    refine ⟨ls', e, by rw [am_stv_len]; exact hn, h1.1, h1.2.1, fun q hq => h1.2.2 q ?_⟩
    obtain ⟨j, w, hw, rfl⟩ := am_lv_mem.mp hq
    unfold am_stv at hw
    rw [if_neg hc] at hw
    by_cases hj : j = i
    · subst hj
      rw [List.getElem?_set_self'] at hw
      cases h9 : (am_cl L j)[j]? with
      | none => rw [h9] at hw; cases hw
      | some o =>
        rw [h9] at hw
        cases hw
        simp
    · rw [List.getElem?_set_ne (fun q => hj q.symm)] at hw
      obtain ⟨a1, a2⟩ := am_cl_at hw
      refine List.mem_cons_of_mem _ (List.mem_filter.mpr ⟨am_lv_mem.mpr ⟨j, w, a1, rfl⟩, ?_⟩)
      simp only [Nat.zero_add, am_cat_re]
      simp [hj]
      intro h2
      exact fun h3 => a2 ⟨h2, h3⟩
end
section
/-! THE ABSTRACT MACHINE, 2: the pure instructions are the machine's -/
section AmPure
variable {p : Program} {l : Launch} {e : Env} {R : Room} {s : State} {m : MethodId} {args : Array Value} {below : List Frame} {meth : Method} {c : Code} {H : Heap} {locs : List Loc} {cells slots : Nat} {Q : State → Prop}
variable {cc : ByteArray} {pc : Nat} {ls ls' : Array Slot} {rest : List Value}
theorem am_w_istore (hexec : p.tables.exec = Jvm.exec) (hb : c.code = cc) {i : Nat} {x : Int32} (hdg : decode cc pc = .ok (.istore i, 2)) (e' : storeLocals ls i (.int x) = some ls') (k : W p l e R s m args below meth c H locs cells slots Q (F0 m (pc + 2) ls' rest)) : W p l e R s m args below meth c H locs cells slots Q (F0 m pc ls (.int x :: rest)) := by
  intro T hT X
  obtain ⟨t, a, b⟩ := k T hT X
  refine ⟨t, ?_, b⟩
  jvm_step X.here [X.here.top, ↓top_set X.here.top, hexec, hb, hdg, e']
  exact a
theorem am_w_istore_n (hexec : p.tables.exec = Jvm.exec) (hb : c.code = cc) {i : Fin 4} {x : Int32} (hdg : decode cc pc = .ok (.istore_n i, 1)) (e' : storeLocals ls i (.int x) = some ls') (k : W p l e R s m args below meth c H locs cells slots Q (F0 m (pc + 1) ls' rest)) : W p l e R s m args below meth c H locs cells slots Q (F0 m pc ls (.int x :: rest)) := by
  intro T hT X
  obtain ⟨t, a, b⟩ := k T hT X
  refine ⟨t, ?_, b⟩
  jvm_step X.here [X.here.top, ↓top_set X.here.top, hexec, hb, hdg, e']
  exact a
theorem am_w_lstore (hexec : p.tables.exec = Jvm.exec) (hb : c.code = cc) {i : Nat} {x : Int64} (hdg : decode cc pc = .ok (.lstore i, 2)) (e' : storeLocals ls i (.long x) = some ls') (k : W p l e R s m args below meth c H locs cells slots Q (F0 m (pc + 2) ls' rest)) : W p l e R s m args below meth c H locs cells slots Q (F0 m pc ls (.long x :: rest)) := by
  intro T hT X
  obtain ⟨t, a, b⟩ := k T hT X
  refine ⟨t, ?_, b⟩
  jvm_step X.here [X.here.top, ↓top_set X.here.top, hexec, hb, hdg, e']
  exact a
theorem am_w_lstore_n (hexec : p.tables.exec = Jvm.exec) (hb : c.code = cc) {i : Fin 4} {x : Int64} (hdg : decode cc pc = .ok (.lstore_n i, 1)) (e' : storeLocals ls i (.long x) = some ls') (k : W p l e R s m args below meth c H locs cells slots Q (F0 m (pc + 1) ls' rest)) : W p l e R s m args below meth c H locs cells slots Q (F0 m pc ls (.long x :: rest)) := by
  intro T hT X
  obtain ⟨t, a, b⟩ := k T hT X
  refine ⟨t, ?_, b⟩
  jvm_step X.here [X.here.top, ↓top_set X.here.top, hexec, hb, hdg, e']
  exact a
theorem am_w_dstore (hexec : p.tables.exec = Jvm.exec) (hb : c.code = cc) {i : Nat} {x : UInt64} (hdg : decode cc pc = .ok (.dstore i, 2)) (e' : storeLocals ls i (.double x) = some ls') (k : W p l e R s m args below meth c H locs cells slots Q (F0 m (pc + 2) ls' rest)) : W p l e R s m args below meth c H locs cells slots Q (F0 m pc ls (.double x :: rest)) := by
  intro T hT X
  obtain ⟨t, a, b⟩ := k T hT X
  refine ⟨t, ?_, b⟩
  jvm_step X.here [X.here.top, ↓top_set X.here.top, hexec, hb, hdg, e']
  exact a
theorem am_w_dstore_n (hexec : p.tables.exec = Jvm.exec) (hb : c.code = cc) {i : Fin 4} {x : UInt64} (hdg : decode cc pc = .ok (.dstore_n i, 1)) (e' : storeLocals ls i (.double x) = some ls') (k : W p l e R s m args below meth c H locs cells slots Q (F0 m (pc + 1) ls' rest)) : W p l e R s m args below meth c H locs cells slots Q (F0 m pc ls (.double x :: rest)) := by
  intro T hT X
  obtain ⟨t, a, b⟩ := k T hT X
  refine ⟨t, ?_, b⟩
  jvm_step X.here [X.here.top, ↓top_set X.here.top, hexec, hb, hdg, e']
  exact a
theorem am_w_astore (hexec : p.tables.exec = Jvm.exec) (hb : c.code = cc) {i : Nat} {v : Value} (hv : v = .null ∨ ∃ a, v = .ref a) (hdg : decode cc pc = .ok (.astore i, 2)) (e' : storeLocals ls i v = some ls') (k : W p l e R s m args below meth c H locs cells slots Q (F0 m (pc + 2) ls' rest)) : W p l e R s m args below meth c H locs cells slots Q (F0 m pc ls (v :: rest)) := by
  intro T hT X
  obtain ⟨t, a, b⟩ := k T hT X
  refine ⟨t, ?_, b⟩
  rcases hv with rfl | ⟨y, rfl⟩
  · jvm_step X.here [X.here.top, ↓top_set X.here.top, hexec, hb, hdg, e']
    exact a
  · jvm_step X.here [X.here.top, ↓top_set X.here.top, hexec, hb, hdg, e']
    exact a
theorem am_w_astore_n (hexec : p.tables.exec = Jvm.exec) (hb : c.code = cc) {i : Fin 4} {v : Value} (hv : v = .null ∨ ∃ a, v = .ref a) (hdg : decode cc pc = .ok (.astore_n i, 1)) (e' : storeLocals ls i v = some ls') (k : W p l e R s m args below meth c H locs cells slots Q (F0 m (pc + 1) ls' rest)) : W p l e R s m args below meth c H locs cells slots Q (F0 m pc ls (v :: rest)) := by
  intro T hT X
  obtain ⟨t, a, b⟩ := k T hT X
  refine ⟨t, ?_, b⟩
  rcases hv with rfl | ⟨y, rfl⟩
  · jvm_step X.here [X.here.top, ↓top_set X.here.top, hexec, hb, hdg, e']
    exact a
  · jvm_step X.here [X.here.top, ↓top_set X.here.top, hexec, hb, hdg, e']
    exact a
theorem am_w_iinc (hexec : p.tables.exec = Jvm.exec) (hb : c.code = cc) {i : Nat} {n : Int} {x : Int32} (hdg : decode cc pc = .ok (.iinc i n, 3)) (hl : ls[i]? = some (.val (.int x))) (e' : storeLocals ls i (.int (x + Int32.ofInt n)) = some ls') (k : W p l e R s m args below meth c H locs cells slots Q (F0 m (pc + 3) ls' rest)) : W p l e R s m args below meth c H locs cells slots Q (F0 m pc ls rest) := by
  intro T hT X
  obtain ⟨t, a, b⟩ := k T hT X
  refine ⟨t, ?_, b⟩
  jvm_step X.here [X.here.top, ↓top_set X.here.top, hexec, hb, hdg, hl, e']
  exact a
theorem am_ref_re {g : Nat → Nat} {v : am_V} (h : am_is 3 v = true) : am_re g v = .null ∨ ∃ a, am_re g v = .ref a := by
  rcases v with x | x | x | (_ | x)
  · cases h
  · cases h
  · cases h
  · exact Or.inl rfl
  · exact Or.inr ⟨_, rfl⟩
theorem am_load_eq {k len i len' : Nat} {L L' : am_L} {st st' : List am_V} (h : am_load k len i L st = some (len', L', st')) : ∃ v, L.getD i none = some v ∧ am_is k v = true ∧ len' = len ∧ L' = L ∧ st' = v :: st := by
  unfold am_load at h
  split at h
  · cases h
  · rename_i v hv
    split at h
    · rename_i hk
      cases h
      exact ⟨v, hv, hk, rfl, rfl, rfl⟩
    · cases h
theorem am_store_eq {k len i len' : Nat} {L L' : am_L} {st st' : List am_V} (h : am_store k len i L st = some (len', L', st')) : ∃ v, st = v :: st' ∧ am_is k v = true ∧ i + am_cat v ≤ L.length ∧ len' = len ∧ L' = am_stv L i v := by
  unfold am_store at h
  split at h
  · cases h
  · split at h
    · rename_i hk
      split at h
      · rename_i hl
        cases h
        exact ⟨_, rfl, hk, hl, rfl, rfl⟩
      · cases h
    · cases h
theorem am_ii_eq {f : Int32 → Int32 → Int32} {len' : Nat} {L L' : am_L} {st st' : List am_V} (h : am_ii f L st = some (len', L', st')) : ∃ x y s, st = am_i y :: am_i x :: s ∧ len' = 1 ∧ L' = L ∧ st' = am_i (f x y) :: s := by
  unfold am_ii at h
  split at h
  · cases h
    exact ⟨_, _, _, rfl, rfl, rfl, rfl⟩
  · cases h
theorem am_ll_eq {f : Int64 → Int64 → Int64} {len' : Nat} {L L' : am_L} {st st' : List am_V} (h : am_ll f L st = some (len', L', st')) : ∃ x y s, st = am_l y :: am_l x :: s ∧ len' = 1 ∧ L' = L ∧ st' = am_l (f x y) :: s := by
  unfold am_ll at h
  split at h
  · cases h
    exact ⟨_, _, _, rfl, rfl, rfl, rfl⟩
  · cases h
theorem am_is_int {v : am_V} (h : am_is 0 v = true) : ∃ x, v = am_i x := by
  rcases v with x | x | x | x
  · exact ⟨x, rfl⟩
  all_goals cases h
theorem am_is_long {v : am_V} (h : am_is 1 v = true) : ∃ x, v = am_l x := by
  rcases v with x | x | x | x
  · cases h
  · exact ⟨x, rfl⟩
  all_goals cases h
theorem am_is_dbl {v : am_V} (h : am_is 2 v = true) : ∃ x, v = am_d x := by
  rcases v with x | x | x | x
  · cases h
  · cases h
  · exact ⟨x, rfl⟩
  · cases h
set_option maxHeartbeats 4000000 in
/-- a pure instruction -/
theorem am_pure (hexec : p.tables.exec = Jvm.exec) (hb : c.code = cc) {g : Nat → Nat} {nL : Nat} {i : Instr} {len : Nat} {L L' : am_L} {st st' : List am_V} (hp : am_p i L st = some (len, L', st')) (hdg : decode cc pc = .ok (i, len)) (hL : am_LR g nL ls L)
    (k : ∀ ls', am_LR g nL ls' L' → W p l e R s m args below meth c H locs cells slots Q (F0 m (pc + len) ls' (st'.map (am_re g)))) : W p l e R s m args below meth c H locs cells slots Q (F0 m pc ls (st.map (am_re g))) := by
  cases i
  case aconst_null => cases hp; exact lv_null hexec hb hdg (k ls hL)
  case iconst => cases hp; exact lv_iconst hexec hb hdg rfl (k ls hL)
  case bipush => cases hp; exact lv_bipush hexec hb hdg rfl (k ls hL)
  case sipush => cases hp; exact lv_sipush hexec hb hdg rfl (k ls hL)
  case lconst => cases hp; exact lv_lconst hexec hb hdg rfl (k ls hL)
  case dconst n =>
    cases hp
    match n, hdg, k with
    | 0, hdg, k => exact lv_dconst0 hexec hb hdg (k ls hL)
    | 1, hdg, k => exact lv_dconst1 hexec hb hdg (k ls hL)
  case iload n =>
    obtain ⟨v, h1, h2, rfl, rfl, rfl⟩ := am_load_eq hp
    obtain ⟨x, rfl⟩ := am_is_int h2
    exact lv_iload hexec hb hdg (hL.at h1) (k ls hL)
  case iload_n n =>
    obtain ⟨v, h1, h2, rfl, rfl, rfl⟩ := am_load_eq hp
    obtain ⟨x, rfl⟩ := am_is_int h2
    exact lv_iload_n hexec hb hdg rfl (hL.at h1) (k ls hL)
  case lload n =>
    obtain ⟨v, h1, h2, rfl, rfl, rfl⟩ := am_load_eq hp
    obtain ⟨x, rfl⟩ := am_is_long h2
    exact lv_lload hexec hb hdg (hL.at h1) (k ls hL)
  case lload_n n =>
    obtain ⟨v, h1, h2, rfl, rfl, rfl⟩ := am_load_eq hp
    obtain ⟨x, rfl⟩ := am_is_long h2
    exact lv_lload_n hexec hb hdg rfl (hL.at h1) (k ls hL)
  case dload n =>
    obtain ⟨v, h1, h2, rfl, rfl, rfl⟩ := am_load_eq hp
    obtain ⟨x, rfl⟩ := am_is_dbl h2
    exact lv_dload hexec hb hdg (hL.at h1) (k ls hL)
  case dload_n n =>
    obtain ⟨v, h1, h2, rfl, rfl, rfl⟩ := am_load_eq hp
    obtain ⟨x, rfl⟩ := am_is_dbl h2
    exact lv_dload_n hexec hb hdg rfl (hL.at h1) (k ls hL)
  case aload n =>
    obtain ⟨v, h1, h2, rfl, rfl, rfl⟩ := am_load_eq hp
    rcases v with x | x | x | (_ | x)
    · cases h2
    · cases h2
    · cases h2
    · exact lv_aloadN hexec hb hdg (hL.at h1) (k ls hL)
    · exact lv_aload hexec hb hdg (hL.at h1) (k ls hL)
  case aload_n n =>
    obtain ⟨v, h1, h2, rfl, rfl, rfl⟩ := am_load_eq hp
    rcases v with x | x | x | (_ | x)
    · cases h2
    · cases h2
    · cases h2
    · exact lv_aload_nN hexec hb hdg rfl (hL.at h1) (k ls hL)
    · exact lv_aload_n hexec hb hdg rfl (hL.at h1) (k ls hL)
  case istore n =>
    obtain ⟨v, rfl, h2, h3, rfl, rfl⟩ := am_store_eq hp
    obtain ⟨x, rfl⟩ := am_is_int h2
    obtain ⟨ls', e', h'⟩ := hL.store (i := n) (v := am_i x) (by rw [← hL.1]; exact h3)
    exact am_w_istore hexec hb hdg e' (k ls' h')
  case istore_n n =>
    obtain ⟨v, rfl, h2, h3, rfl, rfl⟩ := am_store_eq hp
    obtain ⟨x, rfl⟩ := am_is_int h2
    obtain ⟨ls', e', h'⟩ := hL.store (i := n) (v := am_i x) (by rw [← hL.1]; exact h3)
    exact am_w_istore_n hexec hb hdg e' (k ls' h')
  case lstore n =>
    obtain ⟨v, rfl, h2, h3, rfl, rfl⟩ := am_store_eq hp
    obtain ⟨x, rfl⟩ := am_is_long h2
    obtain ⟨ls', e', h'⟩ := hL.store (i := n) (v := am_l x) (by rw [← hL.1]; exact h3)
    exact am_w_lstore hexec hb hdg e' (k ls' h')
  case lstore_n n =>
    obtain ⟨v, rfl, h2, h3, rfl, rfl⟩ := am_store_eq hp
    obtain ⟨x, rfl⟩ := am_is_long h2
    obtain ⟨ls', e', h'⟩ := hL.store (i := n) (v := am_l x) (by rw [← hL.1]; exact h3)
    exact am_w_lstore_n hexec hb hdg e' (k ls' h')
  case dstore n =>
    obtain ⟨v, rfl, h2, h3, rfl, rfl⟩ := am_store_eq hp
    obtain ⟨x, rfl⟩ := am_is_dbl h2
    obtain ⟨ls', e', h'⟩ := hL.store (i := n) (v := am_d x) (by rw [← hL.1]; exact h3)
    exact am_w_dstore hexec hb hdg e' (k ls' h')
  case dstore_n n =>
    obtain ⟨v, rfl, h2, h3, rfl, rfl⟩ := am_store_eq hp
    obtain ⟨x, rfl⟩ := am_is_dbl h2
    obtain ⟨ls', e', h'⟩ := hL.store (i := n) (v := am_d x) (by rw [← hL.1]; exact h3)
    exact am_w_dstore_n hexec hb hdg e' (k ls' h')
  case astore n =>
    obtain ⟨v, rfl, h2, h3, rfl, rfl⟩ := am_store_eq hp
    obtain ⟨ls', e', h'⟩ := hL.store (i := n) (v := v) (by rw [← hL.1]; exact h3)
    exact am_w_astore hexec hb (am_ref_re h2) hdg e' (k ls' h')
  case astore_n n =>
    obtain ⟨v, rfl, h2, h3, rfl, rfl⟩ := am_store_eq hp
    obtain ⟨ls', e', h'⟩ := hL.store (i := n) (v := v) (by rw [← hL.1]; exact h3)
    exact am_w_astore_n hexec hb (am_ref_re h2) hdg e' (k ls' h')
  case iinc n d =>
    simp only [am_p] at hp
    split at hp
    · rename_i x hx
      split at hp
      · rename_i hn
        cases hp
        obtain ⟨ls', e', h'⟩ := hL.store (i := n) (v := am_i (x + Int32.ofInt d)) (by rw [← hL.1]; exact hn)
        exact am_w_iinc hexec hb hdg (hL.at hx) e' (k ls' h')
      · cases hp
    · cases hp
  case iadd => obtain ⟨x, y, s1, rfl, rfl, rfl, rfl⟩ := am_ii_eq hp; exact lv_iadd hexec hb hdg (k ls hL)
  case isub => obtain ⟨x, y, s1, rfl, rfl, rfl, rfl⟩ := am_ii_eq hp; exact lv_isub hexec hb hdg (k ls hL)
  case imul => obtain ⟨x, y, s1, rfl, rfl, rfl, rfl⟩ := am_ii_eq hp; exact lv_imul hexec hb hdg (k ls hL)
  case iand => obtain ⟨x, y, s1, rfl, rfl, rfl, rfl⟩ := am_ii_eq hp; exact lv_iand hexec hb hdg (k ls hL)
  case ior => obtain ⟨x, y, s1, rfl, rfl, rfl, rfl⟩ := am_ii_eq hp; exact lv_ior hexec hb hdg (k ls hL)
  case ixor => obtain ⟨x, y, s1, rfl, rfl, rfl, rfl⟩ := am_ii_eq hp; exact lv_ixor hexec hb hdg (k ls hL)
  case ishl => obtain ⟨x, y, s1, rfl, rfl, rfl, rfl⟩ := am_ii_eq hp; exact lv_ishl hexec hb hdg (k ls hL)
  case ishr => obtain ⟨x, y, s1, rfl, rfl, rfl, rfl⟩ := am_ii_eq hp; exact lv_ishr hexec hb hdg (k ls hL)
  case iushr => obtain ⟨x, y, s1, rfl, rfl, rfl, rfl⟩ := am_ii_eq hp; exact lv_iushr hexec hb hdg rfl (k ls hL)
  case ladd => obtain ⟨x, y, s1, rfl, rfl, rfl, rfl⟩ := am_ll_eq hp; exact lv_ladd hexec hb hdg (k ls hL)
  case lsub => obtain ⟨x, y, s1, rfl, rfl, rfl, rfl⟩ := am_ll_eq hp; exact lv_lsub hexec hb hdg (k ls hL)
  case lmul => obtain ⟨x, y, s1, rfl, rfl, rfl, rfl⟩ := am_ll_eq hp; exact lv_lmul hexec hb hdg (k ls hL)
  case land => obtain ⟨x, y, s1, rfl, rfl, rfl, rfl⟩ := am_ll_eq hp; exact lv_land hexec hb hdg (k ls hL)
  case lor => obtain ⟨x, y, s1, rfl, rfl, rfl, rfl⟩ := am_ll_eq hp; exact lv_lor hexec hb hdg (k ls hL)
  case lxor => obtain ⟨x, y, s1, rfl, rfl, rfl, rfl⟩ := am_ll_eq hp; exact lv_lxor hexec hb hdg (k ls hL)
  case ineg =>
    simp only [am_p] at hp
    split at hp
    · cases hp; exact lv_ineg hexec hb hdg (k ls hL)
    · cases hp
  case lneg =>
    simp only [am_p] at hp
    split at hp
    · cases hp; exact lv_lneg hexec hb hdg (k ls hL)
    · cases hp
  case i2l =>
    simp only [am_p] at hp
    split at hp
    · cases hp; exact lv_i2l hexec hb hdg rfl (k ls hL)
    · cases hp
  case l2i =>
    simp only [am_p] at hp
    split at hp
    · cases hp; exact lv_l2i hexec hb hdg rfl (k ls hL)
    · cases hp
  case i2c =>
    simp only [am_p] at hp
    split at hp
    · cases hp; exact lv_i2c hexec hb hdg rfl (k ls hL)
    · cases hp
  case i2b =>
    simp only [am_p] at hp
    split at hp
    · cases hp; exact lv_i2b hexec hb hdg rfl (k ls hL)
    · cases hp
  case i2d =>
    simp only [am_p] at hp
    split at hp
    · cases hp; exact lv_i2d hexec hb hdg (k ls hL)
    · cases hp
  case d2i =>
    simp only [am_p] at hp
    split at hp
    · cases hp; exact lv_d2i hexec hb hdg (k ls hL)
    · cases hp
  case lushr =>
    simp only [am_p] at hp
    split at hp
    · cases hp; exact lv_lushr hexec hb hdg rfl (k ls hL)
    · cases hp
  case lshl =>
    simp only [am_p] at hp
    split at hp
    · cases hp; exact lv_lshl hexec hb hdg rfl (k ls hL)
    · cases hp
  case lcmp =>
    simp only [am_p] at hp
    split at hp
    · cases hp; exact W.lcmp hexec hb hdg (k ls hL)
    · cases hp
  case dcmp op =>
    simp only [am_p] at hp
    split at hp
    · cases hp; exact lv_dcmp hexec hb hdg (k ls hL)
    · cases hp
  case dup =>
    simp only [am_p] at hp
    split at hp
    · rename_i v s1
      split at hp
      · rename_i hc
        cases hp
        exact lv_dup hexec hb hdg (by rw [am_cat_re]; exact hc) (k ls hL)
      · cases hp
    · cases hp
  case pop =>
    simp only [am_p] at hp
    split at hp
    · rename_i v s1
      split at hp
      · rename_i hc
        cases hp
        exact lv_pop hexec hb hdg (by rw [am_cat_re]; exact hc) (k ls hL)
      · cases hp
    · cases hp
  case dup_x1 =>
    simp only [am_p] at hp
    split at hp
    · rename_i v w s1
      split at hp
      · rename_i hc
        split at hp
        · rename_i hd
          cases hp
          exact lv_dup_x1 hexec hb hdg (by rw [am_cat_re]; exact hc) (by rw [am_cat_re]; exact hd) (k ls hL)
        · cases hp
      · cases hp
    · cases hp
  all_goals cases hp
end AmPure
end
