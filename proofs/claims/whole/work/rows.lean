section
-- ===== PART A: goes FIRST, ahead of the names: the tables' words, and 'selects' of the private methods out of them =====
/-- a private method of a class that the tables say can be made, by its rows of tables_1 -/
def lw_okq (q : MethodName × Nat) : Prop := (q.1.cls ≠ "java/lang/invoke/MethodHandle" ∧ q.1.cls ≠ "java/lang/invoke/VarHandle") ∧ Cond.instantiable q.1.cls q.2 ∈ tables_1 ∧ Cond.privateMethod q.1 ∈ tables_1 ∧ Cond.instanceMethod q.1 ∈ tables_1
theorem lw_p0 : lw_okq (⟨"PrintHouse", "refuseIfDown", "()V"⟩, 8) := ⟨⟨by decide +kernel, by decide +kernel⟩, List.mem_of_getElem? (i := 17) (by decide +kernel), List.mem_of_getElem? (i := 317) (by decide +kernel), List.mem_of_getElem? (i := 318) (by decide +kernel)⟩
theorem lw_p1 : lw_okq (⟨"java/lang/Throwable", "fillInStackTrace", "(I)Ljava/lang/Throwable;"⟩, 6) := ⟨⟨by decide +kernel, by decide +kernel⟩, List.mem_of_getElem? (i := 358) (by decide +kernel), List.mem_of_getElem? (i := 356) (by decide +kernel), List.mem_of_getElem? (i := 357) (by decide +kernel)⟩
theorem lw_p2 : lw_okq (⟨"PrintHouse$Message", "readGroups", "()Z"⟩, 11) := ⟨⟨by decide +kernel, by decide +kernel⟩, List.mem_of_getElem? (i := 43) (by decide +kernel), List.mem_of_getElem? (i := 410) (by decide +kernel), List.mem_of_getElem? (i := 411) (by decide +kernel)⟩
theorem lw_p3 : lw_okq (⟨"PrintHouse$Message", "readGroup", "()Z"⟩, 11) := ⟨⟨by decide +kernel, by decide +kernel⟩, List.mem_of_getElem? (i := 43) (by decide +kernel), List.mem_of_getElem? (i := 415) (by decide +kernel), List.mem_of_getElem? (i := 416) (by decide +kernel)⟩
theorem lw_p4 : lw_okq (⟨"PrintHouse$Message", "readAttribute", "()Z"⟩, 11) := ⟨⟨by decide +kernel, by decide +kernel⟩, List.mem_of_getElem? (i := 43) (by decide +kernel), List.mem_of_getElem? (i := 423) (by decide +kernel), List.mem_of_getElem? (i := 424) (by decide +kernel)⟩
theorem lw_p5 : lw_okq (⟨"PrintHouse$Message", "isLastNameTwice", "(I)Z"⟩, 11) := ⟨⟨by decide +kernel, by decide +kernel⟩, List.mem_of_getElem? (i := 43) (by decide +kernel), List.mem_of_getElem? (i := 438) (by decide +kernel), List.mem_of_getElem? (i := 439) (by decide +kernel)⟩
theorem lw_p6 : lw_okq (⟨"PrintHouse", "statusOfMessage", "()I"⟩, 8) := ⟨⟨by decide +kernel, by decide +kernel⟩, List.mem_of_getElem? (i := 17) (by decide +kernel), List.mem_of_getElem? (i := 442) (by decide +kernel), List.mem_of_getElem? (i := 443) (by decide +kernel)⟩
theorem lw_p7 : lw_okq (⟨"PrintHouse", "statusOfPrint", "()I"⟩, 8) := ⟨⟨by decide +kernel, by decide +kernel⟩, List.mem_of_getElem? (i := 17) (by decide +kernel), List.mem_of_getElem? (i := 450) (by decide +kernel), List.mem_of_getElem? (i := 451) (by decide +kernel)⟩
theorem lw_p8 : lw_okq (⟨"PrintHouse$Job", "setInteger", "(JI)Z"⟩, 10) := ⟨⟨by decide +kernel, by decide +kernel⟩, List.mem_of_getElem? (i := 101) (by decide +kernel), List.mem_of_getElem? (i := 466) (by decide +kernel), List.mem_of_getElem? (i := 467) (by decide +kernel)⟩
theorem lw_p9 : lw_okq (⟨"PrintHouse$Job", "setBoolean", "(JI)Z"⟩, 10) := ⟨⟨by decide +kernel, by decide +kernel⟩, List.mem_of_getElem? (i := 101) (by decide +kernel), List.mem_of_getElem? (i := 473) (by decide +kernel), List.mem_of_getElem? (i := 474) (by decide +kernel)⟩
theorem lw_p10 : lw_okq (⟨"PrintHouse$Job", "setSides", "(J)Z"⟩, 10) := ⟨⟨by decide +kernel, by decide +kernel⟩, List.mem_of_getElem? (i := 101) (by decide +kernel), List.mem_of_getElem? (i := 480) (by decide +kernel), List.mem_of_getElem? (i := 481) (by decide +kernel)⟩
theorem lw_p11 : lw_okq (⟨"PrintHouse$PageReader", "readRaster", "(LPrintHouse$Job;)Z"⟩, 2) := ⟨⟨by decide +kernel, by decide +kernel⟩, List.mem_of_getElem? (i := 88) (by decide +kernel), List.mem_of_getElem? (i := 494) (by decide +kernel), List.mem_of_getElem? (i := 495) (by decide +kernel)⟩
theorem lw_p12 : lw_okq (⟨"PrintHouse$PageReader", "readRow", "()Z"⟩, 2) := ⟨⟨by decide +kernel, by decide +kernel⟩, List.mem_of_getElem? (i := 88) (by decide +kernel), List.mem_of_getElem? (i := 498) (by decide +kernel), List.mem_of_getElem? (i := 499) (by decide +kernel)⟩
theorem lw_p13 : lw_okq (⟨"PrintHouse$PageReader", "keepRow", "(LPrintHouse$Job;II)V"⟩, 2) := ⟨⟨by decide +kernel, by decide +kernel⟩, List.mem_of_getElem? (i := 88) (by decide +kernel), List.mem_of_getElem? (i := 505) (by decide +kernel), List.mem_of_getElem? (i := 506) (by decide +kernel)⟩
theorem lw_p14 : lw_okq (⟨"PrintHouse$Message", "jobAttribute", "()I"⟩, 11) := ⟨⟨by decide +kernel, by decide +kernel⟩, List.mem_of_getElem? (i := 43) (by decide +kernel), List.mem_of_getElem? (i := 533) (by decide +kernel), List.mem_of_getElem? (i := 534) (by decide +kernel)⟩
theorem lw_p15 : lw_okq (⟨"PrintHouse", "statusOfJobRequest", "()I"⟩, 8) := ⟨⟨by decide +kernel, by decide +kernel⟩, List.mem_of_getElem? (i := 17) (by decide +kernel), List.mem_of_getElem? (i := 538) (by decide +kernel), List.mem_of_getElem? (i := 539) (by decide +kernel)⟩
def lw_privs_1 : List (MethodName × Nat) := [(⟨"PrintHouse", "refuseIfDown", "()V"⟩, 8), (⟨"java/lang/Throwable", "fillInStackTrace", "(I)Ljava/lang/Throwable;"⟩, 6), (⟨"PrintHouse$Message", "readGroups", "()Z"⟩, 11), (⟨"PrintHouse$Message", "readGroup", "()Z"⟩, 11), (⟨"PrintHouse$Message", "readAttribute", "()Z"⟩, 11), (⟨"PrintHouse$Message", "isLastNameTwice", "(I)Z"⟩, 11), (⟨"PrintHouse", "statusOfMessage", "()I"⟩, 8), (⟨"PrintHouse", "statusOfPrint", "()I"⟩, 8), (⟨"PrintHouse$Job", "setInteger", "(JI)Z"⟩, 10), (⟨"PrintHouse$Job", "setBoolean", "(JI)Z"⟩, 10), (⟨"PrintHouse$Job", "setSides", "(J)Z"⟩, 10), (⟨"PrintHouse$PageReader", "readRaster", "(LPrintHouse$Job;)Z"⟩, 2), (⟨"PrintHouse$PageReader", "readRow", "()Z"⟩, 2), (⟨"PrintHouse$PageReader", "keepRow", "(LPrintHouse$Job;II)V"⟩, 2), (⟨"PrintHouse$Message", "jobAttribute", "()I"⟩, 11), (⟨"PrintHouse", "statusOfJobRequest", "()I"⟩, 8)]
theorem lw_r1 : ∀ q ∈ lw_privs_1, lw_okq q := List.forall_mem_cons.mpr ⟨lw_p0, List.forall_mem_cons.mpr ⟨lw_p1, List.forall_mem_cons.mpr ⟨lw_p2, List.forall_mem_cons.mpr ⟨lw_p3, List.forall_mem_cons.mpr ⟨lw_p4, List.forall_mem_cons.mpr ⟨lw_p5, List.forall_mem_cons.mpr ⟨lw_p6, List.forall_mem_cons.mpr ⟨lw_p7, List.forall_mem_cons.mpr ⟨lw_p8, List.forall_mem_cons.mpr ⟨lw_p9, List.forall_mem_cons.mpr ⟨lw_p10, List.forall_mem_cons.mpr ⟨lw_p11, List.forall_mem_cons.mpr ⟨lw_p12, List.forall_mem_cons.mpr ⟨lw_p13, List.forall_mem_cons.mpr ⟨lw_p14, List.forall_mem_cons.mpr ⟨lw_p15, fun _ h => absurd h List.not_mem_nil⟩⟩⟩⟩⟩⟩⟩⟩⟩⟩⟩⟩⟩⟩⟩⟩
theorem lw_p16 : lw_okq (⟨"PrintHouse", "carryOut", "()Z"⟩, 8) := ⟨⟨by decide +kernel, by decide +kernel⟩, List.mem_of_getElem? (i := 17) (by decide +kernel), List.mem_of_getElem? (i := 554) (by decide +kernel), List.mem_of_getElem? (i := 555) (by decide +kernel)⟩
theorem lw_p17 : lw_okq (⟨"PrintHouse$Spool", "isLogged", "(I)Z"⟩, 4) := ⟨⟨by decide +kernel, by decide +kernel⟩, List.mem_of_getElem? (i := 177) (by decide +kernel), List.mem_of_getElem? (i := 562) (by decide +kernel), List.mem_of_getElem? (i := 563) (by decide +kernel)⟩
theorem lw_p18 : lw_okq (⟨"PrintHouse$Spool", "isLogRenewed", "()Z"⟩, 4) := ⟨⟨by decide +kernel, by decide +kernel⟩, List.mem_of_getElem? (i := 177) (by decide +kernel), List.mem_of_getElem? (i := 566) (by decide +kernel), List.mem_of_getElem? (i := 567) (by decide +kernel)⟩
theorem lw_p19 : lw_okq (⟨"PrintHouse$Spool", "forgetEnded", "()V"⟩, 4) := ⟨⟨by decide +kernel, by decide +kernel⟩, List.mem_of_getElem? (i := 177) (by decide +kernel), List.mem_of_getElem? (i := 575) (by decide +kernel), List.mem_of_getElem? (i := 576) (by decide +kernel)⟩
theorem lw_p20 : lw_okq (⟨"PrintHouse", "writeReply", "(I)V"⟩, 8) := ⟨⟨by decide +kernel, by decide +kernel⟩, List.mem_of_getElem? (i := 17) (by decide +kernel), List.mem_of_getElem? (i := 591) (by decide +kernel), List.mem_of_getElem? (i := 592) (by decide +kernel)⟩
theorem lw_p21 : lw_okq (⟨"PrintHouse", "tellOfAll", "()V"⟩, 8) := ⟨⟨by decide +kernel, by decide +kernel⟩, List.mem_of_getElem? (i := 17) (by decide +kernel), List.mem_of_getElem? (i := 600) (by decide +kernel), List.mem_of_getElem? (i := 601) (by decide +kernel)⟩
theorem lw_p22 : lw_okq (⟨"PrintHouse", "tellOf", "(LPrintHouse$Job;)V"⟩, 8) := ⟨⟨by decide +kernel, by decide +kernel⟩, List.mem_of_getElem? (i := 17) (by decide +kernel), List.mem_of_getElem? (i := 611) (by decide +kernel), List.mem_of_getElem? (i := 612) (by decide +kernel)⟩
theorem lw_p23 : lw_okq (⟨"PrintHouse", "goneDown", "()I"⟩, 8) := ⟨⟨by decide +kernel, by decide +kernel⟩, List.mem_of_getElem? (i := 17) (by decide +kernel), List.mem_of_getElem? (i := 635) (by decide +kernel), List.mem_of_getElem? (i := 636) (by decide +kernel)⟩
theorem lw_p24 : lw_okq (⟨"PrintHouse$Press", "layOut", "(LPrintHouse$Job;)V"⟩, 8) := ⟨⟨by decide +kernel, by decide +kernel⟩, List.mem_of_getElem? (i := 201) (by decide +kernel), List.mem_of_getElem? (i := 658) (by decide +kernel), List.mem_of_getElem? (i := 659) (by decide +kernel)⟩
theorem lw_p25 : lw_okq (⟨"PrintHouse$Press", "cellWidth", "()I"⟩, 8) := ⟨⟨by decide +kernel, by decide +kernel⟩, List.mem_of_getElem? (i := 201) (by decide +kernel), List.mem_of_getElem? (i := 662) (by decide +kernel), List.mem_of_getElem? (i := 663) (by decide +kernel)⟩
theorem lw_p26 : lw_okq (⟨"PrintHouse$Press", "cellHeight", "()I"⟩, 8) := ⟨⟨by decide +kernel, by decide +kernel⟩, List.mem_of_getElem? (i := 201) (by decide +kernel), List.mem_of_getElem? (i := 666) (by decide +kernel), List.mem_of_getElem? (i := 667) (by decide +kernel)⟩
theorem lw_p27 : lw_okq (⟨"PrintHouse$Press", "fillSide", "(LPrintHouse$Job;I)V"⟩, 8) := ⟨⟨by decide +kernel, by decide +kernel⟩, List.mem_of_getElem? (i := 201) (by decide +kernel), List.mem_of_getElem? (i := 676) (by decide +kernel), List.mem_of_getElem? (i := 677) (by decide +kernel)⟩
theorem lw_p28 : lw_okq (⟨"PrintHouse$Press", "fillCell", "(LPrintHouse$Job;III)V"⟩, 8) := ⟨⟨by decide +kernel, by decide +kernel⟩, List.mem_of_getElem? (i := 201) (by decide +kernel), List.mem_of_getElem? (i := 696) (by decide +kernel), List.mem_of_getElem? (i := 697) (by decide +kernel)⟩
theorem lw_p29 : lw_okq (⟨"PrintHouse$Press", "turnSideByHalf", "()V"⟩, 8) := ⟨⟨by decide +kernel, by decide +kernel⟩, List.mem_of_getElem? (i := 201) (by decide +kernel), List.mem_of_getElem? (i := 708) (by decide +kernel), List.mem_of_getElem? (i := 709) (by decide +kernel)⟩
theorem lw_p30 : lw_okq (⟨"PrintHouse$Press", "writeSide", "()V"⟩, 8) := ⟨⟨by decide +kernel, by decide +kernel⟩, List.mem_of_getElem? (i := 201) (by decide +kernel), List.mem_of_getElem? (i := 712) (by decide +kernel), List.mem_of_getElem? (i := 713) (by decide +kernel)⟩
theorem lw_p31 : lw_okq (⟨"PrintHouse$Press", "equalRows", "(I)I"⟩, 8) := ⟨⟨by decide +kernel, by decide +kernel⟩, List.mem_of_getElem? (i := 201) (by decide +kernel), List.mem_of_getElem? (i := 716) (by decide +kernel), List.mem_of_getElem? (i := 717) (by decide +kernel)⟩
def lw_privs_2 : List (MethodName × Nat) := [(⟨"PrintHouse", "carryOut", "()Z"⟩, 8), (⟨"PrintHouse$Spool", "isLogged", "(I)Z"⟩, 4), (⟨"PrintHouse$Spool", "isLogRenewed", "()Z"⟩, 4), (⟨"PrintHouse$Spool", "forgetEnded", "()V"⟩, 4), (⟨"PrintHouse", "writeReply", "(I)V"⟩, 8), (⟨"PrintHouse", "tellOfAll", "()V"⟩, 8), (⟨"PrintHouse", "tellOf", "(LPrintHouse$Job;)V"⟩, 8), (⟨"PrintHouse", "goneDown", "()I"⟩, 8), (⟨"PrintHouse$Press", "layOut", "(LPrintHouse$Job;)V"⟩, 8), (⟨"PrintHouse$Press", "cellWidth", "()I"⟩, 8), (⟨"PrintHouse$Press", "cellHeight", "()I"⟩, 8), (⟨"PrintHouse$Press", "fillSide", "(LPrintHouse$Job;I)V"⟩, 8), (⟨"PrintHouse$Press", "fillCell", "(LPrintHouse$Job;III)V"⟩, 8), (⟨"PrintHouse$Press", "turnSideByHalf", "()V"⟩, 8), (⟨"PrintHouse$Press", "writeSide", "()V"⟩, 8), (⟨"PrintHouse$Press", "equalRows", "(I)I"⟩, 8)]
theorem lw_r2 : ∀ q ∈ lw_privs_2, lw_okq q := List.forall_mem_cons.mpr ⟨lw_p16, List.forall_mem_cons.mpr ⟨lw_p17, List.forall_mem_cons.mpr ⟨lw_p18, List.forall_mem_cons.mpr ⟨lw_p19, List.forall_mem_cons.mpr ⟨lw_p20, List.forall_mem_cons.mpr ⟨lw_p21, List.forall_mem_cons.mpr ⟨lw_p22, List.forall_mem_cons.mpr ⟨lw_p23, List.forall_mem_cons.mpr ⟨lw_p24, List.forall_mem_cons.mpr ⟨lw_p25, List.forall_mem_cons.mpr ⟨lw_p26, List.forall_mem_cons.mpr ⟨lw_p27, List.forall_mem_cons.mpr ⟨lw_p28, List.forall_mem_cons.mpr ⟨lw_p29, List.forall_mem_cons.mpr ⟨lw_p30, List.forall_mem_cons.mpr ⟨lw_p31, fun _ h => absurd h List.not_mem_nil⟩⟩⟩⟩⟩⟩⟩⟩⟩⟩⟩⟩⟩⟩⟩⟩
theorem lw_p32 : lw_okq (⟨"PrintHouse$Press", "areRowsEqual", "(II)Z"⟩, 8) := ⟨⟨by decide +kernel, by decide +kernel⟩, List.mem_of_getElem? (i := 201) (by decide +kernel), List.mem_of_getElem? (i := 720) (by decide +kernel), List.mem_of_getElem? (i := 721) (by decide +kernel)⟩
theorem lw_p33 : lw_okq (⟨"PrintHouse$Press", "writeRow", "(I)V"⟩, 8) := ⟨⟨by decide +kernel, by decide +kernel⟩, List.mem_of_getElem? (i := 201) (by decide +kernel), List.mem_of_getElem? (i := 724) (by decide +kernel), List.mem_of_getElem? (i := 725) (by decide +kernel)⟩
theorem lw_p34 : lw_okq (⟨"PrintHouse$Press", "endOfEqual", "(II)I"⟩, 8) := ⟨⟨by decide +kernel, by decide +kernel⟩, List.mem_of_getElem? (i := 201) (by decide +kernel), List.mem_of_getElem? (i := 728) (by decide +kernel), List.mem_of_getElem? (i := 729) (by decide +kernel)⟩
theorem lw_p35 : lw_okq (⟨"PrintHouse$Press", "endOfUnlike", "(II)I"⟩, 8) := ⟨⟨by decide +kernel, by decide +kernel⟩, List.mem_of_getElem? (i := 201) (by decide +kernel), List.mem_of_getElem? (i := 732) (by decide +kernel), List.mem_of_getElem? (i := 733) (by decide +kernel)⟩
theorem lw_p36 : lw_okq (⟨"PrintHouse$Press", "writeUnlike", "(II)V"⟩, 8) := ⟨⟨by decide +kernel, by decide +kernel⟩, List.mem_of_getElem? (i := 201) (by decide +kernel), List.mem_of_getElem? (i := 736) (by decide +kernel), List.mem_of_getElem? (i := 737) (by decide +kernel)⟩
theorem lw_p37 : lw_okq (⟨"PrintHouseModel", "statusOf", "(I)I"⟩, 28) := ⟨⟨by decide +kernel, by decide +kernel⟩, List.mem_of_getElem? (i := 793) (by decide +kernel), List.mem_of_getElem? (i := 897) (by decide +kernel), List.mem_of_getElem? (i := 898) (by decide +kernel)⟩
theorem lw_p38 : lw_okq (⟨"PrintHouseModel", "readAll", "()V"⟩, 28) := ⟨⟨by decide +kernel, by decide +kernel⟩, List.mem_of_getElem? (i := 793) (by decide +kernel), List.mem_of_getElem? (i := 901) (by decide +kernel), List.mem_of_getElem? (i := 902) (by decide +kernel)⟩
theorem lw_p39 : lw_okq (⟨"PrintHouseModel", "number", "(I)I"⟩, 28) := ⟨⟨by decide +kernel, by decide +kernel⟩, List.mem_of_getElem? (i := 793) (by decide +kernel), List.mem_of_getElem? (i := 905) (by decide +kernel), List.mem_of_getElem? (i := 906) (by decide +kernel)⟩
theorem lw_p40 : lw_okq (⟨"PrintHouseModel", "group", "(Z)V"⟩, 28) := ⟨⟨by decide +kernel, by decide +kernel⟩, List.mem_of_getElem? (i := 793) (by decide +kernel), List.mem_of_getElem? (i := 909) (by decide +kernel), List.mem_of_getElem? (i := 910) (by decide +kernel)⟩
theorem lw_p41 : lw_okq (⟨"PrintHouseModel", "peek", "()I"⟩, 28) := ⟨⟨by decide +kernel, by decide +kernel⟩, List.mem_of_getElem? (i := 793) (by decide +kernel), List.mem_of_getElem? (i := 913) (by decide +kernel), List.mem_of_getElem? (i := 914) (by decide +kernel)⟩
theorem lw_p42 : lw_okq (⟨"PrintHouseModel", "attribute", "(Z)V"⟩, 28) := ⟨⟨by decide +kernel, by decide +kernel⟩, List.mem_of_getElem? (i := 793) (by decide +kernel), List.mem_of_getElem? (i := 917) (by decide +kernel), List.mem_of_getElem? (i := 918) (by decide +kernel)⟩
theorem lw_p43 : lw_okq (⟨"PrintHouseModel", "letters", "(II)Z"⟩, 28) := ⟨⟨by decide +kernel, by decide +kernel⟩, List.mem_of_getElem? (i := 793) (by decide +kernel), List.mem_of_getElem? (i := 921) (by decide +kernel), List.mem_of_getElem? (i := 922) (by decide +kernel)⟩
theorem lw_p44 : lw_okq (⟨"PrintHouseModel", "isNew", "(II)Z"⟩, 28) := ⟨⟨by decide +kernel, by decide +kernel⟩, List.mem_of_getElem? (i := 793) (by decide +kernel), List.mem_of_getElem? (i := 925) (by decide +kernel), List.mem_of_getElem? (i := 926) (by decide +kernel)⟩
theorem lw_p45 : lw_okq (⟨"PrintHouseModel", "spells", "(IIIJ)Z"⟩, 28) := ⟨⟨by decide +kernel, by decide +kernel⟩, List.mem_of_getElem? (i := 793) (by decide +kernel), List.mem_of_getElem? (i := 930) (by decide +kernel), List.mem_of_getElem? (i := 931) (by decide +kernel)⟩
theorem lw_p46 : lw_okq (⟨"PrintHouseModel", "told", "(IIIIII)V"⟩, 28) := ⟨⟨by decide +kernel, by decide +kernel⟩, List.mem_of_getElem? (i := 793) (by decide +kernel), List.mem_of_getElem? (i := 935) (by decide +kernel), List.mem_of_getElem? (i := 936) (by decide +kernel)⟩
theorem lw_p47 : lw_okq (⟨"PrintHouseModel", "printable", "()I"⟩, 28) := ⟨⟨by decide +kernel, by decide +kernel⟩, List.mem_of_getElem? (i := 793) (by decide +kernel), List.mem_of_getElem? (i := 954) (by decide +kernel), List.mem_of_getElem? (i := 955) (by decide +kernel)⟩
def lw_privs_3 : List (MethodName × Nat) := [(⟨"PrintHouse$Press", "areRowsEqual", "(II)Z"⟩, 8), (⟨"PrintHouse$Press", "writeRow", "(I)V"⟩, 8), (⟨"PrintHouse$Press", "endOfEqual", "(II)I"⟩, 8), (⟨"PrintHouse$Press", "endOfUnlike", "(II)I"⟩, 8), (⟨"PrintHouse$Press", "writeUnlike", "(II)V"⟩, 8), (⟨"PrintHouseModel", "statusOf", "(I)I"⟩, 28), (⟨"PrintHouseModel", "readAll", "()V"⟩, 28), (⟨"PrintHouseModel", "number", "(I)I"⟩, 28), (⟨"PrintHouseModel", "group", "(Z)V"⟩, 28), (⟨"PrintHouseModel", "peek", "()I"⟩, 28), (⟨"PrintHouseModel", "attribute", "(Z)V"⟩, 28), (⟨"PrintHouseModel", "letters", "(II)Z"⟩, 28), (⟨"PrintHouseModel", "isNew", "(II)Z"⟩, 28), (⟨"PrintHouseModel", "spells", "(IIIJ)Z"⟩, 28), (⟨"PrintHouseModel", "told", "(IIIIII)V"⟩, 28), (⟨"PrintHouseModel", "printable", "()I"⟩, 28)]
theorem lw_r3 : ∀ q ∈ lw_privs_3, lw_okq q := List.forall_mem_cons.mpr ⟨lw_p32, List.forall_mem_cons.mpr ⟨lw_p33, List.forall_mem_cons.mpr ⟨lw_p34, List.forall_mem_cons.mpr ⟨lw_p35, List.forall_mem_cons.mpr ⟨lw_p36, List.forall_mem_cons.mpr ⟨lw_p37, List.forall_mem_cons.mpr ⟨lw_p38, List.forall_mem_cons.mpr ⟨lw_p39, List.forall_mem_cons.mpr ⟨lw_p40, List.forall_mem_cons.mpr ⟨lw_p41, List.forall_mem_cons.mpr ⟨lw_p42, List.forall_mem_cons.mpr ⟨lw_p43, List.forall_mem_cons.mpr ⟨lw_p44, List.forall_mem_cons.mpr ⟨lw_p45, List.forall_mem_cons.mpr ⟨lw_p46, List.forall_mem_cons.mpr ⟨lw_p47, fun _ h => absurd h List.not_mem_nil⟩⟩⟩⟩⟩⟩⟩⟩⟩⟩⟩⟩⟩⟩⟩⟩
theorem lw_p48 : lw_okq (⟨"PrintHouseModel", "pages", "()I"⟩, 28) := ⟨⟨by decide +kernel, by decide +kernel⟩, List.mem_of_getElem? (i := 793) (by decide +kernel), List.mem_of_getElem? (i := 958) (by decide +kernel), List.mem_of_getElem? (i := 959) (by decide +kernel)⟩
theorem lw_p49 : lw_okq (⟨"PrintHouseModel", "raster", "(I)Z"⟩, 28) := ⟨⟨by decide +kernel, by decide +kernel⟩, List.mem_of_getElem? (i := 793) (by decide +kernel), List.mem_of_getElem? (i := 962) (by decide +kernel), List.mem_of_getElem? (i := 963) (by decide +kernel)⟩
theorem lw_p50 : lw_okq (⟨"PrintHouseModel", "blocks", "()I"⟩, 28) := ⟨⟨by decide +kernel, by decide +kernel⟩, List.mem_of_getElem? (i := 793) (by decide +kernel), List.mem_of_getElem? (i := 966) (by decide +kernel), List.mem_of_getElem? (i := 967) (by decide +kernel)⟩
theorem lw_p51 : lw_okq (⟨"PrintHouseModel", "hasEnded", "(I)Z"⟩, 28) := ⟨⟨by decide +kernel, by decide +kernel⟩, List.mem_of_getElem? (i := 793) (by decide +kernel), List.mem_of_getElem? (i := 970) (by decide +kernel), List.mem_of_getElem? (i := 971) (by decide +kernel)⟩
theorem lw_p52 : lw_okq (⟨"PrintHouseModel", "find", "(I)I"⟩, 28) := ⟨⟨by decide +kernel, by decide +kernel⟩, List.mem_of_getElem? (i := 793) (by decide +kernel), List.mem_of_getElem? (i := 974) (by decide +kernel), List.mem_of_getElem? (i := 975) (by decide +kernel)⟩
theorem lw_p53 : lw_okq (⟨"PrintHouseModel", "does", "(I)I"⟩, 28) := ⟨⟨by decide +kernel, by decide +kernel⟩, List.mem_of_getElem? (i := 793) (by decide +kernel), List.mem_of_getElem? (i := 978) (by decide +kernel), List.mem_of_getElem? (i := 979) (by decide +kernel)⟩
theorem lw_p54 : lw_okq (⟨"PrintHouseModel", "transact", "(I)Z"⟩, 28) := ⟨⟨by decide +kernel, by decide +kernel⟩, List.mem_of_getElem? (i := 793) (by decide +kernel), List.mem_of_getElem? (i := 982) (by decide +kernel), List.mem_of_getElem? (i := 983) (by decide +kernel)⟩
theorem lw_p55 : lw_okq (⟨"PrintHouseModel", "write", "(I)Z"⟩, 28) := ⟨⟨by decide +kernel, by decide +kernel⟩, List.mem_of_getElem? (i := 793) (by decide +kernel), List.mem_of_getElem? (i := 986) (by decide +kernel), List.mem_of_getElem? (i := 987) (by decide +kernel)⟩
theorem lw_p56 : lw_okq (⟨"PrintHouseModel", "goDown", "()V"⟩, 28) := ⟨⟨by decide +kernel, by decide +kernel⟩, List.mem_of_getElem? (i := 793) (by decide +kernel), List.mem_of_getElem? (i := 990) (by decide +kernel), List.mem_of_getElem? (i := 991) (by decide +kernel)⟩
theorem lw_p57 : lw_okq (⟨"PrintHouseModel", "forget", "()V"⟩, 28) := ⟨⟨by decide +kernel, by decide +kernel⟩, List.mem_of_getElem? (i := 793) (by decide +kernel), List.mem_of_getElem? (i := 994) (by decide +kernel), List.mem_of_getElem? (i := 995) (by decide +kernel)⟩
theorem lw_p58 : lw_okq (⟨"PrintHouseModel", "copy", "(II)V"⟩, 28) := ⟨⟨by decide +kernel, by decide +kernel⟩, List.mem_of_getElem? (i := 793) (by decide +kernel), List.mem_of_getElem? (i := 998) (by decide +kernel), List.mem_of_getElem? (i := 999) (by decide +kernel)⟩
theorem lw_p59 : lw_okq (⟨"PrintHouseModel", "change", "(II)Z"⟩, 28) := ⟨⟨by decide +kernel, by decide +kernel⟩, List.mem_of_getElem? (i := 793) (by decide +kernel), List.mem_of_getElem? (i := 1002) (by decide +kernel), List.mem_of_getElem? (i := 1003) (by decide +kernel)⟩
theorem lw_p60 : lw_okq (⟨"PrintHouseModel", "say", "(II)V"⟩, 28) := ⟨⟨by decide +kernel, by decide +kernel⟩, List.mem_of_getElem? (i := 793) (by decide +kernel), List.mem_of_getElem? (i := 1006) (by decide +kernel), List.mem_of_getElem? (i := 1007) (by decide +kernel)⟩
theorem lw_p61 : lw_okq (⟨"PrintHouseModel", "list", "()V"⟩, 28) := ⟨⟨by decide +kernel, by decide +kernel⟩, List.mem_of_getElem? (i := 793) (by decide +kernel), List.mem_of_getElem? (i := 1010) (by decide +kernel), List.mem_of_getElem? (i := 1011) (by decide +kernel)⟩
theorem lw_p62 : lw_okq (⟨"PrintHouseModel", "rank", "(I)I"⟩, 28) := ⟨⟨by decide +kernel, by decide +kernel⟩, List.mem_of_getElem? (i := 793) (by decide +kernel), List.mem_of_getElem? (i := 1014) (by decide +kernel), List.mem_of_getElem? (i := 1015) (by decide +kernel)⟩
theorem lw_p63 : lw_okq (⟨"PrintHouseModel", "isBefore", "(II)Z"⟩, 28) := ⟨⟨by decide +kernel, by decide +kernel⟩, List.mem_of_getElem? (i := 793) (by decide +kernel), List.mem_of_getElem? (i := 1018) (by decide +kernel), List.mem_of_getElem? (i := 1019) (by decide +kernel)⟩
def lw_privs_4 : List (MethodName × Nat) := [(⟨"PrintHouseModel", "pages", "()I"⟩, 28), (⟨"PrintHouseModel", "raster", "(I)Z"⟩, 28), (⟨"PrintHouseModel", "blocks", "()I"⟩, 28), (⟨"PrintHouseModel", "hasEnded", "(I)Z"⟩, 28), (⟨"PrintHouseModel", "find", "(I)I"⟩, 28), (⟨"PrintHouseModel", "does", "(I)I"⟩, 28), (⟨"PrintHouseModel", "transact", "(I)Z"⟩, 28), (⟨"PrintHouseModel", "write", "(I)Z"⟩, 28), (⟨"PrintHouseModel", "goDown", "()V"⟩, 28), (⟨"PrintHouseModel", "forget", "()V"⟩, 28), (⟨"PrintHouseModel", "copy", "(II)V"⟩, 28), (⟨"PrintHouseModel", "change", "(II)Z"⟩, 28), (⟨"PrintHouseModel", "say", "(II)V"⟩, 28), (⟨"PrintHouseModel", "list", "()V"⟩, 28), (⟨"PrintHouseModel", "rank", "(I)I"⟩, 28), (⟨"PrintHouseModel", "isBefore", "(II)Z"⟩, 28)]
theorem lw_r4 : ∀ q ∈ lw_privs_4, lw_okq q := List.forall_mem_cons.mpr ⟨lw_p48, List.forall_mem_cons.mpr ⟨lw_p49, List.forall_mem_cons.mpr ⟨lw_p50, List.forall_mem_cons.mpr ⟨lw_p51, List.forall_mem_cons.mpr ⟨lw_p52, List.forall_mem_cons.mpr ⟨lw_p53, List.forall_mem_cons.mpr ⟨lw_p54, List.forall_mem_cons.mpr ⟨lw_p55, List.forall_mem_cons.mpr ⟨lw_p56, List.forall_mem_cons.mpr ⟨lw_p57, List.forall_mem_cons.mpr ⟨lw_p58, List.forall_mem_cons.mpr ⟨lw_p59, List.forall_mem_cons.mpr ⟨lw_p60, List.forall_mem_cons.mpr ⟨lw_p61, List.forall_mem_cons.mpr ⟨lw_p62, List.forall_mem_cons.mpr ⟨lw_p63, fun _ h => absurd h List.not_mem_nil⟩⟩⟩⟩⟩⟩⟩⟩⟩⟩⟩⟩⟩⟩⟩⟩
theorem lw_p64 : lw_okq (⟨"PrintHouseModel", "tell", "(IZ)V"⟩, 28) := ⟨⟨by decide +kernel, by decide +kernel⟩, List.mem_of_getElem? (i := 793) (by decide +kernel), List.mem_of_getElem? (i := 1022) (by decide +kernel), List.mem_of_getElem? (i := 1023) (by decide +kernel)⟩
theorem lw_p65 : lw_okq (⟨"PrintHouseModel", "integer", "(IJI)V"⟩, 28) := ⟨⟨by decide +kernel, by decide +kernel⟩, List.mem_of_getElem? (i := 793) (by decide +kernel), List.mem_of_getElem? (i := 1026) (by decide +kernel), List.mem_of_getElem? (i := 1027) (by decide +kernel)⟩
theorem lw_p66 : lw_okq (⟨"PrintHouseModel", "chosen", "()I"⟩, 28) := ⟨⟨by decide +kernel, by decide +kernel⟩, List.mem_of_getElem? (i := 793) (by decide +kernel), List.mem_of_getElem? (i := 1041) (by decide +kernel), List.mem_of_getElem? (i := 1042) (by decide +kernel)⟩
theorem lw_p67 : lw_okq (⟨"PrintHouseModel", "sendSheet", "(I)V"⟩, 28) := ⟨⟨by decide +kernel, by decide +kernel⟩, List.mem_of_getElem? (i := 793) (by decide +kernel), List.mem_of_getElem? (i := 1045) (by decide +kernel), List.mem_of_getElem? (i := 1046) (by decide +kernel)⟩
theorem lw_p68 : lw_okq (⟨"PrintHouseModel", "sheetsOf", "(I)I"⟩, 28) := ⟨⟨by decide +kernel, by decide +kernel⟩, List.mem_of_getElem? (i := 793) (by decide +kernel), List.mem_of_getElem? (i := 1049) (by decide +kernel), List.mem_of_getElem? (i := 1050) (by decide +kernel)⟩
theorem lw_p69 : lw_okq (⟨"PrintHouseModel", "sides", "(I)I"⟩, 28) := ⟨⟨by decide +kernel, by decide +kernel⟩, List.mem_of_getElem? (i := 793) (by decide +kernel), List.mem_of_getElem? (i := 1053) (by decide +kernel), List.mem_of_getElem? (i := 1054) (by decide +kernel)⟩
theorem lw_p70 : lw_okq (⟨"PrintHouseModel", "send", "(I)V"⟩, 28) := ⟨⟨by decide +kernel, by decide +kernel⟩, List.mem_of_getElem? (i := 793) (by decide +kernel), List.mem_of_getElem? (i := 1057) (by decide +kernel), List.mem_of_getElem? (i := 1058) (by decide +kernel)⟩
theorem lw_p71 : lw_okq (⟨"PrintHouseModel", "face", "(IIZII)V"⟩, 28) := ⟨⟨by decide +kernel, by decide +kernel⟩, List.mem_of_getElem? (i := 793) (by decide +kernel), List.mem_of_getElem? (i := 1061) (by decide +kernel), List.mem_of_getElem? (i := 1062) (by decide +kernel)⟩
theorem lw_p72 : lw_okq (⟨"PrintHouseModel", "booklet", "(IIZII)I"⟩, 28) := ⟨⟨by decide +kernel, by decide +kernel⟩, List.mem_of_getElem? (i := 793) (by decide +kernel), List.mem_of_getElem? (i := 1065) (by decide +kernel), List.mem_of_getElem? (i := 1066) (by decide +kernel)⟩
theorem lw_p73 : lw_okq (⟨"PrintHouseModel", "pair", "(IIIII)I"⟩, 28) := ⟨⟨by decide +kernel, by decide +kernel⟩, List.mem_of_getElem? (i := 793) (by decide +kernel), List.mem_of_getElem? (i := 1069) (by decide +kernel), List.mem_of_getElem? (i := 1070) (by decide +kernel)⟩
theorem lw_p74 : lw_okq (⟨"PrintHouseModel", "pixelOf", "(IIII)I"⟩, 28) := ⟨⟨by decide +kernel, by decide +kernel⟩, List.mem_of_getElem? (i := 793) (by decide +kernel), List.mem_of_getElem? (i := 1073) (by decide +kernel), List.mem_of_getElem? (i := 1074) (by decide +kernel)⟩
theorem lw_p75 : lw_okq (⟨"PrintHouseModel", "plain", "(IIII)I"⟩, 28) := ⟨⟨by decide +kernel, by decide +kernel⟩, List.mem_of_getElem? (i := 793) (by decide +kernel), List.mem_of_getElem? (i := 1077) (by decide +kernel), List.mem_of_getElem? (i := 1078) (by decide +kernel)⟩
theorem lw_p76 : lw_okq (⟨"PrintHouseModel", "alike", "(III)Z"⟩, 28) := ⟨⟨by decide +kernel, by decide +kernel⟩, List.mem_of_getElem? (i := 793) (by decide +kernel), List.mem_of_getElem? (i := 1081) (by decide +kernel), List.mem_of_getElem? (i := 1082) (by decide +kernel)⟩
theorem lw_p77 : lw_okq (⟨"PrintHouseModel", "row", "(II)V"⟩, 28) := ⟨⟨by decide +kernel, by decide +kernel⟩, List.mem_of_getElem? (i := 793) (by decide +kernel), List.mem_of_getElem? (i := 1085) (by decide +kernel), List.mem_of_getElem? (i := 1086) (by decide +kernel)⟩
def lw_privs_5 : List (MethodName × Nat) := [(⟨"PrintHouseModel", "tell", "(IZ)V"⟩, 28), (⟨"PrintHouseModel", "integer", "(IJI)V"⟩, 28), (⟨"PrintHouseModel", "chosen", "()I"⟩, 28), (⟨"PrintHouseModel", "sendSheet", "(I)V"⟩, 28), (⟨"PrintHouseModel", "sheetsOf", "(I)I"⟩, 28), (⟨"PrintHouseModel", "sides", "(I)I"⟩, 28), (⟨"PrintHouseModel", "send", "(I)V"⟩, 28), (⟨"PrintHouseModel", "face", "(IIZII)V"⟩, 28), (⟨"PrintHouseModel", "booklet", "(IIZII)I"⟩, 28), (⟨"PrintHouseModel", "pair", "(IIIII)I"⟩, 28), (⟨"PrintHouseModel", "pixelOf", "(IIII)I"⟩, 28), (⟨"PrintHouseModel", "plain", "(IIII)I"⟩, 28), (⟨"PrintHouseModel", "alike", "(III)Z"⟩, 28), (⟨"PrintHouseModel", "row", "(II)V"⟩, 28)]
theorem lw_r5 : ∀ q ∈ lw_privs_5, lw_okq q := List.forall_mem_cons.mpr ⟨lw_p64, List.forall_mem_cons.mpr ⟨lw_p65, List.forall_mem_cons.mpr ⟨lw_p66, List.forall_mem_cons.mpr ⟨lw_p67, List.forall_mem_cons.mpr ⟨lw_p68, List.forall_mem_cons.mpr ⟨lw_p69, List.forall_mem_cons.mpr ⟨lw_p70, List.forall_mem_cons.mpr ⟨lw_p71, List.forall_mem_cons.mpr ⟨lw_p72, List.forall_mem_cons.mpr ⟨lw_p73, List.forall_mem_cons.mpr ⟨lw_p74, List.forall_mem_cons.mpr ⟨lw_p75, List.forall_mem_cons.mpr ⟨lw_p76, List.forall_mem_cons.mpr ⟨lw_p77, fun _ h => absurd h List.not_mem_nil⟩⟩⟩⟩⟩⟩⟩⟩⟩⟩⟩⟩⟩⟩
def lw_privs : List (MethodName × Nat) := lw_privs_1 ++ (lw_privs_2 ++ (lw_privs_3 ++ (lw_privs_4 ++ (lw_privs_5))))
def lw_tbl : List Cond := k2_sels lw_privs ++ tables_1
theorem lw_privs_ok : ∀ q ∈ lw_privs, lw_okq q := by
  show ∀ q ∈ lw_privs_1 ++ (lw_privs_2 ++ (lw_privs_3 ++ (lw_privs_4 ++ (lw_privs_5)))), lw_okq q
  exact List.forall_mem_append.mpr ⟨lw_r1, List.forall_mem_append.mpr ⟨lw_r2, List.forall_mem_append.mpr ⟨lw_r3, List.forall_mem_append.mpr ⟨lw_r4, lw_r5⟩⟩⟩⟩
end
section
/-! An abstract machine for the instructions that class and reference use: names instead of addresses, a world of numbers; one walk of the JVM for all methods (z_main). -/
/-- a name: its group, its number there -/
abbrev z_N : Type := Nat × Nat
/-- ints, longs, references' numbers: by group, number, place -/
abbrev z_W : Type := (Nat → Nat → Nat → Int32) × (Nat → Nat → Nat → Int64) × (Nat → Nat → Nat → Nat)
/-- a side: the sort of a group (1 ints, 2 longs, 3 references, c + 4 objects of class c), lengths, fixed references, the group of what references' arrays hold, all names -/
abbrev z_S : Type := (Nat → Nat) × (Nat → Nat → Nat) × (Nat → Nat → Nat → z_N) × Nat × List z_N
/-- an int, a long, a reference or null -/
abbrev z_V : Type := Int32 ⊕ Int64 ⊕ Option z_N
abbrev z_L : Type := List (Option z_V)
abbrev z_X : Type := Nat × Nat × Nat × Nat × Int32 × Int64
abbrev z_I : Type := Jvm.ClassFile.Instr × Nat × z_X
abbrev z_F : Type := Nat × z_L × List z_V × z_W
abbrev z_O : Type := Option (z_F ⊕ (Option z_V) ⊕ (Nat × List z_V × List z_V))
/-- name, bytes, locals, answer, how many arguments (with the receiver), the receiver's sort (0: static), frames, words of locals -/
abbrev z_M : Type := MethodName × ByteArray × Nat × Option FieldType × Nat × Nat × Nat × Nat
def z_si (w : z_W) (g i k : Nat) (x : Int32) : z_W := (fun a b c => if a = g ∧ b = i ∧ c = k then x else w.1 a b c, w.2.1, w.2.2)
def z_sl (w : z_W) (g i k : Nat) (x : Int64) : z_W := (w.1, fun a b c => if a = g ∧ b = i ∧ c = k then x else w.2.1 a b c, w.2.2)
def z_sr (w : z_W) (g i k : Nat) (x : Nat) : z_W := (w.1, w.2.1, fun a b c => if a = g ∧ b = i ∧ c = k then x else w.2.2 a b c)
def z_cp (w : z_W) (g i sp g' i' dp n : Nat) : z_W := (fun a b c => if a = g' ∧ b = i' then va_cpy (w.1 g i) (w.1 g' i') sp dp n c else w.1 a b c, w.2.1, w.2.2)
def z_ct (v : z_V) : Nat := match v with
  | .inr (.inl _) => 2
  | _ => 1
def z_in (i : Int32) (n : Nat) : Bool := decide (0 ≤ i.toInt) && decide (i.toInt < (n : Int))
def z_un (L : z_L) (i : Nat) : z_L := match i with
  | 0 => L
  | j + 1 => match L[j]? with
    | some (some (.inr (.inl _))) => L.set j none
    | _ => L
def z_st1 (L : z_L) (i : Nat) (v : z_V) : z_L := (z_un L i).set i (some v)
def z_st2 (L : z_L) (i : Nat) (v : z_V) : z_L := ((z_un L i).set i (some v)).set (i + 1) none
def z_cat (st : List z_V) : Nat := (st.map z_ct).sum
def z_ld (L : z_L) (i : Nat) : Option z_V := match L[i]? with
  | some (some v) => some v
  | _ => none
def z_args : List z_V → z_L
  | [] => []
  | v :: r => some v :: (if z_ct v = 2 then none :: z_args r else z_args r)
def z_entry (n : Nat) (as : List z_V) : z_L := z_args as ++ List.replicate (n - (z_args as).length) none
def z_tgt (pc : Nat) (off : Int) : Nat := ((pc : Int) + off).toNat
def z_call (S : z_S) (k n nL mj : Nat) (st : List z_V) : z_O :=
  if n ≤ st.length ∧ z_cat (st.drop n) ≤ 8 ∧ (z_args (st.take n).reverse).length ≤ nL then
    match k with
    | 0 => some (.inr (.inr (mj, (st.take n).reverse, st.drop n)))
    | k + 1 => match (st.take n).reverse with
      | (.inr (.inr (some (g, _)))) :: _ => if S.1 g = k + 1 then some (.inr (.inr (mj, (st.take n).reverse, st.drop n))) else none
      | _ => none
  else none
def z_step (S : z_S) (M : Nat → z_M) (I : z_I) (pc : Nat) (L : z_L) (st : List z_V) (w : z_W) : z_O :=
  match I with
  | (ins, _, a, b, t, _, c, d) => match ins with
    | .iconst _ => some (.inl (pc + 1, L, (.inl c) :: st, w))
    | .bipush _ => some (.inl (pc + 2, L, (.inl c) :: st, w))
    | .sipush _ => some (.inl (pc + 3, L, (.inl c) :: st, w))
    | .lconst _ => some (.inl (pc + 1, L, (.inr (.inl d)) :: st, w))
    | .ldc2_w _ => some (.inl (pc + 3, L, (.inr (.inl d)) :: st, w))
    | .aconst_null => some (.inl (pc + 1, L, (.inr (.inr none)) :: st, w))
    | .iload_n k => match z_ld L k with
      | some ((.inl x)) => some (.inl (pc + 1, L, (.inl x) :: st, w))
      | _ => none
    | .iload k => match z_ld L k with
      | some ((.inl x)) => some (.inl (pc + 2, L, (.inl x) :: st, w))
      | _ => none
    | .lload_n k => match z_ld L k with
      | some ((.inr (.inl x))) => some (.inl (pc + 1, L, (.inr (.inl x)) :: st, w))
      | _ => none
    | .lload k => match z_ld L k with
      | some ((.inr (.inl x))) => some (.inl (pc + 2, L, (.inr (.inl x)) :: st, w))
      | _ => none
    | .aload_n k => match z_ld L k with
      | some (.inr (.inr o)) => some (.inl (pc + 1, L, (.inr (.inr o)) :: st, w))
      | _ => none
    | .aload k => match z_ld L k with
      | some (.inr (.inr o)) => some (.inl (pc + 2, L, (.inr (.inr o)) :: st, w))
      | _ => none
    | .istore_n k => match st with
      | (.inl x) :: r => if (k : Nat) < L.length then some (.inl (pc + 1, z_st1 L k ((.inl x)), r, w)) else none
      | _ => none
    | .istore k => match st with
      | (.inl x) :: r => if k < L.length then some (.inl (pc + 2, z_st1 L k ((.inl x)), r, w)) else none
      | _ => none
    | .lstore_n k => match st with
      | (.inr (.inl x)) :: r => if (k : Nat) + 1 < L.length then some (.inl (pc + 1, z_st2 L k ((.inr (.inl x))), r, w)) else none
      | _ => none
    | .lstore k => match st with
      | (.inr (.inl x)) :: r => if k + 1 < L.length then some (.inl (pc + 2, z_st2 L k ((.inr (.inl x))), r, w)) else none
      | _ => none
    | .astore_n k => match st with
      | (.inr (.inr x)) :: r => if (k : Nat) < L.length then some (.inl (pc + 1, z_st1 L k (.inr (.inr x)), r, w)) else none
      | _ => none
    | .astore k => match st with
      | (.inr (.inr x)) :: r => if k < L.length then some (.inl (pc + 2, z_st1 L k (.inr (.inr x)), r, w)) else none
      | _ => none
    | .iinc k _ => match z_ld L k with
      | some ((.inl x)) => if k < L.length then some (.inl (pc + 3, z_st1 L k ((.inl (x + c))), st, w)) else none
      | _ => none
    | .iadd => match st with
      | (.inl y) :: (.inl x) :: r => some (.inl (pc + 1, L, (.inl (x + y)) :: r, w))
      | _ => none
    | .isub => match st with
      | (.inl y) :: (.inl x) :: r => some (.inl (pc + 1, L, (.inl (x - y)) :: r, w))
      | _ => none
    | .imul => match st with
      | (.inl y) :: (.inl x) :: r => some (.inl (pc + 1, L, (.inl (x * y)) :: r, w))
      | _ => none
    | .iand => match st with
      | (.inl y) :: (.inl x) :: r => some (.inl (pc + 1, L, (.inl (x &&& y)) :: r, w))
      | _ => none
    | .ior => match st with
      | (.inl y) :: (.inl x) :: r => some (.inl (pc + 1, L, (.inl (x ||| y)) :: r, w))
      | _ => none
    | .idiv => match st with
      | (.inl y) :: (.inl x) :: r => if y = 0 then none else some (.inl (pc + 1, L, (.inl (x / y)) :: r, w))
      | _ => none
    | .irem => match st with
      | (.inl y) :: (.inl x) :: r => if y = 0 then none else some (.inl (pc + 1, L, (.inl (x - x / y * y)) :: r, w))
      | _ => none
    | .ishl => match st with
      | (.inl y) :: (.inl x) :: r => some (.inl (pc + 1, L, (.inl (x <<< (y &&& 31))) :: r, w))
      | _ => none
    | .ishr => match st with
      | (.inl y) :: (.inl x) :: r => some (.inl (pc + 1, L, (.inl (x >>> (y &&& 31))) :: r, w))
      | _ => none
    | .land => match st with
      | (.inr (.inl y)) :: (.inr (.inl x)) :: r => some (.inl (pc + 1, L, (.inr (.inl (x &&& y))) :: r, w))
      | _ => none
    | .lor => match st with
      | (.inr (.inl y)) :: (.inr (.inl x)) :: r => some (.inl (pc + 1, L, (.inr (.inl (x ||| y))) :: r, w))
      | _ => none
    | .lshl => match st with
      | (.inl y) :: (.inr (.inl x)) :: r => some (.inl (pc + 1, L, (.inr (.inl (x <<< (y.toInt64 &&& 63)))) :: r, w))
      | _ => none
    | .lshr => match st with
      | (.inl y) :: (.inr (.inl x)) :: r => some (.inl (pc + 1, L, (.inr (.inl (x >>> (y.toInt64 &&& 63)))) :: r, w))
      | _ => none
    | .lcmp => match st with
      | (.inr (.inl y)) :: (.inr (.inl x)) :: r => some (.inl (pc + 1, L, (.inl (lg_cmp x y)) :: r, w))
      | _ => none
    | .i2l => match st with
      | (.inl x) :: r => some (.inl (pc + 1, L, (.inr (.inl x.toInt64)) :: r, w))
      | _ => none
    | .l2i => match st with
      | (.inr (.inl x)) :: r => some (.inl (pc + 1, L, (.inl x.toInt32) :: r, w))
      | _ => none
    | .dup => match st with
      | (.inl x) :: r => some (.inl (pc + 1, L, (.inl x) :: (.inl x) :: r, w))
      | (.inr (.inr x)) :: r => some (.inl (pc + 1, L, (.inr (.inr x)) :: (.inr (.inr x)) :: r, w))
      | _ => none
    | .dup2 => match st with
      | (.inl x) :: (.inr (.inr y)) :: r => some (.inl (pc + 1, L, (.inl x) :: (.inr (.inr y)) :: (.inl x) :: (.inr (.inr y)) :: r, w))
      | _ => none
    | .ifCond q _ => match st with
      | (.inl x) :: r => match q with
        | .eq => some (.inl (if x = 0 then a else pc + 3, L, r, w))
        | .ne => some (.inl (if x = 0 then pc + 3 else a, L, r, w))
        | .lt => some (.inl (if x < 0 then a else pc + 3, L, r, w))
        | .ge => some (.inl (if 0 ≤ x then a else pc + 3, L, r, w))
        | .gt => some (.inl (if 0 < x then a else pc + 3, L, r, w))
        | .le => some (.inl (if x ≤ 0 then a else pc + 3, L, r, w))
      | _ => none
    | .if_icmp q _ => match st with
      | (.inl y) :: (.inl x) :: r => match q with
        | .eq => some (.inl (if x = y then a else pc + 3, L, r, w))
        | .ne => some (.inl (if x = y then pc + 3 else a, L, r, w))
        | .lt => some (.inl (if x < y then a else pc + 3, L, r, w))
        | .ge => some (.inl (if y ≤ x then a else pc + 3, L, r, w))
        | .gt => some (.inl (if y < x then a else pc + 3, L, r, w))
        | .le => some (.inl (if x ≤ y then a else pc + 3, L, r, w))
      | _ => none
    | .goto _ => some (.inl (a, L, st, w))
    | .ifnull _ => match st with
      | (.inr (.inr none)) :: r => some (.inl (a, L, r, w))
      | (.inr (.inr (some _))) :: r => some (.inl (pc + 3, L, r, w))
      | _ => none
    | .ifnonnull _ => match st with
      | (.inr (.inr none)) :: r => some (.inl (pc + 3, L, r, w))
      | (.inr (.inr (some _))) :: r => some (.inl (a, L, r, w))
      | _ => none
    | .tableswitch dflt lo hi offs => match st with
      | (.inl x) :: r => if x.toInt < lo ∨ hi < x.toInt then some (.inl (z_tgt pc dflt, L, r, w)) else match offs[(x.toInt - lo).toNat]? with
        | some off => some (.inl (z_tgt pc off, L, r, w))
        | none => none
      | _ => none
    | .lookupswitch dflt ps => match st with
      | (.inl x) :: r => some (.inl (z_tgt pc (Op.lookupswitch.offset ps.toList dflt x.toInt), L, r, w))
      | _ => none
    | .getfield _ => match st with
      | (.inr (.inr (some (g, i)))) :: r => if S.1 g = a + 4 then match t with
          | 2 => some (.inl (pc + 3, L, (.inr (.inr (some (S.2.2.1 g i b)))) :: r, w))
          | _ => some (.inl (pc + 3, L, (.inl (w.1 g i b)) :: r, w))
        else none
      | _ => none
    | .putfield _ => match st with
      | (.inl x) :: (.inr (.inr (some (g, i)))) :: r => if S.1 g = a + 4 ∧ (t = 0 ∨ (x = 0 ∨ x = 1)) then some (.inl (pc + 3, L, r, z_si w g i b x)) else none
      | _ => none
    | .iaload => match st with
      | (.inl i) :: (.inr (.inr (some (g, o)))) :: r => if S.1 g = 1 ∧ z_in i (S.2.1 g o) = true then some (.inl (pc + 1, L, (.inl (w.1 g o i.toNatClampNeg)) :: r, w)) else none
      | _ => none
    | .laload => match st with
      | (.inl i) :: (.inr (.inr (some (g, o)))) :: r => if S.1 g = 2 ∧ z_in i (S.2.1 g o) = true then some (.inl (pc + 1, L, (.inr (.inl (w.2.1 g o i.toNatClampNeg))) :: r, w)) else none
      | _ => none
    | .aaload => match st with
      | (.inl i) :: (.inr (.inr (some (g, o)))) :: r => if S.1 g = 3 ∧ z_in i (S.2.1 g o) = true then some (.inl (pc + 1, L, (.inr (.inr (some (S.2.2.2.1, w.2.2 g o i.toNatClampNeg)))) :: r, w)) else none
      | _ => none
    | .iastore => match st with
      | (.inl x) :: (.inl i) :: (.inr (.inr (some (g, o)))) :: r => if S.1 g = 1 ∧ z_in i (S.2.1 g o) = true then some (.inl (pc + 1, L, r, z_si w g o i.toNatClampNeg x)) else none
      | _ => none
    | .lastore => match st with
      | (.inr (.inl x)) :: (.inl i) :: (.inr (.inr (some (g, o)))) :: r => if S.1 g = 2 ∧ z_in i (S.2.1 g o) = true then some (.inl (pc + 1, L, r, z_sl w g o i.toNatClampNeg x)) else none
      | _ => none
    | .aastore => match st with
      | (.inr (.inr (some (g', v)))) :: (.inl i) :: (.inr (.inr (some (g, o)))) :: r => if S.1 g = 3 ∧ z_in i (S.2.1 g o) = true ∧ g' = S.2.2.2.1 ∧ S.1 g' = a + 4 then some (.inl (pc + 1, L, r, z_sr w g o i.toNatClampNeg v)) else none
      | _ => none
    | .arraylength => match st with
      | (.inr (.inr (some (g, o)))) :: r => if S.1 g = 1 then some (.inl (pc + 1, L, (.inl (Int32.ofNat (S.2.1 g o))) :: r, w)) else none
      | _ => none
    | .invokevirtual _ => z_call S (M a).2.2.2.2.2.1 (M a).2.2.2.2.1 (M a).2.2.1 a st
    | .invokestatic _ => match t with
      | 0 => z_call S 0 (M a).2.2.2.2.1 (M a).2.2.1 a st
      | _ => match st with
        | (.inl n) :: (.inl dp) :: (.inr (.inr (some (g', o')))) :: (.inl sp) :: (.inr (.inr (some (g, o)))) :: r =>
          if S.1 g = 1 ∧ S.1 g' = 1 ∧ 0 ≤ sp.toInt ∧ 0 ≤ dp.toInt ∧ 0 ≤ n.toInt ∧ sp.toInt + n.toInt ≤ (S.2.1 g o : Int) ∧ dp.toInt + n.toInt ≤ (S.2.1 g' o' : Int) ∧ z_cat r ≤ 8
          then some (.inl (pc + 3, L, r, z_cp w g o sp.toNatClampNeg g' o' dp.toNatClampNeg n.toNatClampNeg)) else none
        | _ => none
    | .ireturn => match st with
      | [(.inl x)] => if t = 0 ∨ (x = 0 ∨ x = 1) then some (.inr (.inl (some ((.inl x))))) else none
      | _ => none
    | .lreturn => match st with
      | [(.inr (.inl x))] => some (.inr (.inl (some ((.inr (.inl x))))))
      | _ => none
    | .areturn => match st with
      | [.inr (.inr x)] => some (.inr (.inl (some (.inr (.inr x)))))
      | _ => none
    | .return_ => match st with
      | [] => some (.inr (.inl none))
      | _ => none
    | _ => none
def z_run (S : z_S) (M : Nat → z_M) (C : Nat → Nat → Option z_I) : Nat → Nat → z_F → Option (z_W × Option z_V)
  | 0, _, _ => none
  | n + 1, mi, (pc, L, st, w) => match C mi pc with
    | none => none
    | some I => match z_step S M I pc L st w with
      | none => none
      | some (.inl f) => z_run S M C n mi f
      | some (.inr (.inl r)) => some (w, r)
      | some (.inr (.inr (mj, as, rest))) => match z_run S M C n mj (0, z_entry (M mj).2.2.1 as, [], w) with
        | none => none
        | some (w', r) => z_run S M C n mi (pc + 3, L, r.toList ++ rest, w')
end
section
/-! how the abstract machine's values stand for the JVM's -/
def z_v (ad : z_N → Nat) : z_V → Value
  | .inl x => .int x
  | .inr (.inl x) => .long x
  | .inr (.inr none) => .null
  | .inr (.inr (some o)) => .ref (ad o)
theorem z_v_cat (ad : z_N → Nat) (v : z_V) : (z_v ad v).category = z_ct v := by
  rcases v with x | x | _ | o <;> rfl
theorem z_cat_map (ad : z_N → Nat) (st : List z_V) : ((st.map (z_v ad)).map fun v => v.category).sum = z_cat st := by
  unfold z_cat
  rw [List.map_map]
  congr 1
  exact List.map_congr_left (fun v _ => z_v_cat ad v)
def z_hl (ad : z_N → Nat) (ls : Array Slot) (nL : Nat) (L : z_L) : Prop :=
  ls.size = nL ∧ lv_wf ls ∧ L.length = nL ∧ ∀ (i : Nat) (v : z_V), L[i]? = some (some v) → ls[i]? = some (.val (z_v ad v))
def z_as (ad : z_N → Nat) (L : z_L) : List (Nat × Value) := (List.range L.length).filterMap (fun j => match L[j]? with
  | some (some u) => some (j, z_v ad u)
  | _ => none)
theorem z_as_mem {ad : z_N → Nat} {L : z_L} {j : Nat} {v : z_V} (h : L[j]? = some (some v)) : (j, z_v ad v) ∈ z_as ad L := by
  refine List.mem_filterMap.mpr ⟨j, List.mem_range.mpr (List.getElem?_eq_some_iff.mp h).1, ?_⟩
  rw [h]
theorem z_as_of {ad : z_N → Nat} {L : z_L} {q : Nat × Value} (h : q ∈ z_as ad L) : ∃ v, L[q.1]? = some (some v) ∧ q.2 = z_v ad v := by
  obtain ⟨j, -, hj⟩ := List.mem_filterMap.mp h
  split at hj
  · rename_i u hu
    cases hj
    exact ⟨u, hu, rfl⟩
  · cases hj
theorem z_hl.has {ad : z_N → Nat} {ls : Array Slot} {nL : Nat} {L : z_L} (h : z_hl ad ls nL L) : lv_has ls nL (z_as ad L) := by
  refine ⟨h.1, h.2.1, fun q hq => ?_⟩
  obtain ⟨v, h1, h2⟩ := z_as_of hq
  rw [h2]
  exact h.2.2.2 _ _ h1
theorem z_un_len (L : z_L) (i : Nat) : (z_un L i).length = L.length := by
  unfold z_un
  cases i with
  | zero => rfl
  | succ j =>
    dsimp only
    split <;> simp
theorem z_un_at {L : z_L} {i j : Nat} {u : z_V} (h : (z_un L i)[j]? = some (some u)) : L[j]? = some (some u) ∧ ¬ (j + 1 = i ∧ z_ct u = 2) := by
  cases i with
  | zero => exact ⟨h, fun q => by omega⟩
  | succ k =>
    unfold z_un at h
    dsimp only at h
    split at h
    · by_cases hjk : j = k
      · subst hjk
        rename_i hx
        rw [List.getElem?_set_self (List.getElem?_eq_some_iff.mp hx).1] at h
        cases h
      · rw [List.getElem?_set_ne (Ne.symm hjk)] at h
        exact ⟨h, fun q => hjk (by omega)⟩
    · refine ⟨h, fun q => ?_⟩
      have hjk : j = k := by omega
      subst hjk
      rename_i h1
      rcases u with x | x | x
      · simp [z_ct] at q
      · exact h1 x h
      · simp [z_ct] at q
theorem z_hl.st1 {ad : z_N → Nat} {ls ls' : Array Slot} {nL i : Nat} {L : z_L} {v : z_V} (h : z_hl ad ls nL L)
    (h' : lv_has ls' nL ((i, z_v ad v) :: (z_as ad L).filter (fun q => !(q.1 == i) && !(q.1 + 1 == i && q.2.category == 2)))) : z_hl ad ls' nL (z_st1 L i v) := by
  refine ⟨h'.1, h'.2.1, by unfold z_st1; rw [List.length_set, z_un_len]; exact h.2.2.1, fun j u hj => ?_⟩
  unfold z_st1 at hj
  by_cases hji : j = i
  · subst hji
    have hl : j < (z_un L j).length := by
      have := (List.getElem?_eq_some_iff.mp hj).1
      rwa [List.length_set] at this
    rw [List.getElem?_set_self hl] at hj
    cases hj
    exact h'.2.2 _ List.mem_cons_self
  · rw [List.getElem?_set_ne (Ne.symm hji)] at hj
    obtain ⟨h1, h2⟩ := z_un_at hj
    refine h'.2.2 (j, z_v ad u) (List.mem_cons_of_mem _ (List.mem_filter.mpr ⟨z_as_mem h1, ?_⟩))
    have h3 : ¬ (j + 1 = i ∧ (z_v ad u).category = 2) := by rw [z_v_cat]; exact h2
    simp only [Bool.and_eq_true, Bool.not_eq_true', beq_eq_false_iff_ne, ne_eq, Bool.and_eq_false_iff]
    refine ⟨hji, ?_⟩
    by_cases h4 : j + 1 = i
    · exact Or.inr (fun q => h3 ⟨h4, q⟩)
    · exact Or.inl h4
theorem z_hl.st2 {ad : z_N → Nat} {ls ls' : Array Slot} {nL i : Nat} {L : z_L} {v : z_V} (h : z_hl ad ls nL L)
    (h' : lv_has ls' nL ((i, z_v ad v) :: (z_as ad L).filter (fun q => !(q.1 == i) && (!(q.1 == i + 1) && !(q.1 + 1 == i && q.2.category == 2))))) : z_hl ad ls' nL (z_st2 L i v) := by
  refine ⟨h'.1, h'.2.1, by unfold z_st2; rw [List.length_set, List.length_set, z_un_len]; exact h.2.2.1, fun j u hj => ?_⟩
  unfold z_st2 at hj
  by_cases hj1 : j = i + 1
  · subst hj1
    have hl : i + 1 < ((z_un L i).set i (some v)).length := by
      have := (List.getElem?_eq_some_iff.mp hj).1
      rwa [List.length_set] at this
    rw [List.getElem?_set_self hl] at hj
    cases hj
  · rw [List.getElem?_set_ne (Ne.symm hj1)] at hj
    by_cases hji : j = i
    · subst hji
      have hl : j < (z_un L j).length := by
        have := (List.getElem?_eq_some_iff.mp hj).1
        rwa [List.length_set] at this
      rw [List.getElem?_set_self hl] at hj
      cases hj
      exact h'.2.2 _ List.mem_cons_self
    · rw [List.getElem?_set_ne (Ne.symm hji)] at hj
      obtain ⟨h1, h2⟩ := z_un_at hj
      refine h'.2.2 (j, z_v ad u) (List.mem_cons_of_mem _ (List.mem_filter.mpr ⟨z_as_mem h1, ?_⟩))
      have h3 : ¬ (j + 1 = i ∧ (z_v ad u).category = 2) := by rw [z_v_cat]; exact h2
      simp only [Bool.and_eq_true, Bool.not_eq_true', beq_eq_false_iff_ne, ne_eq, Bool.and_eq_false_iff]
      refine ⟨hji, hj1, ?_⟩
      by_cases h4 : j + 1 = i
      · exact Or.inr (fun q => h3 ⟨h4, q⟩)
      · exact Or.inl h4
theorem z_ld_at {ad : z_N → Nat} {ls : Array Slot} {nL i : Nat} {L : z_L} {v : z_V} (h : z_hl ad ls nL L) (hv : z_ld L i = some v) : ls[i]? = some (.val (z_v ad v)) := by
  unfold z_ld at hv
  split at hv
  · rename_i u hu
    cases hv
    exact h.2.2.2 _ _ hu
  · cases hv
theorem z_ld_as {ad : z_N → Nat} {i : Nat} {L : z_L} {v : z_V} (hv : z_ld L i = some v) : ∃ k : Nat, (z_as ad L)[k]? = some (i, z_v ad v) := by
  unfold z_ld at hv
  split at hv
  · rename_i u hu
    cases hv
    exact List.getElem?_of_mem (z_as_mem hu)
  · cases hv
/-! the arguments at a method's entry -/
theorem z_args_as (ad : z_N → Nat) : ∀ (as : List z_V) (k : Nat) (pre : z_L), pre.length = k → ∀ (j : Nat) (u : z_V), k ≤ j → (pre ++ z_args as)[j]? = some (some u) → (j, z_v ad u) ∈ lv_args k (as.map (z_v ad)) := by
  intro as
  induction as with
  | nil =>
    intro k pre hk j u hj h
    simp only [z_args, List.append_nil] at h
    have := (List.getElem?_eq_some_iff.mp h).1
    omega
  | cons v r ih =>
    intro k pre hk j u hj h
    simp only [List.map_cons, lv_args]
    rw [z_v_cat]
    by_cases hjk : j = k
    · subst hjk
      rw [List.getElem?_append_right (by omega)] at h
      rw [hk, Nat.sub_self] at h
      simp only [z_args, List.getElem?_cons_zero] at h
      cases h
      exact List.mem_cons_self
    · refine List.mem_cons_of_mem _ ?_
      by_cases hc : z_ct v = 2
      · rw [if_pos hc]
        simp only [z_args, if_pos hc] at h
        by_cases hj2 : j = k + 1
        · subst hj2
          rw [List.getElem?_append_right (by omega), hk] at h
          have : k + 1 - k = 1 := by omega
          rw [this] at h
          simp at h
        · refine ih (k + 2) (pre ++ [some v, none]) (by simp [hk]) j u (by omega) ?_
          rw [List.append_assoc]
          exact h
      · rw [if_neg hc]
        simp only [z_args, if_neg hc] at h
        refine ih (k + 1) (pre ++ [some v]) (by simp [hk]) j u (by omega) ?_
        rw [List.append_assoc]
        exact h
theorem z_args_len (ad : z_N → Nat) (as : List z_V) : (lg_sl (as.map (z_v ad))).length = (z_args as).length := by
  induction as with
  | nil => rfl
  | cons v r ih =>
    simp only [lg_sl, List.map_cons, List.flatMap_cons, List.length_append, z_args, List.length_cons] at ih ⊢
    rw [ih, z_v_cat]
    by_cases hc : z_ct v = 2
    · simp [hc]; omega
    · simp [hc]; omega
theorem z_entry_hl (ad : z_N → Nat) (as : List z_V) {n : Nat} (h : (z_args as).length ≤ n) : z_hl ad ((lg_sl (as.map (z_v ad)) ++ List.replicate (n - (lg_sl (as.map (z_v ad))).length) Slot.unset).toArray) n (z_entry n as) := by
  obtain ⟨h1, h2, h3⟩ := lv_entry (as.map (z_v ad)) (n := n) (by rw [z_args_len]; exact h)
  refine ⟨h1, h2, by unfold z_entry; simp; omega, fun i v hv => ?_⟩
  have hi : i < (z_args as).length := by
    refine Nat.lt_of_not_le (fun q => ?_)
    unfold z_entry at hv
    rw [List.getElem?_append_right q] at hv
    have h4 := List.mem_of_getElem? hv
    have h5 := List.eq_of_mem_replicate h4
    cases h5
  unfold z_entry at hv
  rw [List.getElem?_append_left hi] at hv
  exact h3 (i, z_v ad v) (z_args_as ad as 0 [] rfl i v (Nat.zero_le _) (by simpa using hv))
/-! the cells of a world -/
def z_fv (S : z_S) (ad : z_N → Nat) (w : z_W) (ks : List Nat) (o : z_N) (j : Nat) : Value := if ks.getD j 0 = 2 then .ref (ad (S.2.2.1 o.1 o.2 j)) else .int (w.1 o.1 o.2 j)
def z_cell (S : z_S) (fk : Nat → List Nat) (ad : z_N → Nat) (cA : Nat → ClassId) (w : z_W) (o : z_N) : va_E := match S.1 o.1 with
  | 1 => .inl (cA 0, S.2.1 o.1 o.2, .inl (w.1 o.1 o.2))
  | 2 => .inl (cA 1, S.2.1 o.1 o.2, .inr (.inl (w.2.1 o.1 o.2)))
  | 3 => .inl (cA 2, S.2.1 o.1 o.2, .inr (.inr (.inr (.inr (fun j => some (ad (S.2.2.2.1, w.2.2 o.1 o.2 j)))))))
  | k => .inr (k - 4, (List.range (fk (k - 4)).length).map (z_fv S ad w (fk (k - 4)) o))
def z_ws (S : z_S) (fk : Nat → List Nat) (ad : z_N → Nat) (cA : Nat → ClassId) (w : z_W) : va_W := S.2.2.2.2.map (fun o => (ad o, z_cell S fk ad cA w o))
section ZCELL
variable {S : z_S} {fk : Nat → List Nat} {ad : z_N → Nat} {cA : Nat → ClassId} {w w' : z_W} {o q : z_N} {a b k j : Nat}
theorem z_ws_at (h : S.2.2.2.2[j]? = some o) : (z_ws S fk ad cA w)[j]? = some (ad o, z_cell S fk ad cA w o) := by simp [z_ws, h]
theorem z_ws_set {e : va_E} (hn : S.2.2.2.2.Nodup) (h : S.2.2.2.2[j]? = some o) (he : z_cell S fk ad cA w' o = e) (hq : ∀ q, q ≠ o → z_cell S fk ad cA w' q = z_cell S fk ad cA w q) : (z_ws S fk ad cA w).set j (ad o, e) = z_ws S fk ad cA w' := by
  have hj := (List.getElem?_eq_some_iff.mp h).1
  apply List.ext_getElem?
  intro k
  by_cases hk : k = j
  · subst hk
    rw [List.getElem?_set_self (by simp [z_ws, hj]), z_ws_at h, he]
  · rw [List.getElem?_set_ne (Ne.symm hk)]
    cases hkN : S.2.2.2.2[k]? with
    | none => simp [z_ws, hkN]
    | some o' =>
      have hne : o' ≠ o := by
        intro h2
        subst h2
        have hk2 := (List.getElem?_eq_some_iff.mp hkN).1
        exact hk ((List.getElem?_inj hk2 hn).mp (hkN.trans h.symm))
      rw [z_ws_at hkN, z_ws_at hkN, hq o' hne]
theorem z_cell_congr (h1 : w'.1 o.1 o.2 = w.1 o.1 o.2) (h2 : w'.2.1 o.1 o.2 = w.2.1 o.1 o.2) (h3 : w'.2.2 o.1 o.2 = w.2.2 o.1 o.2) : z_cell S fk ad cA w' o = z_cell S fk ad cA w o := by
  have hf : ∀ ks j, z_fv S ad w' ks o j = z_fv S ad w ks o j := fun ks j => by unfold z_fv; rw [h1]
  have hg : ∀ ks, z_fv S ad w' ks o = z_fv S ad w ks o := fun ks => funext (hf ks)
  unfold z_cell
  rw [h1, h2, h3]
  simp only [hg]
theorem z_cell_1 (h : S.1 o.1 = 1) : z_cell S fk ad cA w o = .inl (cA 0, S.2.1 o.1 o.2, .inl (w.1 o.1 o.2)) := by unfold z_cell; rw [h]; rfl
theorem z_cell_2 (h : S.1 o.1 = 2) : z_cell S fk ad cA w o = .inl (cA 1, S.2.1 o.1 o.2, .inr (.inl (w.2.1 o.1 o.2))) := by unfold z_cell; rw [h]; rfl
theorem z_cell_3 (h : S.1 o.1 = 3) : z_cell S fk ad cA w o = .inl (cA 2, S.2.1 o.1 o.2, .inr (.inr (.inr (.inr (fun j => some (ad (S.2.2.2.1, w.2.2 o.1 o.2 j))))))) := by unfold z_cell; rw [h]; rfl
theorem z_cell_o (h : S.1 o.1 = a + 4) : z_cell S fk ad cA w o = .inr (a, (List.range (fk a).length).map (z_fv S ad w (fk a) o)) := by unfold z_cell; rw [h]; rfl
theorem z_ne {g i : Nat} (h : q ≠ (g, i)) (c : Prop) : ¬ (q.1 = g ∧ q.2 = i ∧ c) := fun h2 => h (Prod.ext h2.1 h2.2.1)
theorem z_si_ne {x : Int32} (h : q ≠ o) : z_cell S fk ad cA (z_si w o.1 o.2 k x) q = z_cell S fk ad cA w q := z_cell_congr (funext fun j => by show (if _ then _ else _) = _; rw [if_neg (z_ne h _)]) rfl rfl
theorem z_sl_ne {x : Int64} (h : q ≠ o) : z_cell S fk ad cA (z_sl w o.1 o.2 k x) q = z_cell S fk ad cA w q := z_cell_congr rfl (funext fun j => by show (if _ then _ else _) = _; rw [if_neg (z_ne h _)]) rfl
theorem z_sr_ne {x : Nat} (h : q ≠ o) : z_cell S fk ad cA (z_sr w o.1 o.2 k x) q = z_cell S fk ad cA w q := z_cell_congr rfl rfl (funext fun j => by show (if _ then _ else _) = _; rw [if_neg (z_ne h _)])
theorem z_cp_ne {g' i' sp dp n : Nat} (h : q ≠ o) : z_cell S fk ad cA (z_cp w g' i' sp o.1 o.2 dp n) q = z_cell S fk ad cA w q := z_cell_congr (funext fun j => by show (if _ then _ else _) = _; rw [if_neg (fun h2 => h (Prod.ext h2.1 h2.2))]) rfl rfl
theorem z_si_1 {x : Int32} (h : S.1 o.1 = 1) : z_cell S fk ad cA (z_si w o.1 o.2 k x) o = .inl (cA 0, S.2.1 o.1 o.2, .inl (upd (w.1 o.1 o.2) k x)) := by
  rw [z_cell_1 h]
  have : (z_si w o.1 o.2 k x).1 o.1 o.2 = upd (w.1 o.1 o.2) k x := funext fun j => by simp [z_si, upd]
  rw [this]
theorem z_sl_2 {x : Int64} (h : S.1 o.1 = 2) : z_cell S fk ad cA (z_sl w o.1 o.2 k x) o = .inl (cA 1, S.2.1 o.1 o.2, .inr (.inl (vp_updL (w.2.1 o.1 o.2) k x))) := by
  rw [z_cell_2 h]
  have : (z_sl w o.1 o.2 k x).2.1 o.1 o.2 = vp_updL (w.2.1 o.1 o.2) k x := funext fun j => by simp [z_sl, vp_updL]
  rw [this]
theorem z_sr_3 {x : Nat} (h : S.1 o.1 = 3) : z_cell S fk ad cA (z_sr w o.1 o.2 k x) o = .inl (cA 2, S.2.1 o.1 o.2, .inr (.inr (.inr (.inr (va_up (fun j => some (ad (S.2.2.2.1, w.2.2 o.1 o.2 j))) k (some (ad (S.2.2.2.1, x)))))))) := by
  rw [z_cell_3 h]
  have : (fun j => some (ad (S.2.2.2.1, (z_sr w o.1 o.2 k x).2.2 o.1 o.2 j))) = va_up (fun j => some (ad (S.2.2.2.1, w.2.2 o.1 o.2 j))) k (some (ad (S.2.2.2.1, x))) := funext fun j => by
    by_cases hj : j = k <;> simp [z_sr, va_up, hj]
  rw [this]
theorem z_cp_1 {g' i' sp dp n : Nat} (h : S.1 o.1 = 1) : z_cell S fk ad cA (z_cp w g' i' sp o.1 o.2 dp n) o = .inl (cA 0, S.2.1 o.1 o.2, .inl (va_cpy (w.1 g' i') (w.1 o.1 o.2) sp dp n)) := by
  rw [z_cell_1 h]
  have : (z_cp w g' i' sp o.1 o.2 dp n).1 o.1 o.2 = va_cpy (w.1 g' i') (w.1 o.1 o.2) sp dp n := funext fun j => by simp [z_cp]
  rw [this]
theorem z_fs_at {ks : List Nat} (hb : b < ks.length) : ((List.range ks.length).map (z_fv S ad w ks o))[b]? = some (z_fv S ad w ks o b) := by simp [hb]
theorem z_si_o {x : Int32} (h : S.1 o.1 = a + 4) (hb : b < (fk a).length) (hk : (fk a).getD b 0 ≠ 2) : z_cell S fk ad cA (z_si w o.1 o.2 b x) o = .inr (a, ((List.range (fk a).length).map (z_fv S ad w (fk a) o)).set b (.int x)) := by
  rw [z_cell_o h]
  congr 2
  apply List.ext_getElem?
  intro j
  by_cases hj : j = b
  · subst hj
    rw [z_fs_at hb, List.getElem?_set_self (by simpa using hb)]
    unfold z_fv
    rw [if_neg hk]
    simp [z_si]
  · rw [List.getElem?_set_ne (Ne.symm hj)]
    by_cases hl : j < (fk a).length
    · rw [z_fs_at hl, z_fs_at hl]
      unfold z_fv
      simp [z_si, hj]
    · simp [hl]
end ZCELL
theorem z_in_vp {i : Int32} {n : Nat} (h : z_in i n = true) : vp_in i n := by
  unfold z_in at h
  simp only [Bool.and_eq_true, decide_eq_true_eq] at h
  exact vp_in_iff.mpr h
/-! every reference is a name of the side -/
def z_vv (S : z_S) (v : z_V) : Prop := match v with
  | .inr (.inr (some o)) => o ∈ S.2.2.2.2
  | _ => True
def z_vs (S : z_S) (st : List z_V) : Prop := ∀ v ∈ st, z_vv S v
def z_vL (S : z_S) (L : z_L) : Prop := ∀ (j : Nat) (v : z_V), L[j]? = some (some v) → z_vv S v
def z_vw (S : z_S) (w : z_W) : Prop := ∀ g i j, (S.2.2.2.1, w.2.2 g i j) ∈ S.2.2.2.2
section ZV
variable {S : z_S} {st : List z_V} {L : z_L} {w : z_W} {v : z_V} {k : Nat}
theorem z_vs.c (hv : z_vv S v) (h : z_vs S st) : z_vs S (v :: st) := fun u hu => by
  rcases List.mem_cons.mp hu with rfl | hu
  · exact hv
  · exact h u hu
theorem z_vs.t (h : z_vs S (v :: st)) : z_vs S st := fun u hu => h u (List.mem_cons_of_mem _ hu)
theorem z_vs.h (h : z_vs S (v :: st)) : z_vv S v := h v List.mem_cons_self
theorem z_vL.ld (h : z_vL S L) (hv : z_ld L k = some v) : z_vv S v := by
  unfold z_ld at hv
  split at hv
  · rename_i u hu
    cases hv
    exact h _ _ hu
  · cases hv
theorem z_vL.st1 (h : z_vL S L) (hv : z_vv S v) : z_vL S (z_st1 L k v) := by
  intro j u hj
  unfold z_st1 at hj
  by_cases hjk : j = k
  · subst hjk
    have hl : j < (z_un L j).length := by
      have := (List.getElem?_eq_some_iff.mp hj).1
      rwa [List.length_set] at this
    rw [List.getElem?_set_self hl] at hj
    cases hj
    exact hv
  · rw [List.getElem?_set_ne (Ne.symm hjk)] at hj
    exact h j u (z_un_at hj).1
theorem z_vL.st2 (h : z_vL S L) (hv : z_vv S v) : z_vL S (z_st2 L k v) := by
  intro j u hj
  unfold z_st2 at hj
  by_cases hj1 : j = k + 1
  · subst hj1
    have hl : k + 1 < ((z_un L k).set k (some v)).length := by
      have := (List.getElem?_eq_some_iff.mp hj).1
      rwa [List.length_set] at this
    rw [List.getElem?_set_self hl] at hj
    cases hj
  · rw [List.getElem?_set_ne (Ne.symm hj1)] at hj
    exact (h.st1 hv) j u hj
theorem z_vL.entry {as : List z_V} {n : Nat} (h : z_vs S as) : z_vL S (z_entry n as) := by
  have key : ∀ as : List z_V, z_vs S as → ∀ v : z_V, some v ∈ z_args as → z_vv S v := by
    intro as
    induction as with
    | nil => intro _ v hv; cases hv
    | cons u r ih =>
      intro hs v hv
      simp only [z_args] at hv
      rcases List.mem_cons.mp hv with hv | hv
      · cases hv
        exact hs.h
      · split at hv
        · rcases List.mem_cons.mp hv with hv | hv
          · cases hv
          · exact ih hs.t v hv
        · exact ih hs.t v hv
  intro j v hj
  have hm := List.mem_of_getElem? hj
  unfold z_entry at hm
  rcases List.mem_append.mp hm with hm | hm
  · exact key as h v hm
  · have := List.eq_of_mem_replicate hm
    cases this
end ZV
end
section
/-! what is checked of an instruction, a class, a method -/
def z_cf (cl : List vw_C) (fk : Nat → List Nat) (Ws : List Jvm.Cond) (hst own : String) (i a b t q : Nat) : Bool :=
  match cl[a]? with
  | some (C, T, N) => decide (b < N) && decide ((T b).1 = C) && decide ((fk a).getD b 0 = t) &&
     (if q % 2 = 0 then decide (Ws[q / 2]? = some (.fieldLink own i C (T b).2.1 (T b).2.2.1)) else decide (Ws[q / 2]? = some (.fieldLinkNest own i C (T b).2.1 (T b).2.2.1 hst)))
  | none => false
def z_cp2 (cl : List vw_C) (a b t : Nat) : Bool :=
  match cl[a]? with
  | some (_, T, _) => decide ((T b).2.2.2 = false) && decide (parseFieldDescriptor (T b).2.2.1 = some (if t = 0 then .int else .boolean)) && decide (t < 2)
  | none => false
def z_cl (Ws : List Jvm.Cond) (hst own : String) (i q : Nat) (y : MethodName) : Bool :=
  if q % 2 = 0 then decide (Ws[q / 2]? = some (.methodLink own i y)) else decide (Ws[q / 2]? = some (.methodLinkNest own i y hst))
def z_cr (nM : Nat) (M : Nat → z_M) (fr lo a : Nat) : Bool :=
  decide (a < nM) && decide ((M a).2.2.2.2.2.2.1 + 1 ≤ fr) && decide (8 + ((M a).2.2.1 + 11) + (M a).2.2.2.2.2.2.2 ≤ lo)
def z_ca (Ws : List Jvm.Cond) (own : String) (i : Nat) (fr lo : Nat) : Bool :=
  Ws.contains (.methodLink own i arraycopyName) && Ws.contains (.native arraycopyName) && Ws.contains (.static arraycopyName) && Ws.contains (.initialized "java/lang/System") && decide (1 ≤ fr) && decide (8 + (nativeFrameWords "java/lang/System" "arraycopy" 5 + 11) ≤ lo)
def z_chk (cl : List vw_C) (fk : Nat → List Nat) (nM : Nat) (M : Nat → z_M) (Ws : List Jvm.Cond) (jn hst own : String) (cc : ByteArray) (rt : Option FieldType) (fr lo : Nat) (pc : Nat) (I : z_I) : Bool :=
  decide (decode cc pc = .ok (I.1, I.2.1)) &&
  match I with
  | (ins, len, a, b, t, q, c, d) => match ins with
    | .iconst n => decide (len = 1) && decide (Int32.ofInt n = c)
    | .bipush n => decide (len = 2) && decide ((Int8.ofInt n).toInt32 = c)
    | .sipush n => decide (len = 3) && decide ((Int16.ofInt n).toInt32 = c)
    | .lconst n => decide (len = 1) && decide (Int64.ofNat (n : Nat) = d)
    | .ldc2_w i => decide (len = 3) && decide (Ws[q]? = some (.constantLong own i d))
    | .iload _ => decide (len = 2)
    | .lload _ => decide (len = 2)
    | .aload _ => decide (len = 2)
    | .istore _ => decide (len = 2)
    | .lstore _ => decide (len = 2)
    | .astore _ => decide (len = 2)
    | .iinc _ n => decide (len = 3) && decide (Int32.ofInt n = c)
    | .ifCond _ off => decide (len = 3) && decide ((pc : Int) + off = (a : Int))
    | .if_icmp _ off => decide (len = 3) && decide ((pc : Int) + off = (a : Int))
    | .goto off => decide (len = 3) && decide ((pc : Int) + off = (a : Int))
    | .ifnull off => decide (len = 3) && decide ((pc : Int) + off = (a : Int))
    | .ifnonnull off => decide (len = 3) && decide ((pc : Int) + off = (a : Int))
    | .tableswitch dflt _ _ offs => decide (0 ≤ (pc : Int) + dflt) && offs.toList.all (fun off => decide (0 ≤ (pc : Int) + off))
    | .lookupswitch dflt ps => decide (0 ≤ (pc : Int) + dflt) && ps.toList.all (fun x => decide (0 ≤ (pc : Int) + x.2)) && (ps.toList.zip (ps.toList.drop 1)).all (fun (a, next) => a.1 < next.1)
    | .getfield i => decide (len = 3) && z_cf cl fk Ws hst own i a b t q
    | .putfield i => decide (len = 3) && z_cf cl fk Ws hst own i a b t q && z_cp2 cl a b t
    | .aastore => decide (len = 1) && decide ((cl[a]?).map (fun x => x.1) = some jn)
    | .invokevirtual i => decide (len = 3) && z_cl Ws hst own i q (M a).1 && z_cr nM M fr lo a && decide ((M a).2.2.2.2.2.1 ≠ 0)
    | .invokestatic i => decide (len = 3) && match t with
      | 0 => z_cl Ws hst own i q (M a).1 && z_cr nM M fr lo a && decide ((M a).2.2.2.2.2.1 = 0)
      | _ => z_ca Ws own i fr lo
    | .ireturn => decide (len = 1) && decide (rt = some (if t = 0 then .int else .boolean))
    | .lreturn => decide (len = 1) && decide (rt = some .long)
    | .areturn => decide (len = 1) && (match rt with
      | some (.object _) => true
      | _ => false)
    | .return_ => decide (len = 1) && decide (rt = none)
    | _ => decide (len = 1)
def z_nest : Jvm.Cond → Bool
  | .fieldLinkNest .. => true
  | .methodLinkNest .. => true
  | _ => false
def z_CL (cl : List vw_C) (fk : Nat → List Nat) (Ts : List Jvm.Cond) : Prop := ∀ (ci : Nat) (C : String) (T : u_T) (N : Nat), cl[ci]? = some (C, T, N) →
  (∀ w ∈ u_ws C T N, w ∈ Ts) ∧ (fk ci).length = N ∧ (∃ ty0 : Nat → FieldType, ∀ k, k < N → parseFieldDescriptor (T k).2.2.1 = some (ty0 k)) ∧ (∀ a, a < N → ∀ b, b < N → a ≠ b → (T a).2.1 ≠ (T b).2.1)
def z_MO (cl : List vw_C) (Ts : List Jvm.Cond) (mt : z_M) : Prop :=
  plainName mt.1.cls = true ∧ (mt.1.cls ≠ "java/lang/invoke/MethodHandle" ∧ mt.1.cls ≠ "java/lang/invoke/VarHandle") ∧ Jvm.Cond.code mt.1 mt.2.1 mt.2.2.1 mt.2.2.2.1 ∈ Ts ∧ Jvm.Cond.initialized mt.1.cls ∈ Ts ∧
  (∀ sig, parseMethodDescriptor mt.1.desc = some sig → mt.2.2.2.2.1 = sig.parameters.length + (if mt.2.2.2.2.2.1 = 0 then 0 else 1)) ∧
  (mt.2.2.2.2.2.1 = 0 → Jvm.Cond.static mt.1 ∈ Ts) ∧
  (mt.2.2.2.2.2.1 ≠ 0 → Jvm.Cond.instanceMethod mt.1 ∈ Ts ∧ Jvm.Cond.selects mt.1.cls mt.1 mt.1 ∈ Ts ∧ ∃ (ci : Nat) (T : u_T) (N : Nat), mt.2.2.2.2.2.1 = ci + 4 ∧ cl[ci]? = some (mt.1.cls, T, N))
theorem z_lk_pos {pc : Nat} {d x : Int} : ∀ l : List (Int × Int), 0 ≤ (pc : Int) + d → (∀ q ∈ l, 0 ≤ (pc : Int) + q.2) → 0 ≤ (pc : Int) + Op.lookupswitch.offset l d x
  | [], h, _ => by rw [Op.lookupswitch.offset_nil]; exact h
  | (a, o) :: r, h, hl => by
    rw [Op.lookupswitch.offset_cons]
    split
    · exact hl (a, o) List.mem_cons_self
    · exact z_lk_pos r h (fun q hq => hl q (List.mem_cons_of_mem _ hq))
theorem z_tgt_eq {pc : Nat} {off : Int} (h : 0 ≤ (pc : Int) + off) : (pc : Int) + off = (z_tgt pc off : Int) := by
  unfold z_tgt
  omega
/-- an instruction that writes a cell -/
def z_isw (I : z_I) : Bool := match I with
  | (ins, _, _, _, t, _, _, _) => match ins with
    | .putfield _ => true
    | .iastore => true
    | .lastore => true
    | .aastore => true
    | .invokestatic _ => (match t with
      | 0 => false
      | _ => true)
    | _ => false
section ZW
variable {p : Program} {l : Launch} {e : Env} {R : Room} {s : State} {m : MethodId} {args : Array Value} {below : List Frame} {meth : Method} {c : Code} {H : Heap} {locs : List Loc} {Q : State → Prop}
theorem z_wcall {pc : Nat} {ls : Array Slot} {st0 rest : List Value} {Qa : State → Outcome → State → Prop} {free : Addr → Prop}
    (hr : va_Run p l e R s m args below meth c H locs 0 0 0 0 (F0 m pc ls st0) rest Qa free)
    (kk : ∀ (v : Option Value) (st₀ t : State) (H1 : Heap) (locs1 : List Loc), st₀.heap = H → Qa st₀ (.returned v) t → t.heap = H1 → (∀ x ∈ locs1, x ∈ locs ∨ free x.base) → W p l e R s m args below meth c H1 locs1 0 0 Q (F0 m (pc + 3) ls (v.toList ++ rest))) :
    W p l e R s m args below meth c H locs 0 0 Q (F0 m pc ls st0) := by
  intro T hT X
  obtain ⟨v, st₀, t, T', L, h0, X', hL, e1, e2, hq, st⟩ := hr T hT X
  obtain ⟨t2, a1, b1⟩ := kk v st₀ t T'.heap (locs ++ L) h0 hq e1.symm (fun x hx => by
    rcases List.mem_append.mp hx with h | h
    · exact Or.inl h
    · exact Or.inr (hL x h)) T' rfl X'
  exact ⟨t2, st t2 a1, b1⟩
variable {S : z_S} {fk : Nat → List Nat} {ad : z_N → Nat} {cA : Nat → ClassId} {D : va_G} {cl : List vw_C} {tys : List (ClassId × FieldType)} {A : Nat → Prop} {H0 : Heap} {Ts Ws Ns : List Jvm.Cond} {jn hst own : String} {cc : ByteArray} {rt : Option FieldType} {nM : Nat} {M : Nat → z_M}
set_option maxHeartbeats 4000000 in
set_option maxRecDepth 100000 in
theorem z_next (hx : p.tables.exec = Jvm.exec) (hb : c.code = cc) (hown : s.vm.findClass own = some m.cls) (hts : ∀ w ∈ Ts, w.before args s = true) (hWs : ∀ w ∈ Ws, goodWord w = true → w ∈ Ts) (hWN : ∀ w ∈ Ws, z_nest w = true → w ∈ Ns) (hNs : ∀ w ∈ Ns, va_Nw w s) (hK : va_K D cl tys s)
    (hnd : S.2.2.2.2.Nodup) (hty1 : ∀ o, S.1 o = 1 → tys[0]? = some (cA 0, .int)) (hty2 : ∀ o, S.1 o = 2 → tys[1]? = some (cA 1, .long)) (hty3 : ∀ o, S.1 o = 3 → tys[2]? = some (cA 2, .object jn))
    (hCL : z_CL cl fk Ts) {nL pc pc' : Nat} {I : z_I} (hD : z_isw I = true → ∀ w, va_D A (z_ws S fk ad cA w)) {L L' : z_L} {st st' : List z_V} {w w' : z_W} {ls : Array Slot} (hml : c.maxLocals = nL)
    (hchk : z_chk cl fk nM M Ws jn hst own cc rt R.frames R.locals pc I = true) (hstep : z_step S M I pc L st w = some (.inl (pc', L', st', w')))
    (hl : z_hl ad ls nL L) (hv1 : z_vs S st) (hP : va_P D cl (z_ws S fk ad cA w) H) (hS : va_S A H0 H locs)
    (kk : ∀ (ls' : Array Slot) (H' : Heap) (locs' : List Loc), z_hl ad ls' nL L' → va_P D cl (z_ws S fk ad cA w') H' → va_S A H0 H' locs' → W p l e R s m args below meth c H' locs' 0 0 Q (F0 m pc' ls' (st'.map (z_v ad)))) :
    W p l e R s m args below meth c H locs 0 0 Q (F0 m pc ls (st.map (z_v ad))) := by
  obtain ⟨ins, len, a, b, t, q, c0, d⟩ := I
  unfold z_chk at hchk
  rw [Bool.and_eq_true, decide_eq_true_eq] at hchk
  obtain ⟨hd, hchk⟩ := hchk
  dsimp only at hd hchk
  cases ins
  case iconst n =>
    simp only [z_step] at hstep
    cases hstep
    simp only [Bool.and_eq_true, decide_eq_true_eq] at hchk
    obtain ⟨rfl, h2⟩ := hchk
    exact lv_iconst hx hb hd h2 (kk ls H locs hl hP hS)
  case bipush n =>
    simp only [z_step] at hstep
    cases hstep
    simp only [Bool.and_eq_true, decide_eq_true_eq] at hchk
    obtain ⟨rfl, h2⟩ := hchk
    exact lv_bipush hx hb hd h2 (kk ls H locs hl hP hS)
  case sipush n =>
    simp only [z_step] at hstep
    cases hstep
    simp only [Bool.and_eq_true, decide_eq_true_eq] at hchk
    obtain ⟨rfl, h2⟩ := hchk
    exact lv_sipush hx hb hd h2 (kk ls H locs hl hP hS)
  case lconst n =>
    simp only [z_step] at hstep
    cases hstep
    simp only [Bool.and_eq_true, decide_eq_true_eq] at hchk
    obtain ⟨rfl, h2⟩ := hchk
    exact lv_lconst hx hb hd h2 (kk ls H locs hl hP hS)
  case ldc2_w i =>
    simp only [z_step] at hstep
    cases hstep
    simp only [Bool.and_eq_true, decide_eq_true_eq] at hchk
    obtain ⟨rfl, h2⟩ := hchk
    exact lv_ldc2 hx hb hown (hts _ (hWs _ (List.mem_of_getElem? h2) rfl)) hd (kk ls H locs hl hP hS)
  case aconst_null =>
    simp only [z_step] at hstep
    cases hstep
    simp only [decide_eq_true_eq] at hchk
    subst hchk
    exact lv_null hx hb hd (kk ls H locs hl hP hS)
  case iload_n k =>
    simp only [z_step] at hstep
    split at hstep
    · rename_i x hv
      cases hstep
      simp only [decide_eq_true_eq] at hchk
      subst hchk
      exact lv_iload_n hx hb hd rfl (z_ld_at hl hv) (kk ls H locs hl hP hS)
    · cases hstep
  case iload k =>
    simp only [z_step] at hstep
    split at hstep
    · rename_i x hv
      cases hstep
      simp only [decide_eq_true_eq] at hchk
      subst hchk
      exact lv_iload hx hb hd (z_ld_at hl hv) (kk ls H locs hl hP hS)
    · cases hstep
  case lload_n k =>
    simp only [z_step] at hstep
    split at hstep
    · rename_i x hv
      cases hstep
      simp only [decide_eq_true_eq] at hchk
      subst hchk
      exact lv_lload_n hx hb hd rfl (z_ld_at hl hv) (kk ls H locs hl hP hS)
    · cases hstep
  case lload k =>
    simp only [z_step] at hstep
    split at hstep
    · rename_i x hv
      cases hstep
      simp only [decide_eq_true_eq] at hchk
      subst hchk
      exact lv_lload hx hb hd (z_ld_at hl hv) (kk ls H locs hl hP hS)
    · cases hstep
  case aload_n k =>
    simp only [z_step] at hstep
    split at hstep
    · rename_i x hv
      cases hstep
      simp only [decide_eq_true_eq] at hchk
      subst hchk
      cases x with
      | none => exact lv_aload_nN hx hb hd rfl (z_ld_at hl hv) (kk ls H locs hl hP hS)
      | some x => exact lv_aload_n hx hb hd rfl (z_ld_at hl hv) (kk ls H locs hl hP hS)
    · cases hstep
  case aload k =>
    simp only [z_step] at hstep
    split at hstep
    · rename_i x hv
      cases hstep
      simp only [decide_eq_true_eq] at hchk
      subst hchk
      cases x with
      | none => exact lv_aloadN hx hb hd (z_ld_at hl hv) (kk ls H locs hl hP hS)
      | some x => exact lv_aload hx hb hd (z_ld_at hl hv) (kk ls H locs hl hP hS)
    · cases hstep
  case istore_n k =>
    simp only [z_step] at hstep
    split at hstep
    · split at hstep
      · rename_i hk
        cases hstep
        simp only [decide_eq_true_eq] at hchk
        subst hchk
        exact lv_istore_n hx hb hd rfl hl.has (hl.2.2.1 ▸ hk) rfl (fun ls' h' => kk ls' H locs (hl.st1 h') hP hS)
      · cases hstep
    · cases hstep
  case istore k =>
    simp only [z_step] at hstep
    split at hstep
    · split at hstep
      · rename_i hk
        cases hstep
        simp only [decide_eq_true_eq] at hchk
        subst hchk
        exact lv_istore hx hb hd hl.has (hl.2.2.1 ▸ hk) rfl (fun ls' h' => kk ls' H locs (hl.st1 h') hP hS)
      · cases hstep
    · cases hstep
  case lstore_n k =>
    simp only [z_step] at hstep
    split at hstep
    · split at hstep
      · rename_i hk
        cases hstep
        simp only [decide_eq_true_eq] at hchk
        subst hchk
        exact lv_lstore_n hx hb hd rfl hl.has (hl.2.2.1 ▸ hk) rfl (fun ls' h' => kk ls' H locs (hl.st2 h') hP hS)
      · cases hstep
    · cases hstep
  case lstore k =>
    simp only [z_step] at hstep
    split at hstep
    · split at hstep
      · rename_i hk
        cases hstep
        simp only [decide_eq_true_eq] at hchk
        subst hchk
        exact lv_lstore hx hb hd hl.has (hl.2.2.1 ▸ hk) rfl (fun ls' h' => kk ls' H locs (hl.st2 h') hP hS)
      · cases hstep
    · cases hstep
  case astore_n k =>
    simp only [z_step] at hstep
    split at hstep
    · rename_i x r
      split at hstep
      · rename_i hk
        cases hstep
        simp only [decide_eq_true_eq] at hchk
        subst hchk
        cases x with
        | none => exact lv_astore_nN hx hb hd rfl hl.has (hl.2.2.1 ▸ hk) rfl (fun ls' h' => kk ls' H locs (hl.st1 h') hP hS)
        | some x => exact lv_astore_n hx hb hd rfl hl.has (hl.2.2.1 ▸ hk) rfl (fun ls' h' => kk ls' H locs (hl.st1 h') hP hS)
      · cases hstep
    · cases hstep
  case astore k =>
    simp only [z_step] at hstep
    split at hstep
    · rename_i x r
      split at hstep
      · rename_i hk
        cases hstep
        simp only [decide_eq_true_eq] at hchk
        subst hchk
        cases x with
        | none => exact lv_astoreN hx hb hd hl.has (hl.2.2.1 ▸ hk) rfl (fun ls' h' => kk ls' H locs (hl.st1 h') hP hS)
        | some x => exact lv_astore hx hb hd hl.has (hl.2.2.1 ▸ hk) rfl (fun ls' h' => kk ls' H locs (hl.st1 h') hP hS)
      · cases hstep
    · cases hstep
  case iinc k n =>
    simp only [z_step] at hstep
    split at hstep
    · rename_i x hv
      split at hstep
      · rename_i hk
        cases hstep
        simp only [Bool.and_eq_true, decide_eq_true_eq] at hchk
        obtain ⟨rfl, h2⟩ := hchk
        obtain ⟨j, hj⟩ := z_ld_as (ad := ad) hv
        exact lv_iinc hx hb hd hl.has hj (by rw [h2]) (hl.2.2.1 ▸ hk) rfl (fun ls' h' => kk ls' H locs (hl.st1 h') hP hS)
      · cases hstep
    · cases hstep
  case iadd =>
    simp only [z_step] at hstep
    split at hstep
    · cases hstep
      simp only [decide_eq_true_eq] at hchk
      subst hchk
      exact lv_iadd hx hb hd (kk ls H locs hl hP hS)
    · cases hstep
  case isub =>
    simp only [z_step] at hstep
    split at hstep
    · cases hstep
      simp only [decide_eq_true_eq] at hchk
      subst hchk
      exact lv_isub hx hb hd (kk ls H locs hl hP hS)
    · cases hstep
  case imul =>
    simp only [z_step] at hstep
    split at hstep
    · cases hstep
      simp only [decide_eq_true_eq] at hchk
      subst hchk
      exact lv_imul hx hb hd (kk ls H locs hl hP hS)
    · cases hstep
  case iand =>
    simp only [z_step] at hstep
    split at hstep
    · cases hstep
      simp only [decide_eq_true_eq] at hchk
      subst hchk
      exact lv_iand hx hb hd (kk ls H locs hl hP hS)
    · cases hstep
  case ior =>
    simp only [z_step] at hstep
    split at hstep
    · cases hstep
      simp only [decide_eq_true_eq] at hchk
      subst hchk
      exact lv_ior hx hb hd (kk ls H locs hl hP hS)
    · cases hstep
  case ishl =>
    simp only [z_step] at hstep
    split at hstep
    · cases hstep
      simp only [decide_eq_true_eq] at hchk
      subst hchk
      exact lv_ishl hx hb hd (kk ls H locs hl hP hS)
    · cases hstep
  case ishr =>
    simp only [z_step] at hstep
    split at hstep
    · cases hstep
      simp only [decide_eq_true_eq] at hchk
      subst hchk
      exact lv_ishr hx hb hd (kk ls H locs hl hP hS)
    · cases hstep
  case land =>
    simp only [z_step] at hstep
    split at hstep
    · cases hstep
      simp only [decide_eq_true_eq] at hchk
      subst hchk
      exact lv_land hx hb hd (kk ls H locs hl hP hS)
    · cases hstep
  case lor =>
    simp only [z_step] at hstep
    split at hstep
    · cases hstep
      simp only [decide_eq_true_eq] at hchk
      subst hchk
      exact lv_lor hx hb hd (kk ls H locs hl hP hS)
    · cases hstep
  case lcmp =>
    simp only [z_step] at hstep
    split at hstep
    · cases hstep
      simp only [decide_eq_true_eq] at hchk
      subst hchk
      exact W.lcmp hx hb hd (kk ls H locs hl hP hS)
    · cases hstep
  case lshl =>
    simp only [z_step] at hstep
    split at hstep
    · cases hstep
      simp only [decide_eq_true_eq] at hchk
      subst hchk
      exact lv_lshl hx hb hd rfl (kk ls H locs hl hP hS)
    · cases hstep
  case lshr =>
    simp only [z_step] at hstep
    split at hstep
    · cases hstep
      simp only [decide_eq_true_eq] at hchk
      subst hchk
      exact lv_lshr hx hb hd rfl (kk ls H locs hl hP hS)
    · cases hstep
  case i2l =>
    simp only [z_step] at hstep
    split at hstep
    · cases hstep
      simp only [decide_eq_true_eq] at hchk
      subst hchk
      exact lv_i2l hx hb hd rfl (kk ls H locs hl hP hS)
    · cases hstep
  case l2i =>
    simp only [z_step] at hstep
    split at hstep
    · cases hstep
      simp only [decide_eq_true_eq] at hchk
      subst hchk
      exact lv_l2i hx hb hd rfl (kk ls H locs hl hP hS)
    · cases hstep
  case idiv =>
    simp only [z_step] at hstep
    split at hstep
    · split at hstep
      · cases hstep
      · rename_i h0
        cases hstep
        simp only [decide_eq_true_eq] at hchk
        subst hchk
        exact lv_idiv hx hb hd h0 (kk ls H locs hl hP hS)
    · cases hstep
  case irem =>
    simp only [z_step] at hstep
    split at hstep
    · split at hstep
      · cases hstep
      · rename_i h0
        cases hstep
        simp only [decide_eq_true_eq] at hchk
        subst hchk
        exact lv_irem hx hb hd h0 (kk ls H locs hl hP hS)
    · cases hstep
  case dup =>
    simp only [z_step] at hstep
    simp only [decide_eq_true_eq] at hchk
    subst hchk
    split at hstep
    · cases hstep
      exact lv_dup hx hb hd rfl (kk ls H locs hl hP hS)
    · rename_i x r
      cases hstep
      cases x with
      | none => exact lv_dup hx hb hd rfl (kk ls H locs hl hP hS)
      | some x => exact lv_dup hx hb hd rfl (kk ls H locs hl hP hS)
    · cases hstep
  case dup2 =>
    simp only [z_step] at hstep
    simp only [decide_eq_true_eq] at hchk
    subst hchk
    split at hstep
    · rename_i x y r
      cases hstep
      cases y with
      | none => exact lv_dup2_11 hx hb hd rfl rfl (kk ls H locs hl hP hS)
      | some y => exact lv_dup2_11 hx hb hd rfl rfl (kk ls H locs hl hP hS)
    · cases hstep
  case ifCond cnd off =>
    simp only [z_step] at hstep
    simp only [Bool.and_eq_true, decide_eq_true_eq] at hchk
    obtain ⟨rfl, h2⟩ := hchk
    split at hstep
    · cases cnd
      all_goals (simp only at hstep; cases hstep)
      · exact lv_if_eq hx hb hd h2 (fun h => by rw [if_pos h] at kk; exact kk ls H locs hl hP hS) (fun h => by rw [if_neg h] at kk; exact kk ls H locs hl hP hS)
      · exact lv_if_ne hx hb hd h2 (fun h => by rw [if_neg h] at kk; exact kk ls H locs hl hP hS) (fun h => by rw [if_pos h] at kk; exact kk ls H locs hl hP hS)
      · exact lv_if_lt hx hb hd h2 (fun h => by rw [if_pos h] at kk; exact kk ls H locs hl hP hS) (fun h => by rw [if_neg h] at kk; exact kk ls H locs hl hP hS)
      · exact lv_if_ge hx hb hd h2 (fun h => by rw [if_pos h] at kk; exact kk ls H locs hl hP hS) (fun h => by rw [if_neg h] at kk; exact kk ls H locs hl hP hS)
      · exact lv_if_gt hx hb hd h2 (fun h => by rw [if_pos h] at kk; exact kk ls H locs hl hP hS) (fun h => by rw [if_neg h] at kk; exact kk ls H locs hl hP hS)
      · exact lv_if_le hx hb hd h2 (fun h => by rw [if_pos h] at kk; exact kk ls H locs hl hP hS) (fun h => by rw [if_neg h] at kk; exact kk ls H locs hl hP hS)
    · cases hstep
  case if_icmp cnd off =>
    simp only [z_step] at hstep
    simp only [Bool.and_eq_true, decide_eq_true_eq] at hchk
    obtain ⟨rfl, h2⟩ := hchk
    split at hstep
    · cases cnd
      all_goals (simp only at hstep; cases hstep)
      · exact lv_icmp_eq hx hb hd h2 (fun h => by rw [if_pos h] at kk; exact kk ls H locs hl hP hS) (fun h => by rw [if_neg h] at kk; exact kk ls H locs hl hP hS)
      · exact lv_icmp_ne hx hb hd h2 (fun h => by rw [if_neg h] at kk; exact kk ls H locs hl hP hS) (fun h => by rw [if_pos h] at kk; exact kk ls H locs hl hP hS)
      · exact lv_icmp_lt hx hb hd h2 (fun h => by rw [if_pos h] at kk; exact kk ls H locs hl hP hS) (fun h => by rw [if_neg h] at kk; exact kk ls H locs hl hP hS)
      · exact lv_icmp_ge hx hb hd h2 (fun h => by rw [if_pos h] at kk; exact kk ls H locs hl hP hS) (fun h => by rw [if_neg h] at kk; exact kk ls H locs hl hP hS)
      · exact lv_icmp_gt hx hb hd h2 (fun h => by rw [if_pos h] at kk; exact kk ls H locs hl hP hS) (fun h => by rw [if_neg h] at kk; exact kk ls H locs hl hP hS)
      · exact lv_icmp_le hx hb hd h2 (fun h => by rw [if_pos h] at kk; exact kk ls H locs hl hP hS) (fun h => by rw [if_neg h] at kk; exact kk ls H locs hl hP hS)
    · cases hstep
  case goto off =>
    simp only [z_step] at hstep
    cases hstep
    simp only [Bool.and_eq_true, decide_eq_true_eq] at hchk
    obtain ⟨rfl, h2⟩ := hchk
    exact lv_goto hx hb hd h2 (kk ls H locs hl hP hS)
  case ifnull off =>
    simp only [z_step] at hstep
    simp only [Bool.and_eq_true, decide_eq_true_eq] at hchk
    obtain ⟨rfl, h2⟩ := hchk
    split at hstep
    · cases hstep
      exact lv_ifnullN hx hb hd h2 (kk ls H locs hl hP hS)
    · cases hstep
      exact lv_ifnull hx hb hd (kk ls H locs hl hP hS)
    · cases hstep
  case ifnonnull off =>
    simp only [z_step] at hstep
    simp only [Bool.and_eq_true, decide_eq_true_eq] at hchk
    obtain ⟨rfl, h2⟩ := hchk
    split at hstep
    · cases hstep
      exact lv_ifnonnullN hx hb hd (kk ls H locs hl hP hS)
    · cases hstep
      exact lv_ifnonnull hx hb hd h2 (kk ls H locs hl hP hS)
    · cases hstep
  case tableswitch dflt lo hi offs =>
    simp only [z_step] at hstep
    simp only [Bool.and_eq_true, decide_eq_true_eq, List.all_eq_true] at hchk
    obtain ⟨h1, h2⟩ := hchk
    split at hstep
    · split at hstep
      · rename_i h3
        cases hstep
        exact lv_tableOut hx hb hd h3 (z_tgt_eq h1) (kk ls H locs hl hP hS)
      · rename_i h3
        split at hstep
        · rename_i off ho
          cases hstep
          exact lv_tableIn hx hb hd (fun h => h3 (Or.inl h)) (fun h => h3 (Or.inr h)) ho (z_tgt_eq (h2 off (by simpa using Array.mem_of_getElem? ho))) (kk ls H locs hl hP hS)
        · cases hstep
    · cases hstep
  case lookupswitch dflt ps =>
    simp only [z_step] at hstep
    simp only [Bool.and_eq_true, decide_eq_true_eq] at hchk
    obtain ⟨⟨h1, h2⟩, h3⟩ := hchk
    split at hstep
    · cases hstep
      exact lv_lookup hx hb hd h3 rfl (z_tgt_eq (z_lk_pos _ h1 (fun x hx => by simpa using List.all_eq_true.mp h2 x hx))) (kk ls H locs hl hP hS)
    · cases hstep
  case getfield i =>
    simp only [z_step] at hstep
    rw [Bool.and_eq_true, decide_eq_true_eq] at hchk
    obtain ⟨rfl, h2⟩ := hchk
    unfold z_cf at h2
    split at h2
    · rename_i C T N hc
      simp only [Bool.and_eq_true, decide_eq_true_eq] at h2
      obtain ⟨⟨⟨hb1, hb2⟩, hb3⟩, hb4⟩ := h2
      obtain ⟨g1, g2, -, -⟩ := hCL a C T N hc
      split at hstep
      · rename_i g o r
        split at hstep
        · rename_i ho
          obtain ⟨jj, hj⟩ := List.getElem?_of_mem (show (g, o) ∈ S.2.2.2.2 from hv1.h)
          have he := z_ws_at (fk := fk) (ad := ad) (cA := cA) (w := w) hj
          rw [z_cell_o (o := (g, o)) ho] at he
          have hv := z_fs_at (S := S) (ad := ad) (w := w) (o := (g, o)) (ks := fk a) (b := b) (by omega)
          have hgo : ∀ v : Value, z_fv S ad w (fk a) (g, o) b = v → W p l e R s m args below meth c H locs 0 0 Q (F0 m (pc + 3) ls (v :: r.map (z_v ad))) → W p l e R s m args below meth c H locs 0 0 Q (F0 m pc ls (Value.ref (ad (g, o)) :: r.map (z_v ad))) := by
            intro v hv2 k2
            rw [hv2] at hv
            by_cases hq : q % 2 = 0
            · rw [if_pos hq, decide_eq_true_eq] at hb4
              exact va_get hx hb hts g1 hown hK hP jj he hc b hb1 (hts _ (hWs _ (List.mem_of_getElem? hb4) rfl)) (fun x h9 => by rw [hb2] at h9; exact h9) hv hd k2
            · rw [if_neg hq, decide_eq_true_eq] at hb4
              exact va_getN hx hb hts g1 hown hK hP jj he hc b hb1 (va_Nw.use rfl (hNs _ (hWN _ (List.mem_of_getElem? hb4) rfl))) (fun x h9 => by rw [hb2] at h9; exact h9) hv hd k2
          split at hstep
          · cases hstep
            exact hgo _ (by unfold z_fv; rw [if_pos hb3]; rfl) (kk ls H locs hl hP hS)
          · rename_i ht2
            cases hstep
            exact hgo _ (by unfold z_fv; rw [if_neg (by rw [hb3]; exact ht2)]; rfl) (kk ls H locs hl hP hS)
        · cases hstep
      · cases hstep
    · cases h2
  case putfield i =>
    simp only [z_step] at hstep
    rw [Bool.and_eq_true, Bool.and_eq_true, decide_eq_true_eq] at hchk
    obtain ⟨⟨rfl, h2⟩, h3⟩ := hchk
    unfold z_cf at h2
    unfold z_cp2 at h3
    split at h2
    · rename_i C T N hc
      rw [hc] at h3
      simp only [Bool.and_eq_true, decide_eq_true_eq] at h2 h3
      obtain ⟨⟨⟨hb1, hb2⟩, hb3⟩, hb4⟩ := h2
      obtain ⟨⟨hf1, hf2⟩, hf3⟩ := h3
      obtain ⟨g1, g2, ⟨ty0, g3⟩, g4⟩ := hCL a C T N hc
      split at hstep
      · rename_i x g o r
        split at hstep
        · rename_i ho
          cases hstep
          obtain ⟨jj, hj⟩ := List.getElem?_of_mem (show (g, o) ∈ S.2.2.2.2 from hv1.t.h)
          have he := z_ws_at (fk := fk) (ad := ad) (cA := cA) (w := w) hj
          rw [z_cell_o (o := (g, o)) ho.1] at he
          have hbl : b < (fk a).length := by omega
          have hset := z_ws_set (fk := fk) (ad := ad) (cA := cA) (w := w) (w' := z_si w g o b x) hnd hj (z_si_o (o := (g, o)) ho.1 hbl (by rw [hb3]; omega)) (fun q hq => z_si_ne (o := (g, o)) hq)
          have hn : narrow (if t = 0 then .int else .boolean) (.int x) = .int x := by
            rcases ho.2 with h | h
            · rw [if_pos h]; rfl
            · by_cases h0 : t = 0
              · rw [if_pos h0]; rfl
              · rw [if_neg h0]
                rcases h with rfl | rfl <;> rfl
          have hfit : fits (if t = 0 then .int else .boolean) (.int x) = true := by
            rcases ho.2 with h | h
            · rw [if_pos h]; rfl
            · by_cases h0 : t = 0
              · rw [if_pos h0]; rfl
              · rw [if_neg h0]
                rcases h with rfl | rfl <;> rfl
          by_cases hq : q % 2 = 0
          · rw [if_pos hq, decide_eq_true_eq] at hb4
            exact va_put hx hb hts g1 ty0 g3 g4 hown hK hP (hD rfl w) hS jj he hc b hb1 (hts _ (hWs _ (List.mem_of_getElem? hb4) rfl)) (fun x h9 => by rw [hb2] at h9; exact h9) hf1 hf2 hn hfit (by simpa using hbl) hd (fun H1 locs1 k1 _ k3 => kk ls H1 locs1 hl (by rw [← hset]; exact k1) k3)
          · rw [if_neg hq, decide_eq_true_eq] at hb4
            exact va_putN hx hb hts g1 ty0 g3 g4 hown hK hP (hD rfl w) hS jj he hc b hb1 (va_Nw.use rfl (hNs _ (hWN _ (List.mem_of_getElem? hb4) rfl))) (fun x h9 => by rw [hb2] at h9; exact h9) hf1 hf2 hn hfit (by simpa using hbl) hd (fun H1 locs1 k1 _ k3 => kk ls H1 locs1 hl (by rw [← hset]; exact k1) k3)
        · cases hstep
      · cases hstep
    · cases h2
  case iaload =>
    simp only [z_step] at hstep
    simp only [decide_eq_true_eq] at hchk
    subst hchk
    split at hstep
    · rename_i i g o r
      split at hstep
      · rename_i ho
        cases hstep
        obtain ⟨jj, hj⟩ := List.getElem?_of_mem (show (g, o) ∈ S.2.2.2.2 from hv1.t.h)
        have he := z_ws_at (fk := fk) (ad := ad) (cA := cA) (w := w) hj
        rw [z_cell_1 (o := (g, o)) ho.1] at he
        exact va_iald hx hb hK hP jj 0 he (hty1 g ho.1) (z_in_vp ho.2) hd (kk ls H locs hl hP hS)
      · cases hstep
    · cases hstep
  case laload =>
    simp only [z_step] at hstep
    simp only [decide_eq_true_eq] at hchk
    subst hchk
    split at hstep
    · rename_i i g o r
      split at hstep
      · rename_i ho
        cases hstep
        obtain ⟨jj, hj⟩ := List.getElem?_of_mem (show (g, o) ∈ S.2.2.2.2 from hv1.t.h)
        have he := z_ws_at (fk := fk) (ad := ad) (cA := cA) (w := w) hj
        rw [z_cell_2 (o := (g, o)) ho.1] at he
        exact va_lald hx hb hK hP jj 1 he (hty2 g ho.1) (z_in_vp ho.2) hd (kk ls H locs hl hP hS)
      · cases hstep
    · cases hstep
  case aaload =>
    simp only [z_step] at hstep
    simp only [decide_eq_true_eq] at hchk
    subst hchk
    split at hstep
    · rename_i i g o r
      split at hstep
      · rename_i ho
        cases hstep
        obtain ⟨jj, hj⟩ := List.getElem?_of_mem (show (g, o) ∈ S.2.2.2.2 from hv1.t.h)
        have he := z_ws_at (fk := fk) (ad := ad) (cA := cA) (w := w) hj
        rw [z_cell_3 (o := (g, o)) ho.1] at he
        exact va_aldq hx hb hK hP jj 2 he (hty3 g ho.1) (z_in_vp ho.2) hd (kk ls H locs hl hP hS)
      · cases hstep
    · cases hstep
  case iastore =>
    simp only [z_step] at hstep
    simp only [decide_eq_true_eq] at hchk
    subst hchk
    split at hstep
    · rename_i x i g o r
      split at hstep
      · rename_i ho
        cases hstep
        obtain ⟨jj, hj⟩ := List.getElem?_of_mem (show (g, o) ∈ S.2.2.2.2 from hv1.t.t.h)
        have he := z_ws_at (fk := fk) (ad := ad) (cA := cA) (w := w) hj
        rw [z_cell_1 (o := (g, o)) ho.1] at he
        have hset := z_ws_set (fk := fk) (ad := ad) (cA := cA) (w := w) (w' := z_si w g o i.toNatClampNeg x) hnd hj (z_si_1 (o := (g, o)) ho.1) (fun q hq => z_si_ne (o := (g, o)) hq)
        exact va_iast hx hb hK hP (hD rfl w) hS jj 0 he (hty1 g ho.1) (z_in_vp ho.2) hd (fun H1 locs1 k1 _ k3 => kk ls H1 locs1 hl (by rw [← hset]; exact k1) k3)
      · cases hstep
    · cases hstep
  case lastore =>
    simp only [z_step] at hstep
    simp only [decide_eq_true_eq] at hchk
    subst hchk
    split at hstep
    · rename_i x i g o r
      split at hstep
      · rename_i ho
        cases hstep
        obtain ⟨jj, hj⟩ := List.getElem?_of_mem (show (g, o) ∈ S.2.2.2.2 from hv1.t.t.h)
        have he := z_ws_at (fk := fk) (ad := ad) (cA := cA) (w := w) hj
        rw [z_cell_2 (o := (g, o)) ho.1] at he
        have hset := z_ws_set (fk := fk) (ad := ad) (cA := cA) (w := w) (w' := z_sl w g o i.toNatClampNeg x) hnd hj (z_sl_2 (o := (g, o)) ho.1) (fun q hq => z_sl_ne (o := (g, o)) hq)
        exact va_last hx hb hK hP (hD rfl w) hS jj 1 he (hty2 g ho.1) (z_in_vp ho.2) hd (fun H1 locs1 k1 _ k3 => kk ls H1 locs1 hl (by rw [← hset]; exact k1) k3)
      · cases hstep
    · cases hstep
  case aastore =>
    simp only [z_step] at hstep
    simp only [Bool.and_eq_true, decide_eq_true_eq] at hchk
    obtain ⟨rfl, hjn⟩ := hchk
    split at hstep
    · rename_i g' v i g o r
      split at hstep
      · rename_i ho
        cases hstep
        obtain ⟨h1, h2, h3, h4⟩ := ho
        subst h3
        obtain ⟨jj, hj⟩ := List.getElem?_of_mem (show (g, o) ∈ S.2.2.2.2 from hv1.t.t.h)
        have he := z_ws_at (fk := fk) (ad := ad) (cA := cA) (w := w) hj
        rw [z_cell_3 (o := (g, o)) h1] at he
        obtain ⟨jv, hjv⟩ := List.getElem?_of_mem (show (S.2.2.2.1, v) ∈ S.2.2.2.2 from hv1.h)
        have hev := z_ws_at (fk := fk) (ad := ad) (cA := cA) (w := w) hjv
        rw [z_cell_o (o := (S.2.2.2.1, v)) h4] at hev
        cases hc : cl[a]? with
        | none => rw [hc] at hjn; cases hjn
        | some r9 =>
          rw [hc] at hjn
          have hjn2 : r9.1 = jn := by simpa using hjn
          have hset := z_ws_set (fk := fk) (ad := ad) (cA := cA) (w := w) (w' := z_sr w g o i.toNatClampNeg v) hnd hj (z_sr_3 (o := (g, o)) h1) (fun q hq => z_sr_ne (o := (g, o)) hq)
          exact va_astq hx hb hK hP (hD rfl w) hS jj 2 jv a he (by rw [hjn2]; exact hty3 g h1) hev hc (z_in_vp h2) hd (fun H1 locs1 k1 _ k3 => kk ls H1 locs1 hl (by rw [← hset]; exact k1) k3)
      · cases hstep
    · cases hstep
  case arraylength =>
    simp only [z_step] at hstep
    simp only [decide_eq_true_eq] at hchk
    subst hchk
    split at hstep
    · rename_i g o r
      split at hstep
      · rename_i ho
        cases hstep
        obtain ⟨jj, hj⟩ := List.getElem?_of_mem (show (g, o) ∈ S.2.2.2.2 from hv1.h)
        have he := z_ws_at (fk := fk) (ad := ad) (cA := cA) (w := w) hj
        rw [z_cell_1 (o := (g, o)) ho] at he
        exact va_alen hx hb hK hP jj 0 he (hty1 g ho) rfl hd (kk ls H locs hl hP hS)
      · cases hstep
    · cases hstep
  case invokestatic i =>
    simp only [z_step] at hstep
    rw [Bool.and_eq_true, decide_eq_true_eq] at hchk
    obtain ⟨rfl, h2⟩ := hchk
    split at hstep
    · unfold z_call at hstep
      split at hstep
      · cases hstep
      · cases hstep
    · rename_i ht
      split at hstep
      · rename_i n dp g' o' sp g o r
        split at hstep
        · rename_i ho
          cases hstep
          have h3 : z_ca Ws own i R.frames R.locals = true := by
            split at h2
            · exact absurd rfl ht
            · exact h2
          unfold z_ca at h3
          simp only [Bool.and_eq_true, decide_eq_true_eq, List.contains_iff_mem] at h3
          obtain ⟨⟨⟨⟨⟨w1, w2⟩, w3⟩, w4⟩, w5⟩, w6⟩ := h3
          obtain ⟨k1, k2, k3, k4, k5, k6, k7, k8⟩ := ho
          have nn : ∀ z : Int32, 0 ≤ z.toInt → ¬ z < 0 ∧ ((z.toNatClampNeg : Nat) : Int) = z.toInt := by
            intro z hz
            refine ⟨fun h => ?_, ?_⟩
            · have := Int32.lt_iff_toInt_lt.mp h
              rw [Int32.toInt_zero] at this
              omega
            · show ((z.toInt.toNat : Nat) : Int) = z.toInt
              omega
          obtain ⟨j0, hj0⟩ := List.getElem?_of_mem (show (g, o) ∈ S.2.2.2.2 from hv1.t.t.t.t.h)
          obtain ⟨j1, hj1⟩ := List.getElem?_of_mem (show (g', o') ∈ S.2.2.2.2 from hv1.t.t.h)
          have he0 := z_ws_at (fk := fk) (ad := ad) (cA := cA) (w := w) hj0
          rw [z_cell_1 (o := (g, o)) k1] at he0
          have he1 := z_ws_at (fk := fk) (ad := ad) (cA := cA) (w := w) hj1
          rw [z_cell_1 (o := (g', o')) k2] at he1
          have hset := z_ws_set (fk := fk) (ad := ad) (cA := cA) (w := w) (w' := z_cp w g o sp.toNatClampNeg g' o' dp.toNatClampNeg n.toNatClampNeg) hnd hj1 (z_cp_1 (o := (g', o')) k2) (fun q hq => z_cp_ne (o := (g', o')) hq)
          have e1 := (nn sp k3).2
          have e2 := (nn dp k4).2
          have e3 := (nn n k5).2
          exact va_copyi hx hb (by rw [hml]; exact hl.1.symm) hown (hts _ (hWs _ w1 rfl)) (hts _ (hWs _ w2 rfl)) (hts _ (hWs _ w3 rfl)) (hts _ (hWs _ w4 rfl)) hK hP (hD (by unfold z_isw; dsimp only; split <;> first | rfl | (exfalso; exact ht rfl)) w) hS j0 j1 0 0 he0 he1 (hty1 g k1) (hty1 g k1) rfl (nn sp k3).1 (nn dp k4).1 (nn n k5).1 (by show _ ≤ S.2.1 g o; omega) (by show _ ≤ S.2.1 g' o'; omega) (fun _ _ => rfl) w5 (by rw [z_cat_map]; omega) hd (fun H1 locs1 k1 _ k3 => kk ls H1 locs1 hl (by rw [← hset]; exact k1) k3)
        · cases hstep
      · cases hstep
  case invokevirtual i =>
    simp only [z_step] at hstep
    unfold z_call at hstep
    split at hstep
    · split at hstep
      · cases hstep
      · split at hstep
        · split at hstep
          · cases hstep
          · cases hstep
        · cases hstep
    · cases hstep
  case ireturn =>
    simp only [z_step] at hstep
    split at hstep
    · split at hstep <;> cases hstep
    · cases hstep
  case lreturn =>
    simp only [z_step] at hstep
    split at hstep <;> cases hstep
  case areturn =>
    simp only [z_step] at hstep
    split at hstep <;> cases hstep
  case return_ =>
    simp only [z_step] at hstep
    split at hstep <;> cases hstep
  all_goals (simp only [z_step] at hstep; cases hstep)
end ZW
end
section
/-! the walk of all methods at once -/
def z_Pc (S : z_S) (fk : Nat → List Nat) (ad : z_N → Nat) (cA : Nat → ClassId) (D : va_G) (cl : List vw_C) (tys : List (ClassId × FieldType)) (Ns : List Jvm.Cond) (as : List z_V) (w : z_W) : Array Value → State → Prop :=
  fun v U => v = (as.map (z_v ad)).toArray ∧ va_P D cl (z_ws S fk ad cA w) U.heap ∧ va_K D cl tys U ∧ ∀ x ∈ Ns, va_Nw x U
def z_Qc (S : z_S) (fk : Nat → List Nat) (ad : z_N → Nat) (cA : Nat → ClassId) (D : va_G) (cl : List vw_C) (A : Nat → Prop) (w : z_W) (r : Option z_V) : Array Value → State → Outcome → State → Prop :=
  fun _ st o t => o = .returned (r.map (z_v ad)) ∧ va_P D cl (z_ws S fk ad cA w) t.heap ∧ va_F A st t
def z_rm (mt : z_M) : Room := { frames := mt.2.2.2.2.2.2.1, cells := 0, slots := 0, locals := mt.2.2.2.2.2.2.2 }
def z_wm (Ts : List Jvm.Cond) (mt : z_M) : List Jvm.Cond := Jvm.Cond.code mt.1 mt.2.1 mt.2.2.1 mt.2.2.2.1 :: Ts
section ZR
variable {p : Program} {l : Launch} {e : Env} {R : Room} {s : State} {m : MethodId} {args : Array Value} {below : List Frame} {meth : Method} {c : Code} {H : Heap} {locs : List Loc}
variable {S : z_S} {fk : Nat → List Nat} {ad : z_N → Nat} {cA : Nat → ClassId} {D : va_G} {cl : List vw_C} {tys : List (ClassId × FieldType)} {A : Nat → Prop} {Ts Ws Ns : List Jvm.Cond} {jn hst own : String} {cc : ByteArray} {rt : Option FieldType} {nM : Nat} {M : Nat → z_M}
set_option maxHeartbeats 4000000 in
set_option maxRecDepth 100000 in
theorem z_ret (hx : p.tables.exec = Jvm.exec) (hb : c.code = cc) (hr : meth.sig.returnType = rt) (hlocks : meth.locks = false) {pc : Nat} {I : z_I} {L : z_L} {st : List z_V} {w : z_W} {rv : Option z_V} {ls : Array Slot}
    (hchk : z_chk cl fk nM M Ws jn hst own cc rt R.frames R.locals pc I = true) (hstep : z_step S M I pc L st w = some (.inr (.inl rv))) (hP : va_P D cl (z_ws S fk ad cA w) H) (hS : va_S A s.heap H locs) :
    W p l e R s m args below meth c H locs 0 0 (MQ below (z_Qc S fk ad cA D cl A w rv) args s 0 0 A) (F0 m pc ls (st.map (z_v ad))) := by
  obtain ⟨ins, len, a, b, t, q, c0, d⟩ := I
  unfold z_chk at hchk
  rw [Bool.and_eq_true, decide_eq_true_eq] at hchk
  obtain ⟨hd, hchk⟩ := hchk
  dsimp only at hd hchk
  cases ins
  case ireturn =>
    simp only [z_step] at hstep
    simp only [Bool.and_eq_true, decide_eq_true_eq] at hchk
    obtain ⟨rfl, h2⟩ := hchk
    split at hstep
    · rename_i x
      split at hstep
      · rename_i ht
        cases hstep
        have hn : narrow (if t = 0 then .int else .boolean) (.int x) = .int x := by
          rcases ht with h | h
          · rw [if_pos h]; rfl
          · by_cases h0 : t = 0
            · rw [if_pos h0]; rfl
            · rw [if_neg h0]
              rcases h with rfl | rfl <;> rfl
        exact W.zret hx hb (hr.trans h2) hn (fun t ht _ => ⟨rfl, by rw [ht]; exact hP, hS.F ht⟩) hS.2.2 hd hlocks
      · cases hstep
    · cases hstep
  case lreturn =>
    simp only [z_step] at hstep
    simp only [Bool.and_eq_true, decide_eq_true_eq] at hchk
    obtain ⟨rfl, h2⟩ := hchk
    split at hstep
    · cases hstep
      exact W.lret hx hb (hr.trans h2) (fun t ht _ => ⟨rfl, by rw [ht]; exact hP, hS.F ht⟩) hS.2.2 hd hlocks
    · cases hstep
  case areturn =>
    simp only [z_step] at hstep
    rw [Bool.and_eq_true, decide_eq_true_eq] at hchk
    obtain ⟨rfl, h2⟩ := hchk
    split at h2
    · rename_i nm
      split at hstep
      · rename_i x
        cases hstep
        cases x with
        | none => exact W.aret hx hb hr (Or.inl ⟨nm, rfl⟩) (Or.inl rfl) (fun t ht _ => ⟨rfl, by rw [ht]; exact hP, hS.F ht⟩) hS.2.2 hd hlocks
        | some x => exact W.aret hx hb hr (Or.inl ⟨nm, rfl⟩) (Or.inr ⟨_, rfl⟩) (fun t ht _ => ⟨rfl, by rw [ht]; exact hP, hS.F ht⟩) hS.2.2 hd hlocks
      · cases hstep
    · cases h2
  case return_ =>
    simp only [z_step] at hstep
    simp only [Bool.and_eq_true, decide_eq_true_eq] at hchk
    obtain ⟨rfl, h2⟩ := hchk
    split at hstep
    · cases hstep
      exact W.vret hx hb (hr.trans h2) (fun t ht _ => ⟨rfl, by rw [ht]; exact hP, hS.F ht⟩) hS.2.2 hd hlocks
    · cases hstep
  case invokevirtual i =>
    simp only [z_step] at hstep
    unfold z_call at hstep
    (repeat' split at hstep) <;> cases hstep
  case invokestatic i =>
    simp only [z_step] at hstep
    unfold z_call at hstep
    (repeat' split at hstep) <;> cases hstep
  all_goals (simp only [z_step] at hstep; (first | (cases hstep; done) | ((repeat' split at hstep) <;> cases hstep)))
/-- what a call is -/
theorem z_call_spec {k n nL mj mi' : Nat} {st as rest : List z_V} (h : z_call S k n nL mj st = some (.inr (.inr (mi', as, rest)))) :
    mi' = mj ∧ st = as.reverse ++ rest ∧ as.length = n ∧ z_cat rest ≤ 8 ∧ (z_args as).length ≤ nL ∧ (k ≠ 0 → ∃ g o as', as = (.inr (.inr (some (g, o)))) :: as' ∧ S.1 g = k) := by
  unfold z_call at h
  split at h
  · rename_i hc
    obtain ⟨h1, h2, h3⟩ := hc
    have hst : st = ((st.take n).reverse).reverse ++ st.drop n := by rw [List.reverse_reverse, List.take_append_drop]
    have hln : ((st.take n).reverse).length = n := by rw [List.length_reverse, List.length_take]; omega
    split at h
    · cases h
      exact ⟨rfl, hst, hln, h2, h3, fun q => absurd rfl q⟩
    · split at h
      · rename_i g o as' he
        split at h
        · rename_i ho
          cases h
          exact ⟨rfl, hst, hln, h2, h3, fun _ => ⟨g, o, as', he, ho⟩⟩
        · cases h
      · cases h
  · cases h
set_option maxHeartbeats 4000000 in
set_option maxRecDepth 100000 in
theorem z_inv {nL pc mj : Nat} {I : z_I} {L : z_L} {st as rest : List z_V} {w w1 : z_W} {r1 : Option z_V} {ls : Array Slot} {Q : State → Prop} (hx : p.tables.exec = Jvm.exec) (hb : c.code = cc) (hown : s.vm.findClass own = some m.cls) (hts : ∀ w ∈ Ts, w.before args s = true) (hWs : ∀ w ∈ Ws, goodWord w = true → w ∈ Ts) (hWN : ∀ w ∈ Ws, z_nest w = true → w ∈ Ns) (hNs : ∀ w ∈ Ns, va_Nw w s) (hK : va_K D cl tys s)
    (hgood : ∀ w ∈ Ts, goodWord w = true) (hNt : ∀ w ∈ Ns, w.onTables = true) (hNm : ∀ w ∈ Ns, ∀ s U : State, s.WarmedH U.vm → va_Nw w s → va_Nw w U)
    (hv1 : z_vs S st) (hMO : ∀ mi, mi < nM → z_MO cl Ts (M mi)) (hml : c.maxLocals = nL) (hls : ls.size = nL)
    (hchk : z_chk cl fk nM M Ws jn hst own cc rt R.frames R.locals pc I = true) (hstep : z_step S M I pc L st w = some (.inr (.inr (mj, as, rest))))
    (hP : va_P D cl (z_ws S fk ad cA w) H) (hS : va_S A s.heap H locs)
    (hMet : mj < nM → (z_args as).length ≤ (M mj).2.2.1 → Met l (M mj).1 (z_wm Ts (M mj)) (z_rm (M mj)) (z_Pc S fk ad cA D cl tys Ns as w) (z_Qc S fk ad cA D cl A w1 r1) 0 0 A)
    (kk : ∀ (H' : Heap) (locs' : List Loc), va_P D cl (z_ws S fk ad cA w1) H' → va_S A s.heap H' locs' → W p l e R s m args below meth c H' locs' 0 0 Q (F0 m (pc + 3) ls ((r1.toList ++ rest).map (z_v ad)))) :
    W p l e R s m args below meth c H locs 0 0 Q (F0 m pc ls (st.map (z_v ad))) := by
  have fin : ∀ (v : Option Value) (st₀ t : State) (H1 : Heap) (locs1 : List Loc), st₀.heap = H → z_Qc S fk ad cA D cl A w1 r1 (as.map (z_v ad)).toArray st₀ (.returned v) t → t.heap = H1 → (∀ x ∈ locs1, x ∈ locs ∨ A x.base) → W p l e R s m args below meth c H1 locs1 0 0 Q (F0 m (pc + 3) ls (v.toList ++ rest.map (z_v ad))) := by
    intro v st₀ t H1 locs1 h0 hq ht hl1
    obtain ⟨q1, q2, q3⟩ := hq
    have hv : v = r1.map (z_v ad) := by cases q1; rfl
    have e1 : v.toList ++ rest.map (z_v ad) = (r1.toList ++ rest).map (z_v ad) := by
      rw [hv, List.map_append]
      cases r1 <;> rfl
    rw [e1]
    refine kk H1 locs1 (by rw [← ht]; exact q2) ⟨?_, ?_, ?_⟩
    · exact Nat.le_trans hS.1 (by rw [← h0, ← ht]; exact q3.1)
    · intro q g1 g2
      rw [← ht, q3.2 q (by rw [h0]; exact Nat.lt_of_lt_of_le g1 hS.1) g2, h0]
      exact hS.2.1 q g1 g2
    · intro x hx1
      rcases hl1 x hx1 with h | h
      · exact hS.2.2 x h
      · exact h
  have blind : FrameBlind (z_Pc S fk ad cA D cl tys Ns as w) := by
    intro a U g mk hq
    obtain ⟨q0, qP, qK, qN⟩ := hq
    exact ⟨q0, qP, va_K.moved (u := U) (U := U.calling g mk a) (Vm.Alike.refl U.vm) qK, fun x hx1 => va_Nw.same (u := U) (U := U.calling g mk a) (hNt x hx1) rfl (qN x hx1)⟩
  have pre : ∀ U : State, U.heap = H → s.WarmedH U.vm → z_Pc S fk ad cA D cl tys Ns as w (as.map (z_v ad)).toArray U := fun U hU hW =>
    ⟨rfl, by rw [hU]; exact hP, va_K.moved hW.alike hK, fun x hx1 => hNm x hx1 s U hW (hNs x hx1)⟩
  obtain ⟨ins, len, a, b, t, q, c0, d⟩ := I
  unfold z_chk at hchk
  rw [Bool.and_eq_true, decide_eq_true_eq] at hchk
  obtain ⟨hd, hchk⟩ := hchk
  dsimp only at hd hchk
  have back : a < nM → (M a).2.2.2.2.2.2.1 + 1 ≤ R.frames → 8 + ((M a).2.2.1 + 11) + (M a).2.2.2.2.2.2.2 ≤ R.locals →
      ((z_rm (M a)).cells = 0 ∧ (z_rm (M a)).slots = 0 ∧ (z_rm (M a)).frames + 1 ≤ R.frames ∧ 8 + ((M a).2.2.1 + 11) + (z_rm (M a)).locals ≤ R.locals ∧ (∀ w ∈ z_wm Ts (M a), ∀ (a' : Array Value) (U : State), s.WarmedH U.vm → w.before a' U = true) ∧ Jvm.Cond.code (M a).1 (M a).2.1 (M a).2.2.1 (M a).2.2.2.1 ∈ z_wm Ts (M a)) := by
    intro h1 h2 h3
    refine ⟨rfl, rfl, h2, h3, ?_, List.mem_cons_self⟩
    intro x hx1 a' U hW
    have hxT : x ∈ Ts := by
      rcases List.mem_cons.mp hx1 with rfl | h
      · exact (hMO a h1).2.2.1
      · exact h
    exact word_at hW (good_of_word (hgood x hxT)) (hts x hxT)
  cases ins
  case invokevirtual i =>
    simp only [z_step] at hstep
    obtain ⟨rfl, hstk, hlen, hcat, hargs, hrecv⟩ := z_call_spec hstep
    simp only [Bool.and_eq_true, decide_eq_true_eq] at hchk
    obtain ⟨⟨⟨rfl, h2⟩, h3⟩, h4⟩ := hchk
    unfold z_cr at h3
    simp only [Bool.and_eq_true, decide_eq_true_eq] at h3
    obtain ⟨⟨r1', r2⟩, r3⟩ := h3
    obtain ⟨m1, m2, m3, m4, m5, m6, m7⟩ := hMO mj r1'
    obtain ⟨m8, m9, ci, T, N, m10, m11⟩ := m7 h4
    obtain ⟨g, o, as', rfl, ho⟩ := hrecv h4
    have hin : (g, o) ∈ S.2.2.2.2 := hv1 (.inr (.inr (some (g, o)))) (by rw [hstk]; simp)
    obtain ⟨jj, hj⟩ := List.getElem?_of_mem hin
    have he := z_ws_at (fk := fk) (ad := ad) (cA := cA) (w := w) hj
    rw [z_cell_o (o := (g, o)) (a := ci) (by rw [ho]; exact m10)] at he
    have hcell := va_recv hK hP m11 he
    have hpar : ∀ sig, parseMethodDescriptor (M mj).1.desc = some sig → as'.length = sig.parameters.length := by
      intro sig hsig
      have := m5 sig hsig
      rw [if_neg h4] at this
      simp only [List.length_cons] at hlen
      omega
    have hstack : (st.map (z_v ad)) = (as'.map (z_v ad)).reverse ++ Value.ref (ad (g, o)) :: rest.map (z_v ad) := by
      rw [hstk]
      simp [z_v]
    have hbk := back r1' r2 r3
    by_cases hq : q % 2 = 0
    · unfold z_cl at h2
      rw [if_pos hq, decide_eq_true_eq] at h2
      exact z_wcall (va_runV (As := as'.map (z_v ad)) (b := ad (g, o)) (C := (M mj).1.cls) (index := i) (bytes := (M mj).2.1) (maxL := (M mj).2.2.1) (ret := (M mj).2.2.2.1) (n := as'.length) ⟨hx, hb, hml, hown, hts⟩ (hMet r1' hargs)
        ⟨⟨hbk.1, hbk.2.1, hbk.2.2.1, hbk.2.2.2.1, hbk.2.2.2.2.1, hbk.2.2.2.2.2, hts _ m3, hts _ m4, m2, hpar, hts _ (hWs _ (List.mem_of_getElem? h2) rfl)⟩, hts _ m8, hts _ m9⟩
        ⟨blind, hcell, pre⟩ rfl (by simp) hls hstack (lv_room (by rw [z_cat_map]; exact hcat)) hd ⟨Nat.zero_le _, Nat.zero_le _⟩) fin
    · unfold z_cl at h2
      rw [if_neg hq, decide_eq_true_eq] at h2
      exact z_wcall (va_runVN (As := as'.map (z_v ad)) (b := ad (g, o)) (C := (M mj).1.cls) (index := i) (host := hst) (bytes := (M mj).2.1) (maxL := (M mj).2.2.1) (ret := (M mj).2.2.2.1) (n := as'.length) ⟨hx, hb, hml, hown, hts⟩ (hMet r1' hargs)
        ⟨⟨hbk, hts _ m3, hts _ m4, m2, hpar, va_Nw.use rfl (hNs _ (hWN _ (List.mem_of_getElem? h2) rfl))⟩, hts _ m8, hts _ m9⟩
        ⟨blind, hcell, pre⟩ rfl (by simp) hls hstack (lv_room (by rw [z_cat_map]; exact hcat)) hd ⟨Nat.zero_le _, Nat.zero_le _⟩) fin
  case invokestatic i =>
    simp only [z_step] at hstep
    rw [Bool.and_eq_true, decide_eq_true_eq] at hchk
    obtain ⟨rfl, h2⟩ := hchk
    split at hstep
    · obtain ⟨rfl, hstk, hlen, hcat, hargs, -⟩ := z_call_spec hstep
      simp only [Bool.and_eq_true, decide_eq_true_eq] at h2
      obtain ⟨⟨h2, h3⟩, h4⟩ := h2
      unfold z_cr at h3
      simp only [Bool.and_eq_true, decide_eq_true_eq] at h3
      obtain ⟨⟨r1', r2⟩, r3⟩ := h3
      obtain ⟨m1, m2, m3, m4, m5, m6, m7⟩ := hMO mj r1'
      have hpar : ∀ sig, parseMethodDescriptor (M mj).1.desc = some sig → as.length = sig.parameters.length := by
        intro sig hsig
        have := m5 sig hsig
        rw [if_pos h4] at this
        omega
      have hstack : (st.map (z_v ad)) = (as.map (z_v ad)).reverse ++ rest.map (z_v ad) := by
        rw [hstk]
        simp
      have hbk := back r1' r2 r3
      by_cases hq : q % 2 = 0
      · unfold z_cl at h2
        rw [if_pos hq, decide_eq_true_eq] at h2
        exact z_wcall (va_runS (As := as.map (z_v ad)) (index := i) (bytes := (M mj).2.1) (maxL := (M mj).2.2.1) (ret := (M mj).2.2.2.1) (n := as.length) ⟨hx, hb, hml, hown, hts⟩ (hMet r1' hargs)
          ⟨⟨hbk.1, hbk.2.1, hbk.2.2.1, hbk.2.2.2.1, hbk.2.2.2.2.1, hbk.2.2.2.2.2, hts _ m3, hts _ m4, m2, hpar, hts _ (hWs _ (List.mem_of_getElem? h2) rfl)⟩, hts _ (m6 h4)⟩
          ⟨blind, pre⟩ rfl (by simp) hls hstack (lv_room (by rw [z_cat_map]; exact hcat)) hd ⟨Nat.zero_le _, Nat.zero_le _⟩) fin
      · unfold z_cl at h2
        rw [if_neg hq, decide_eq_true_eq] at h2
        exact z_wcall (va_runSN (As := as.map (z_v ad)) (index := i) (host := hst) (bytes := (M mj).2.1) (maxL := (M mj).2.2.1) (ret := (M mj).2.2.2.1) (n := as.length) ⟨hx, hb, hml, hown, hts⟩ (hMet r1' hargs)
          ⟨⟨hbk, hts _ m3, hts _ m4, m2, hpar, va_Nw.use rfl (hNs _ (hWN _ (List.mem_of_getElem? h2) rfl))⟩, hts _ (m6 h4), trivial⟩
          ⟨blind, pre⟩ rfl (by simp) hls hstack (lv_room (by rw [z_cat_map]; exact hcat)) hd ⟨Nat.zero_le _, Nat.zero_le _⟩) fin
    · (repeat' split at hstep) <;> cases hstep
  all_goals (simp only [z_step] at hstep; (first | (cases hstep; done) | ((repeat' split at hstep) <;> cases hstep)))
end ZR
section ZP
variable {S : z_S} {M : Nat → z_M} {I : z_I} {pc pc' : Nat} {L L' : z_L} {st st' : List z_V} {w w' : z_W}
set_option maxHeartbeats 4000000 in
set_option maxRecDepth 100000 in
theorem z_pres (hrr : ∀ o ∈ S.2.2.2.2, ∀ k, S.2.2.1 o.1 o.2 k ∈ S.2.2.2.2) (hstep : z_step S M I pc L st w = some (.inl (pc', L', st', w'))) (h1 : z_vs S st) (h2 : z_vL S L) (h3 : z_vw S w) : z_vs S st' ∧ z_vL S L' ∧ z_vw S w' := by
  obtain ⟨ins, len, a, b, t, q, c0, d⟩ := I
  cases ins
  case aload_n k =>
    simp only [z_step] at hstep
    split at hstep
    · rename_i x hv
      cases hstep
      exact ⟨z_vs.c (h2.ld hv) h1, h2, h3⟩
    · cases hstep
  case aload k =>
    simp only [z_step] at hstep
    split at hstep
    · rename_i x hv
      cases hstep
      exact ⟨z_vs.c (h2.ld hv) h1, h2, h3⟩
    · cases hstep
  case getfield i =>
    simp only [z_step] at hstep
    split at hstep
    · rename_i g o r
      split at hstep
      · split at hstep
        · cases hstep
          exact ⟨z_vs.c (hrr (g, o) h1.h b) h1.t, h2, h3⟩
        · cases hstep
          exact ⟨z_vs.c trivial h1.t, h2, h3⟩
      · cases hstep
    · cases hstep
  case aaload =>
    simp only [z_step] at hstep
    split at hstep
    · split at hstep
      · cases hstep
        exact ⟨z_vs.c (h3 _ _ _) h1.t.t, h2, h3⟩
      · cases hstep
    · cases hstep
  case aastore =>
    simp only [z_step] at hstep
    split at hstep
    · rename_i g' v i g o r
      split at hstep
      · rename_i ho
        cases hstep
        refine ⟨h1.t.t.t, h2, fun x y z => ?_⟩
        show (S.2.2.2.1, (z_sr w g o i.toNatClampNeg v).2.2 x y z) ∈ S.2.2.2.2
        unfold z_sr
        dsimp only
        split
        · have := h1.h
          rw [ho.2.2.1] at this
          exact this
        · exact h3 _ _ _
      · cases hstep
    · cases hstep
  case invokevirtual i =>
    simp only [z_step] at hstep
    unfold z_call at hstep
    (repeat' split at hstep) <;> cases hstep
  case invokestatic i =>
    simp only [z_step] at hstep
    unfold z_call at hstep
    (repeat' split at hstep) <;> first | (cases hstep; done) | (cases hstep; exact ⟨h1.t.t.t.t.t, h2, h3⟩)
  case dup =>
    simp only [z_step] at hstep
    split at hstep
    · cases hstep
      exact ⟨z_vs.c trivial h1, h2, h3⟩
    · cases hstep
      exact ⟨z_vs.c h1.h h1, h2, h3⟩
    · cases hstep
  case dup2 =>
    simp only [z_step] at hstep
    split at hstep
    · cases hstep
      exact ⟨z_vs.c trivial (z_vs.c h1.t.h h1), h2, h3⟩
    · cases hstep
  all_goals
    simp only [z_step] at hstep
    (repeat' split at hstep) <;> first
      | (cases hstep; done)
      | (cases hstep; first
        | exact ⟨h1, h2, h3⟩
        | exact ⟨h1.t, h2, h3⟩
        | exact ⟨h1.t.t, h2, h3⟩
        | exact ⟨h1.t.t.t, h2, h3⟩
        | exact ⟨z_vs.c trivial h1, h2, h3⟩
        | exact ⟨z_vs.c trivial h1.t, h2, h3⟩
        | exact ⟨z_vs.c trivial h1.t.t, h2, h3⟩
        | exact ⟨h1.t, h2.st1 trivial, h3⟩
        | exact ⟨h1.t, h2.st1 h1.h, h3⟩
        | exact ⟨h1.t, h2.st2 trivial, h3⟩
        | exact ⟨h1, h2.st1 trivial, h3⟩)
end ZP
section ZQ
variable {S : z_S} {M : Nat → z_M} {I : z_I} {pc : Nat} {L : z_L} {st : List z_V} {w : z_W}
set_option maxHeartbeats 4000000 in
set_option maxRecDepth 100000 in
theorem z_retv {rv : Option z_V} (hstep : z_step S M I pc L st w = some (.inr (.inl rv))) (h1 : z_vs S st) : z_vs S rv.toList := by
  obtain ⟨ins, len, a, b, t, q, c0, d⟩ := I
  cases ins
  case ireturn =>
    simp only [z_step] at hstep
    (repeat' split at hstep) <;> first | (cases hstep; done) | (cases hstep; exact z_vs.c trivial (fun _ h => by cases h))
  case lreturn =>
    simp only [z_step] at hstep
    (repeat' split at hstep) <;> first | (cases hstep; done) | (cases hstep; exact z_vs.c trivial (fun _ h => by cases h))
  case areturn =>
    simp only [z_step] at hstep
    (repeat' split at hstep) <;> first | (cases hstep; done) | (cases hstep; exact h1)
  case return_ =>
    simp only [z_step] at hstep
    (repeat' split at hstep) <;> first | (cases hstep; done) | (cases hstep; exact fun _ h => by cases h)
  case invokevirtual i =>
    simp only [z_step] at hstep
    unfold z_call at hstep
    (repeat' split at hstep) <;> cases hstep
  case invokestatic i =>
    simp only [z_step] at hstep
    unfold z_call at hstep
    (repeat' split at hstep) <;> cases hstep
  all_goals (simp only [z_step] at hstep; (first | (cases hstep; done) | ((repeat' split at hstep) <;> cases hstep)))
set_option maxHeartbeats 4000000 in
set_option maxRecDepth 100000 in
theorem z_callv {mj : Nat} {as rest : List z_V} (hstep : z_step S M I pc L st w = some (.inr (.inr (mj, as, rest)))) (h1 : z_vs S st) : z_vs S as ∧ z_vs S rest := by
  have key : ∀ k n nL a, z_call S k n nL a st = some (.inr (.inr (mj, as, rest))) → z_vs S as ∧ z_vs S rest := by
    intro k n nL a h
    obtain ⟨-, hst, -⟩ := z_call_spec h
    subst hst
    exact ⟨fun v hv => h1 v (List.mem_append_left _ (List.mem_reverse.mpr hv)), fun v hv => h1 v (List.mem_append_right _ hv)⟩
  obtain ⟨ins, len, a, b, t, q, c0, d⟩ := I
  cases ins
  case invokevirtual i =>
    simp only [z_step] at hstep
    exact key _ _ _ _ hstep
  case invokestatic i =>
    simp only [z_step] at hstep
    split at hstep
    · exact key _ _ _ _ hstep
    · (repeat' split at hstep) <;> cases hstep
  all_goals (simp only [z_step] at hstep; (first | (cases hstep; done) | ((repeat' split at hstep) <;> cases hstep)))
end ZQ
section ZMAIN
variable {l : Launch} {S : z_S} {fk : Nat → List Nat} {ad : z_N → Nat} {cA : Nat → ClassId} {D : va_G} {cl : List vw_C} {tys : List (ClassId × FieldType)} {A : Nat → Prop} {Ts Ws Ns : List Jvm.Cond} {jn hst : String} {nM : Nat} {M : Nat → z_M} {C : Nat → Nat → Option z_I}
/-- what is true of a side, whatever its world -/
def z_OK (S : z_S) (fk : Nat → List Nat) (ad : z_N → Nat) (cA : Nat → ClassId) (cl : List vw_C) (tys : List (ClassId × FieldType)) (A : Nat → Prop) (Ts Ws Ns : List Jvm.Cond) (jn hst : String) (nM : Nat) (M : Nat → z_M) (C : Nat → Nat → Option z_I) : Prop :=
  ((∀ w ∈ Ws, goodWord w = true → w ∈ Ts) ∧ ∀ w ∈ Ws, z_nest w = true → w ∈ Ns) ∧ (∀ w ∈ Ts, goodWord w = true) ∧ (∀ w ∈ Ns, w.onTables = true) ∧ (∀ w ∈ Ns, ∀ s U : State, s.WarmedH U.vm → va_Nw w s → va_Nw w U) ∧
  (S.2.2.2.2.Nodup ∧ ∀ o ∈ S.2.2.2.2, ∀ k, S.2.2.1 o.1 o.2 k ∈ S.2.2.2.2) ∧ ((∀ o, S.1 o = 1 → tys[0]? = some (cA 0, .int)) ∧ (∀ o, S.1 o = 2 → tys[1]? = some (cA 1, .long)) ∧ (∀ o, S.1 o = 3 → tys[2]? = some (cA 2, .object jn))) ∧
  z_CL cl fk Ts ∧ (∀ mi pc I, mi < nM → C mi pc = some I → z_isw I = true → ∀ w, va_D A (z_ws S fk ad cA w)) ∧ (∀ mi, mi < nM → z_MO cl Ts (M mi)) ∧
  (∀ mi pc I, mi < nM → C mi pc = some I → z_chk cl fk nM M Ws jn hst (M mi).1.cls (M mi).2.1 (M mi).2.2.2.1 (M mi).2.2.2.2.2.2.1 (M mi).2.2.2.2.2.2.2 pc I = true)
def z_WR (l : Launch) (S : z_S) (fk : Nat → List Nat) (ad : z_N → Nat) (cA : Nat → ClassId) (D : va_G) (cl : List vw_C) (tys : List (ClassId × FieldType)) (A : Nat → Prop) (Ts Ns : List Jvm.Cond) (nM : Nat) (M : Nat → z_M) (C : Nat → Nat → Option z_I) (n : Nat) : Prop :=
  ∀ (p : Program) (e : Env) (s : State) (m : MethodId) (args : Array Value) (below : List Frame) (meth : Method) (c : Code) (mi : Nat), mi < nM → p.tables.exec = Jvm.exec → c.code = (M mi).2.1 → c.maxLocals = (M mi).2.2.1 → meth.sig.returnType = (M mi).2.2.2.1 → meth.locks = false → s.vm.findClass (M mi).1.cls = some m.cls → (∀ w ∈ Ts, w.before args s = true) → (∀ w ∈ Ns, va_Nw w s) → va_K D cl tys s →
    ∀ (f : z_F) (w' : z_W) (r : Option z_V), z_run S M C n mi f = some (w', r) → z_vs S f.2.2.1 → z_vL S f.2.1 → z_vw S f.2.2.2 → ∀ (ls : Array Slot) (H : Heap) (locs : List Loc), z_hl ad ls (M mi).2.2.1 f.2.1 → va_P D cl (z_ws S fk ad cA f.2.2.2) H → va_S A s.heap H locs →
      W p l e (z_rm (M mi)) s m args below meth c H locs 0 0 (MQ below (z_Qc S fk ad cA D cl A w' r) args s 0 0 A) (F0 m f.1 ls (f.2.2.1.map (z_v ad)))
theorem z_met {n : Nat} (IH : z_WR l S fk ad cA D cl tys A Ts Ns nM M C n) (ok : z_OK S fk ad cA cl tys A Ts Ws Ns jn hst nM M C) {mi : Nat} (hmi : mi < nM) {as : List z_V} {w w' : z_W} {r : Option z_V}
    (h : z_run S M C n mi (0, z_entry (M mi).2.2.1 as, [], w) = some (w', r)) (hal : (z_args as).length ≤ (M mi).2.2.1) (hva : z_vs S as) (hvw : z_vw S w) :
    Met l (M mi).1 (z_wm Ts (M mi)) (z_rm (M mi)) (z_Pc S fk ad cA D cl tys Ns as w) (z_Qc S fk ad cA D cl A w' r) 0 0 A := by
  obtain ⟨o1, o2, o3, o4, o5, o6, o7, o8, o9, o10⟩ := ok
  refine Met.ofW (cc := (M mi).2.1) (maxL := (M mi).2.2.1) (ret := (M mi).2.2.2.1) (o9 mi hmi).1 rfl ?_
  intro p e s m args below meth c s₁ B hml hv
  obtain ⟨rfl, hP, hK, hN⟩ := hv
  have hts := atoms_spec (ws := z_wm Ts (M mi)) B.pre
  rw [lg_entry_eq]
  exact IH p e s m _ below meth c mi hmi B.exec B.bytes hml B.returns B.notSynchronized (findClass_of_methodNamed B.named) (fun w hw => hts w (List.mem_cons_of_mem _ hw)) hN hK (0, z_entry (M mi).2.2.1 as, [], w) w' r h (fun _ hx => by cases hx) (z_vL.entry hva) hvw _ _ [] (z_entry_hl ad as hal) hP va_S.rf
/-- a run keeps references among the names -/
theorem z_keep (hrr : ∀ o ∈ S.2.2.2.2, ∀ k, S.2.2.1 o.1 o.2 k ∈ S.2.2.2.2) : ∀ (n mi : Nat) (f : z_F) (w' : z_W) (r : Option z_V), z_run S M C n mi f = some (w', r) → z_vs S f.2.2.1 → z_vL S f.2.1 → z_vw S f.2.2.2 → z_vw S w' ∧ z_vs S r.toList := by
  intro n
  induction n with
  | zero => intro mi f w' r h; cases h
  | succ n ih =>
    intro mi f w' r h h1 h2 h3
    obtain ⟨pc, L, st, w⟩ := f
    rw [z_run] at h
    cases hC : C mi pc with
    | none => rw [hC] at h; cases h
    | some I =>
      rw [hC] at h
      dsimp only at h h1 h2 h3
      cases hs : z_step S M I pc L st w with
      | none => rw [hs] at h; cases h
      | some z =>
        rw [hs] at h
        rcases z with f1 | rv | ⟨mj, as, rest⟩
        · dsimp only at h
          obtain ⟨pc', L', st', w1⟩ := f1
          obtain ⟨a1, a2, a3⟩ := z_pres hrr hs h1 h2 h3
          exact ih mi _ w' r h a1 a2 a3
        · dsimp only at h
          cases h
          exact ⟨h3, z_retv hs h1⟩
        · dsimp only at h
          obtain ⟨g1, g2⟩ := z_callv hs h1
          cases hr : z_run S M C n mj (0, z_entry (M mj).2.2.1 as, [], w) with
          | none => rw [hr] at h; cases h
          | some y =>
            obtain ⟨w1, r1⟩ := y
            rw [hr] at h
            obtain ⟨b1, b2⟩ := ih mj _ w1 r1 hr (fun _ hx => by cases hx) (z_vL.entry g1) h3
            refine ih mi _ w' r h (fun v hv => ?_) h2 b1
            rcases List.mem_append.mp hv with hv | hv
            · exact b2 v hv
            · exact g2 v hv
theorem z_wr (ok : z_OK S fk ad cA cl tys A Ts Ws Ns jn hst nM M C) : ∀ n, z_WR l S fk ad cA D cl tys A Ts Ns nM M C n := by
  intro n
  induction n with
  | zero =>
    intro p e s m args below meth c mi hmi hx hb hml hr hlk hown hts hNs hK f w' r h
    cases h
  | succ n ih =>
    intro p e s m args below meth c mi hmi hx hb hml hr hlk hown hts hNs hK f w' r h hv1 hv2 hv3 ls H locs hl hP hS
    obtain ⟨pc, L, st, w⟩ := f
    have ok' := ok
    obtain ⟨⟨o1, o1n⟩, o2, o3, o4, ⟨o5, o5r⟩, ⟨o6a, o6b, o6c⟩, o7, o8, o9, o10⟩ := ok'
    dsimp only at hv1 hv2 hv3 hl hP
    rw [z_run] at h
    cases hC : C mi pc with
    | none => rw [hC] at h; cases h
    | some I =>
      rw [hC] at h
      dsimp only at h
      have hchk := o10 mi pc I hmi hC
      cases hst0 : z_step S M I pc L st w with
      | none => rw [hst0] at h; cases h
      | some z =>
        rw [hst0] at h
        rcases z with f1 | rv | ⟨mj, as, rest⟩
        · dsimp only at h
          obtain ⟨pc', L', st', w1⟩ := f1
          obtain ⟨a1, a2, a3⟩ := z_pres o5r hst0 hv1 hv2 hv3
          exact z_next (R := z_rm (M mi)) hx hb hown hts o1 o1n hNs hK o5 o6a o6b o6c o7 (o8 mi pc I hmi hC) hml hchk hst0 hl hv1 hP hS (fun ls' H' locs' b1 b2 b3 => ih p e s m args below meth c mi hmi hx hb hml hr hlk hown hts hNs hK (pc', L', st', w1) w' r h a1 a2 a3 ls' H' locs' b1 b2 b3)
        · dsimp only at h
          cases h
          exact z_ret (R := z_rm (M mi)) hx hb hr hlk hchk hst0 hP hS
        · dsimp only at h
          obtain ⟨g1, g2⟩ := z_callv hst0 hv1
          cases hrun : z_run S M C n mj (0, z_entry (M mj).2.2.1 as, [], w) with
          | none => rw [hrun] at h; cases h
          | some y =>
            obtain ⟨w1, r1⟩ := y
            rw [hrun] at h
            dsimp only at h
            obtain ⟨b1, b2⟩ := z_keep o5r n mj _ w1 r1 hrun (fun _ hx => by cases hx) (z_vL.entry g1) hv3
            exact z_inv (R := z_rm (M mi)) hx hb hown hts o1 o1n hNs hK o2 o3 o4 hv1 o9 hml hl.1 hchk hst0 hP hS (fun hj ha => z_met ih ok hj hrun ha g1 hv3) (fun H' locs' a2 a3 => ih p e s m args below meth c mi hmi hx hb hml hr hlk hown hts hNs hK (pc + 3, L, r1.toList ++ rest, w1) w' r h (fun v hv => by
              rcases List.mem_append.mp hv with hv | hv
              · exact b2 v hv
              · exact g2 v hv) hv2 b1 ls H' locs' hl a2 a3)
/-- a method's contract is its run in the abstract machine -/
theorem z_main (ok : z_OK S fk ad cA cl tys A Ts Ws Ns jn hst nM M C) {n mi : Nat} (hmi : mi < nM) {as : List z_V} {w w' : z_W} {r : Option z_V}
    (h : z_run S M C n mi (0, z_entry (M mi).2.2.1 as, [], w) = some (w', r)) (hal : (z_args as).length ≤ (M mi).2.2.1) (hva : z_vs S as) (hvw : z_vw S w) :
    Met l (M mi).1 (z_wm Ts (M mi)) (z_rm (M mi)) (z_Pc S fk ad cA D cl tys Ns as w) (z_Qc S fk ad cA D cl A w' r) 0 0 A := z_met (z_wr ok n) ok hmi h hal hva hvw
end ZMAIN
end
section
/-! runs of the abstract machine: rules to reason with -/
section ZC
variable {S : z_S} {M : Nat → z_M} {C : Nat → Nat → Option z_I}
theorem z_mono1 : ∀ (n mi : Nat) (f : z_F) (x : z_W × Option z_V), z_run S M C n mi f = some x → z_run S M C (n + 1) mi f = some x := by
  intro n
  induction n with
  | zero => intro mi f x h; cases h
  | succ n ih =>
    intro mi f x h
    obtain ⟨pc, L, st, w⟩ := f
    rw [z_run] at h ⊢
    cases hC : C mi pc with
    | none => rw [hC] at h; cases h
    | some I =>
      rw [hC] at h
      dsimp only at h ⊢
      cases hs : z_step S M I pc L st w with
      | none => rw [hs] at h; cases h
      | some z =>
        rw [hs] at h
        rcases z with f1 | rv | ⟨mj, as, rest⟩
        · dsimp only at h ⊢
          exact ih mi f1 x h
        · exact h
        · dsimp only at h ⊢
          cases hr : z_run S M C n mj (0, z_entry (M mj).2.2.1 as, [], w) with
          | none => rw [hr] at h; cases h
          | some y =>
            rw [hr] at h
            rw [ih mj _ y hr]
            exact ih mi _ x h
theorem z_mono {n k mi : Nat} {f : z_F} {x : z_W × Option z_V} (hk : n ≤ k) (h : z_run S M C n mi f = some x) : z_run S M C k mi f = some x := by
  induction hk with
  | refl => exact h
  | step _ ih => exact z_mono1 _ _ _ _ ih
def z_C (S : z_S) (M : Nat → z_M) (C : Nat → Nat → Option z_I) (mi : Nat) (f : z_F) (Q : z_W → Option z_V → Prop) : Prop := ∃ (n : Nat) (w' : z_W) (r : Option z_V), z_run S M C n mi f = some (w', r) ∧ Q w' r
variable {mi pc a b : Nat} {I : z_I} {L : z_L} {st : List z_V} {w : z_W} {f f' : z_F} {Q Q' : z_W → Option z_V → Prop}
theorem z_C.imp (h : z_C S M C mi f Q) (hq : ∀ w r, Q w r → Q' w r) : z_C S M C mi f Q' := by
  obtain ⟨n, w', r, h1, h2⟩ := h
  exact ⟨n, w', r, h1, hq w' r h2⟩
theorem z_C.go1 (hC : C mi pc = some I) (hs : z_step S M I pc L st w = some (.inl f')) (k : z_C S M C mi f' Q) : z_C S M C mi (pc, L, st, w) Q := by
  obtain ⟨n, w', r, h1, h2⟩ := k
  refine ⟨n + 1, w', r, ?_, h2⟩
  rw [z_run, hC]
  dsimp only
  rw [hs]
  exact h1
theorem z_C.ret {rv : Option z_V} (hC : C mi pc = some I) (hs : z_step S M I pc L st w = some (.inr (.inl rv))) (k : Q w rv) : z_C S M C mi (pc, L, st, w) Q := by
  refine ⟨1, w, rv, ?_, k⟩
  rw [z_run, hC]
  dsimp only
  rw [hs]
theorem z_C.call {mj : Nat} {as rest : List z_V} (hC : C mi pc = some I) (hs : z_step S M I pc L st w = some (.inr (.inr (mj, as, rest)))) (hk : z_C S M C mj (0, z_entry (M mj).2.2.1 as, [], w) Q')
    (kk : ∀ w' r, Q' w' r → z_C S M C mi (pc + 3, L, r.toList ++ rest, w') Q) : z_C S M C mi (pc, L, st, w) Q := by
  obtain ⟨n1, w1, r1, h1, h2⟩ := hk
  obtain ⟨n2, w2, r2, h3, h4⟩ := kk w1 r1 h2
  refine ⟨max n1 n2 + 1, w2, r2, ?_, h4⟩
  rw [z_run, hC]
  dsimp only
  rw [hs]
  dsimp only
  rw [z_mono (Nat.le_max_left n1 n2) h1]
  exact z_mono (Nat.le_max_right n1 n2) h3
theorem z_C.if {c : Prop} [Decidable c] (h1 : c → z_C S M C mi (a, L, st, w) Q) (h2 : ¬ c → z_C S M C mi (b, L, st, w) Q) : z_C S M C mi (if c then a else b, L, st, w) Q := by
  split
  · exact h1 ‹_›
  · exact h2 ‹_›
def z_go (S : z_S) (M : Nat → z_M) (C : Nat → Nat → Option z_I) (mi : Nat) : Nat → z_F → Option z_F
  | 0, f => some f
  | k + 1, (pc, L, st, w) => match C mi pc with
    | none => none
    | some I => match z_step S M I pc L st w with
      | some (.inl f) => z_go S M C mi k f
      | _ => none
theorem z_C.go : ∀ (k : Nat) {f f' : z_F}, z_go S M C mi k f = some f' → z_C S M C mi f' Q → z_C S M C mi f Q
  | 0, f, f', h, k => by cases h; exact k
  | n + 1, (pc, L, st, w), f', h, k => by
    rw [z_go] at h
    cases hC : C mi pc with
    | none => rw [hC] at h; cases h
    | some I =>
      rw [hC] at h
      dsimp only at h
      cases hs : z_step S M I pc L st w with
      | none => rw [hs] at h; cases h
      | some z =>
        rw [hs] at h
        rcases z with f1 | rv | y
        · exact z_C.go1 hC hs (z_C.go n h k)
        · cases h
        · cases h
end ZC
end
section
/-! classes, sides, methods: printed by wip/whole/gen/lay.py out of the claim's own words and listing -/
def zT0 : u_T := fun k => match k with
  | 0 => ("PrintHouse", "draft", "LPrintHouse$Bytes;", true)
  | 1 => ("PrintHouse", "message", "LPrintHouse$Message;", true)
  | 2 => ("PrintHouse", "pageReader", "LPrintHouse$PageReader;", true)
  | 3 => ("PrintHouse", "wanted", "LPrintHouse$Job;", true)
  | 4 => ("PrintHouse", "disk", "LPrintHouse$Disk;", true)
  | 5 => ("PrintHouse", "spool", "LPrintHouse$Spool;", true)
  | 6 => ("PrintHouse", "answer", "LPrintHouse$Bytes;", true)
  | _ => ("PrintHouse", "press", "LPrintHouse$Press;", true)
def zT1 : u_T := fun k => match k with
  | 0 => ("PrintHouse$Bytes", "row", "[I", true)
  | 1 => ("PrintHouse$Bytes", "length", "I", false)
  | _ => ("PrintHouse$Bytes", "cursor", "I", false)
def zT2 : u_T := fun k => match k with
  | 0 => ("PrintHouse$Message", "draft", "LPrintHouse$Bytes;", true)
  | 1 => ("PrintHouse$Message", "tags", "[I", true)
  | 2 => ("PrintHouse$Message", "names", "[J", true)
  | 3 => ("PrintHouse$Message", "values", "[J", true)
  | 4 => ("PrintHouse$Message", "attributes", "I", false)
  | 5 => ("PrintHouse$Message", "firstGroup", "I", false)
  | 6 => ("PrintHouse$Message", "secondGroup", "Z", false)
  | 7 => ("PrintHouse$Message", "wellFormed", "Z", false)
  | 8 => ("PrintHouse$Message", "operation", "I", false)
  | 9 => ("PrintHouse$Message", "number", "I", false)
  | _ => ("PrintHouse$Message", "dataAt", "I", false)
def zT3 : u_T := fun k => match k with
  | 0 => ("PrintHouse$Job", "pixels", "[I", true)
  | 1 => ("PrintHouse$Job", "number", "I", false)
  | 2 => ("PrintHouse$Job", "state", "I", false)
  | 3 => ("PrintHouse$Job", "copies", "I", false)
  | 4 => ("PrintHouse$Job", "priority", "I", false)
  | 5 => ("PrintHouse$Job", "up", "I", false)
  | 6 => ("PrintHouse$Job", "sides", "I", false)
  | 7 => ("PrintHouse$Job", "booklet", "I", false)
  | 8 => ("PrintHouse$Job", "pages", "I", false)
  | _ => ("PrintHouse$Job", "sent", "I", false)
def zT4 : u_T := fun k => match k with
  | 0 => ("PrintHouse$PageReader", "draft", "LPrintHouse$Bytes;", true)
  | _ => ("PrintHouse$PageReader", "row", "[I", true)
def zT5 : u_T := fun k => match k with
  | 0 => ("PrintHouse$Disk", "written", "I", false)
  | 1 => ("PrintHouse$Disk", "logged", "I", false)
  | 2 => ("PrintHouse$Disk", "up", "Z", false)
  | _ => ("PrintHouse$Disk", "blocksToStop", "I", false)
def zT6 : u_T := fun k => match k with
  | 0 => ("PrintHouse$Spool", "disk", "LPrintHouse$Disk;", true)
  | 1 => ("PrintHouse$Spool", "jobs", "[LPrintHouse$Job;", true)
  | 2 => ("PrintHouse$Spool", "known", "I", false)
  | _ => ("PrintHouse$Spool", "nextNumber", "I", false)
def zT7 : u_T := fun k => match k with
  | 0 => ("PrintHouse$Press", "latest", "LPrintHouse$Bytes;", true)
  | 1 => ("PrintHouse$Press", "side", "[I", true)
  | 2 => ("PrintHouse$Press", "sheets", "I", false)
  | 3 => ("PrintHouse$Press", "isTurned", "Z", false)
  | 4 => ("PrintHouse$Press", "columns", "I", false)
  | 5 => ("PrintHouse$Press", "rows", "I", false)
  | 6 => ("PrintHouse$Press", "width", "I", false)
  | _ => ("PrintHouse$Press", "height", "I", false)
def zT8 : u_T := fun k => match k with
  | 0 => ("PrintHouseModel", "thrown", "I", false)
  | 1 => ("PrintHouseModel", "down", "Z", false)
  | 2 => ("PrintHouseModel", "drafted", "I", false)
  | 3 => ("PrintHouseModel", "draft", "[I", true)
  | 4 => ("PrintHouseModel", "jobs", "I", false)
  | 5 => ("PrintHouseModel", "job", "[I", true)
  | 6 => ("PrintHouseModel", "pixels", "[I", true)
  | 7 => ("PrintHouseModel", "next", "I", false)
  | 8 => ("PrintHouseModel", "written", "I", false)
  | 9 => ("PrintHouseModel", "log", "I", false)
  | 10 => ("PrintHouseModel", "sheets", "I", false)
  | 11 => ("PrintHouseModel", "stopped", "Z", false)
  | 12 => ("PrintHouseModel", "left", "I", false)
  | 13 => ("PrintHouseModel", "good", "Z", false)
  | 14 => ("PrintHouseModel", "at", "I", false)
  | 15 => ("PrintHouseModel", "second", "Z", false)
  | 16 => ("PrintHouseModel", "hasJob", "Z", false)
  | 17 => ("PrintHouseModel", "jobAsked", "I", false)
  | 18 => ("PrintHouseModel", "fitting", "Z", false)
  | 19 => ("PrintHouseModel", "hasUp", "Z", false)
  | 20 => ("PrintHouseModel", "data", "I", false)
  | 21 => ("PrintHouseModel", "names", "I", false)
  | 22 => ("PrintHouseModel", "name", "[I", true)
  | 23 => ("PrintHouseModel", "replied", "I", false)
  | 24 => ("PrintHouseModel", "reply", "[I", true)
  | 25 => ("PrintHouseModel", "sent", "I", false)
  | 26 => ("PrintHouseModel", "sheet", "[I", true)
  | _ => ("PrintHouseModel", "side", "[I", true)
def zcl : List vw_C := [("PrintHouse", zT0, 8), ("PrintHouse$Bytes", zT1, 3), ("PrintHouse$Message", zT2, 11), ("PrintHouse$Job", zT3, 10), ("PrintHouse$PageReader", zT4, 2), ("PrintHouse$Disk", zT5, 4), ("PrintHouse$Spool", zT6, 4), ("PrintHouse$Press", zT7, 8), ("PrintHouseModel", zT8, 28)]
def zfk (c : Nat) : List Nat := match c with
  | 0 => [2, 2, 2, 2, 2, 2, 2, 2]
  | 1 => [2, 0, 0]
  | 2 => [2, 2, 2, 2, 0, 0, 1, 1, 0, 0, 0]
  | 3 => [2, 0, 0, 0, 0, 0, 0, 0, 0, 0]
  | 4 => [2, 2]
  | 5 => [0, 0, 1, 0]
  | 6 => [2, 2, 0, 0]
  | 7 => [2, 2, 0, 1, 0, 0, 0, 0]
  | 8 => [0, 1, 0, 2, 0, 2, 2, 0, 0, 0, 0, 1, 0, 1, 0, 1, 1, 0, 1, 1, 0, 0, 2, 0, 2, 0, 2, 2]
  | _ => []
def sCk (g : Nat) : Nat := match g with
  | 0 => 4
  | 1 => 5
  | 2 => 1
  | 3 => 6
  | 4 => 1
  | 5 => 2
  | 6 => 2
  | 7 => 8
  | 8 => 1
  | 9 => 7
  | 10 => 1
  | 11 => 9
  | 12 => 10
  | 13 => 3
  | 14 => 11
  | 15 => 1
  | _ => 0
def sCl (g i : Nat) : Nat := match g with
  | 2 => (match i with
    | 0 => 240
    | 1 => 512
    | _ => 256)
  | 4 => 34
  | 5 => 34
  | 6 => 34
  | 8 => 4
  | 10 => 72
  | 13 => 20
  | 15 => 48
  | _ => 0
def sCr (g i k : Nat) : z_N := match g with
  | 0 => (match k with
    | 0 => (1, 0)
    | 1 => (3, 0)
    | 2 => (7, 0)
    | 3 => (9, 20)
    | 4 => (11, 0)
    | 5 => (12, 0)
    | 6 => (1, 1)
    | _ => (14, 0))
  | 1 => (2, i)
  | 3 => (match k with
    | 0 => (1, 0)
    | 1 => (4, 0)
    | 2 => (5, 0)
    | _ => (6, 0))
  | 7 => (match k with
    | 0 => (1, 0)
    | _ => (8, 0))
  | 9 => (10, i)
  | 12 => (match k with
    | 0 => (11, 0)
    | _ => (13, 0))
  | 14 => (match k with
    | 0 => (1, 2)
    | _ => (15, 0))
  | g => (g, i)
def sCn : List z_N := [(0, 0), (1, 0), (2, 0), (3, 0), (4, 0), (5, 0), (6, 0), (7, 0), (8, 0), (9, 20), (10, 20), (11, 0), (12, 0), (13, 0), (9, 0), (10, 0), (9, 1), (10, 1), (9, 2), (10, 2), (9, 3), (10, 3), (9, 4), (10, 4), (9, 5), (10, 5), (9, 6), (10, 6), (9, 7), (10, 7), (9, 8), (10, 8), (9, 9), (10, 9), (9, 10), (10, 10), (9, 11), (10, 11), (9, 12), (10, 12), (9, 13), (10, 13), (9, 14), (10, 14), (9, 15), (10, 15), (9, 16), (10, 16), (9, 17), (10, 17), (9, 18), (10, 18), (9, 19), (10, 19), (1, 1), (2, 1), (14, 0), (1, 2), (2, 2), (15, 0)]
def sC : z_S := (sCk, sCl, sCr, 9, sCn)
def sRk (g : Nat) : Nat := match g with
  | 0 => 12
  | 1 => 1
  | 2 => 1
  | 3 => 1
  | 4 => 1
  | 5 => 1
  | 6 => 1
  | 7 => 1
  | _ => 0
def sRl (g _i : Nat) : Nat := match g with
  | 1 => 240
  | 2 => 260
  | 3 => 1872
  | 4 => 60
  | 5 => 800
  | 6 => 300
  | 7 => 48
  | _ => 0
def sRr (g i k : Nat) : z_N := match g with
  | 0 => (match k with
    | 3 => (1, 0)
    | 5 => (2, 0)
    | 6 => (3, 0)
    | 22 => (4, 0)
    | 24 => (5, 0)
    | 26 => (6, 0)
    | 27 => (7, 0)
    | _ => (0, i))
  | g => (g, i)
def sRn : List z_N := [(0, 0), (1, 0), (2, 0), (3, 0), (4, 0), (5, 0), (6, 0), (7, 0)]
def sR : z_S := (sRk, sRl, sRr, 0, sRn)
def zm0 : z_M := (⟨"PrintHouse$Bytes", "clear", "()V"⟩, prog_2_method_2_code, 1, none, 1, 5, 0, 0)
def zm1 : z_M := (⟨"PrintHouse$Bytes", "length", "()I"⟩, prog_2_method_3_code, 1, (some .int), 1, 5, 0, 0)
def zm2 : z_M := (⟨"PrintHouse$Bytes", "at", "(I)I"⟩, prog_2_method_4_code, 2, (some .int), 2, 5, 0, 0)
def zm3 : z_M := (⟨"PrintHouse$Bytes", "add", "(I)V"⟩, prog_2_method_5_code, 2, none, 2, 5, 0, 0)
def zm4 : z_M := (⟨"PrintHouse$Bytes", "addNumber", "(JI)V"⟩, prog_2_method_6_code, 5, none, 3, 5, 1, 21)
def zm5 : z_M := (⟨"PrintHouse$Bytes", "addInteger", "(JI)V"⟩, prog_2_method_7_code, 5, none, 3, 5, 2, 45)
def zm6 : z_M := (⟨"PrintHouse$Bytes", "lettersOf", "(J)I"⟩, prog_2_method_8_code, 4, (some .int), 1, 0, 0, 0)
def zm7 : z_M := (⟨"PrintHouse$Bytes", "seek", "(I)V"⟩, prog_2_method_9_code, 2, none, 2, 5, 0, 0)
def zm8 : z_M := (⟨"PrintHouse$Bytes", "has", "(I)Z"⟩, prog_2_method_10_code, 2, (some .boolean), 2, 5, 0, 0)
def zm9 : z_M := (⟨"PrintHouse$Bytes", "next", "()I"⟩, prog_2_method_11_code, 2, (some .int), 1, 5, 0, 0)
def zm10 : z_M := (⟨"PrintHouse$Bytes", "nextNumber", "(I)J"⟩, prog_2_method_12_code, 5, (some .long), 2, 5, 1, 21)
def zm11 : z_M := (⟨"PrintHouse$Bytes", "nextWord", "(I)J"⟩, prog_2_method_13_code, 6, (some .long), 2, 5, 1, 21)
def zm12 : z_M := (⟨"PrintHouse$Disk", "isUp", "()Z"⟩, prog_3_method_2_code, 1, (some .boolean), 1, 9, 0, 0)
def zm13 : z_M := (⟨"PrintHouse$Disk", "stopAfter", "(I)V"⟩, prog_3_method_3_code, 2, none, 2, 9, 0, 0)
def zm14 : z_M := (⟨"PrintHouse$Disk", "comeUp", "()V"⟩, prog_3_method_4_code, 1, none, 1, 9, 0, 0)
def zm15 : z_M := (⟨"PrintHouse$Disk", "write", "(I)Z"⟩, prog_3_method_5_code, 3, (some .boolean), 2, 9, 0, 0)
def zm16 : z_M := (⟨"PrintHouse$Job", "setDefaults", "()V"⟩, prog_4_method_2_code, 1, none, 1, 7, 0, 0)
def zm17 : z_M := (⟨"PrintHouse$Job", "copyFrom", "(LPrintHouse$Job;)V"⟩, prog_4_method_3_code, 2, none, 2, 7, 1, 26)
def zm18 : z_M := (⟨"PrintHouse$Job", "set", "(IJJ)Z"⟩, prog_4_method_4_code, 6, (some .boolean), 4, 7, 1, 23)
def zm19 : z_M := (⟨"PrintHouse$Job", "setInteger", "(JI)Z"⟩, prog_4_method_5_code, 4, (some .boolean), 3, 7, 0, 0)
def zm20 : z_M := (⟨"PrintHouse$Job", "setBoolean", "(JI)Z"⟩, prog_4_method_6_code, 4, (some .boolean), 3, 7, 0, 0)
def zm21 : z_M := (⟨"PrintHouse$Job", "setSides", "(J)Z"⟩, prog_4_method_7_code, 3, (some .boolean), 2, 7, 0, 0)
def zm22 : z_M := (⟨"PrintHouse$Job", "hasEnded", "()Z"⟩, prog_4_method_8_code, 1, (some .boolean), 1, 7, 0, 0)
def zm23 : z_M := (⟨"PrintHouse$Job", "blocks", "()I"⟩, prog_4_method_9_code, 1, (some .int), 1, 7, 0, 0)
def zm24 : z_M := (⟨"PrintHouse$Job", "hasPage", "(I)Z"⟩, prog_4_method_10_code, 2, (some .boolean), 2, 7, 0, 0)
def zm25 : z_M := (⟨"PrintHouse$Job", "pixelAt", "(III)I"⟩, prog_4_method_11_code, 4, (some .int), 4, 7, 1, 21)
def zm26 : z_M := (⟨"PrintHouse$Job", "sidesOfSheet", "()I"⟩, prog_4_method_12_code, 1, (some .int), 1, 7, 0, 0)
def zm27 : z_M := (⟨"PrintHouse$Job", "sheetsOfCopy", "()I"⟩, prog_4_method_13_code, 1, (some .int), 1, 7, 1, 21)
def zm28 : z_M := (⟨"PrintHouse$Job", "parts", "(II)I"⟩, prog_4_method_14_code, 2, (some .int), 2, 0, 0, 0)
def zm29 : z_M := (⟨"PrintHouse$Job", "sheets", "()I"⟩, prog_4_method_15_code, 1, (some .int), 1, 7, 2, 41)
def zm30 : z_M := (⟨"PrintHouse$Job", "nextSheetOfCopy", "()I"⟩, prog_4_method_16_code, 2, (some .int), 1, 7, 2, 41)
def zm31 : z_M := (⟨"PrintHouse$Job", "pageIn", "(III)I"⟩, prog_4_method_17_code, 6, (some .int), 4, 7, 2, 41)
def zm32 : z_M := (⟨"PrintHouse$Job", "fact", "(I)I"⟩, prog_4_method_18_code, 2, (some .int), 2, 7, 3, 61)
def zm33 : z_M := (⟨"PrintHouse$Message", "read", "()V"⟩, prog_5_method_2_code, 1, none, 1, 6, 5, 115)
def zm34 : z_M := (⟨"PrintHouse$Message", "readGroups", "()Z"⟩, prog_5_method_3_code, 2, (some .boolean), 1, 6, 4, 94)
def zm35 : z_M := (⟨"PrintHouse$Message", "readGroup", "()Z"⟩, prog_5_method_4_code, 3, (some .boolean), 1, 6, 3, 72)
def zm36 : z_M := (⟨"PrintHouse$Message", "isTag", "(I)Z"⟩, prog_5_method_5_code, 1, (some .boolean), 1, 0, 0, 0)
def zm37 : z_M := (⟨"PrintHouse$Message", "readAttribute", "()Z"⟩, prog_5_method_6_code, 7, (some .boolean), 1, 6, 2, 46)
def zm38 : z_M := (⟨"PrintHouse$Message", "isLengthOf", "(II)Z"⟩, prog_5_method_7_code, 2, (some .boolean), 2, 0, 0, 0)
def zm39 : z_M := (⟨"PrintHouse$Message", "isValueOf", "(IJ)Z"⟩, prog_5_method_8_code, 3, (some .boolean), 2, 0, 0, 0)
def zm40 : z_M := (⟨"PrintHouse$Message", "isLastNameTwice", "(I)Z"⟩, prog_5_method_9_code, 4, (some .boolean), 2, 6, 0, 0)
def zm41 : z_M := (⟨"PrintHouse$Message", "isOfOtherVersion", "()Z"⟩, prog_5_method_10_code, 1, (some .boolean), 1, 6, 1, 21)
def zm42 : z_M := (⟨"PrintHouse$Message", "isBare", "()Z"⟩, prog_5_method_11_code, 1, (some .boolean), 1, 6, 1, 20)
def zm43 : z_M := (⟨"PrintHouse$Message", "jobAttribute", "()I"⟩, prog_5_method_12_code, 2, (some .int), 1, 6, 0, 0)
def zm44 : z_M := (⟨"PrintHouse$Message", "namesJob", "()Z"⟩, prog_5_method_13_code, 1, (some .boolean), 1, 6, 1, 21)
def zm45 : z_M := (⟨"PrintHouse$Message", "jobNumber", "()I"⟩, prog_5_method_14_code, 2, (some .int), 1, 6, 1, 21)
def zm46 : z_M := (⟨"PrintHouse$Message", "readSettings", "(LPrintHouse$Job;)Z"⟩, prog_5_method_15_code, 3, (some .boolean), 2, 6, 2, 48)
def zm47 : z_M := (⟨"PrintHouse$PageReader", "read", "(ILPrintHouse$Job;)Z"⟩, prog_6_method_2_code, 4, (some .boolean), 3, 8, 3, 74)
def zm48 : z_M := (⟨"PrintHouse$PageReader", "readRaster", "(LPrintHouse$Job;)Z"⟩, prog_6_method_3_code, 5, (some .boolean), 2, 8, 2, 50)
def zm49 : z_M := (⟨"PrintHouse$PageReader", "readRow", "()Z"⟩, prog_6_method_4_code, 7, (some .boolean), 1, 8, 1, 21)
def zm50 : z_M := (⟨"PrintHouse$PageReader", "runLength", "(I)I"⟩, prog_6_method_5_code, 1, (some .int), 1, 0, 0, 0)
def zm51 : z_M := (⟨"PrintHouse$PageReader", "keepRow", "(LPrintHouse$Job;II)V"⟩, prog_6_method_6_code, 5, none, 4, 8, 1, 26)
def zm52 : z_M := (⟨"PrintHouse$Press", "send", "(LPrintHouse$Job;)V"⟩, prog_7_method_2_code, 3, none, 2, 11, 4, 96)
def zm53 : z_M := (⟨"PrintHouse$Press", "layOut", "(LPrintHouse$Job;)V"⟩, prog_7_method_3_code, 2, none, 2, 11, 1, 20)
def zm54 : z_M := (⟨"PrintHouse$Press", "cellWidth", "()I"⟩, prog_7_method_4_code, 1, (some .int), 1, 11, 0, 0)
def zm55 : z_M := (⟨"PrintHouse$Press", "cellHeight", "()I"⟩, prog_7_method_5_code, 1, (some .int), 1, 11, 0, 0)
def zm56 : z_M := (⟨"PrintHouse$Press", "fillSide", "(LPrintHouse$Job;I)V"⟩, prog_7_method_6_code, 6, none, 3, 11, 3, 71)
def zm57 : z_M := (⟨"PrintHouse$Press", "fillCell", "(LPrintHouse$Job;III)V"⟩, prog_7_method_7_code, 8, none, 5, 11, 2, 44)
def zm58 : z_M := (⟨"PrintHouse$Press", "turnSideByHalf", "()V"⟩, prog_7_method_8_code, 5, none, 1, 11, 0, 0)
def zm59 : z_M := (⟨"PrintHouse$Press", "writeSide", "()V"⟩, prog_7_method_9_code, 4, none, 1, 11, 3, 70)
def zm60 : z_M := (⟨"PrintHouse$Press", "equalRows", "(I)I"⟩, prog_7_method_10_code, 4, (some .int), 2, 11, 1, 23)
def zm61 : z_M := (⟨"PrintHouse$Press", "areRowsEqual", "(II)Z"⟩, prog_7_method_11_code, 4, (some .boolean), 3, 11, 0, 0)
def zm62 : z_M := (⟨"PrintHouse$Press", "writeRow", "(I)V"⟩, prog_7_method_12_code, 6, none, 2, 11, 2, 45)
def zm63 : z_M := (⟨"PrintHouse$Press", "endOfEqual", "(II)I"⟩, prog_7_method_13_code, 5, (some .int), 3, 11, 0, 0)
def zm64 : z_M := (⟨"PrintHouse$Press", "endOfUnlike", "(II)I"⟩, prog_7_method_14_code, 4, (some .int), 3, 11, 0, 0)
def zm65 : z_M := (⟨"PrintHouse$Press", "writeUnlike", "(II)V"⟩, prog_7_method_15_code, 5, none, 3, 11, 1, 21)
def zm66 : z_M := (⟨"PrintHouse$Spool", "find", "(I)LPrintHouse$Job;"⟩, prog_8_method_2_code, 3, (some (.object "PrintHouse$Job")), 2, 10, 0, 0)
def zm67 : z_M := (⟨"PrintHouse$Spool", "newest", "()LPrintHouse$Job;"⟩, prog_8_method_3_code, 1, (some (.object "PrintHouse$Job")), 1, 10, 0, 0)
def zm68 : z_M := (⟨"PrintHouse$Spool", "liveBlocks", "()I"⟩, prog_8_method_4_code, 3, (some .int), 1, 10, 1, 20)
def zm69 : z_M := (⟨"PrintHouse$Spool", "processing", "()LPrintHouse$Job;"⟩, prog_8_method_5_code, 2, (some (.object "PrintHouse$Job")), 1, 10, 0, 0)
def zm70 : z_M := (⟨"PrintHouse$Spool", "firstPending", "()LPrintHouse$Job;"⟩, prog_8_method_6_code, 3, (some (.object "PrintHouse$Job")), 1, 10, 1, 21)
def zm71 : z_M := (⟨"PrintHouse$Spool", "following", "(LPrintHouse$Job;)LPrintHouse$Job;"⟩, prog_8_method_7_code, 6, (some (.object "PrintHouse$Job")), 2, 10, 1, 21)
def zm72 : z_M := (⟨"PrintHouse$Spool", "isBefore", "(LPrintHouse$Job;LPrintHouse$Job;)Z"⟩, prog_8_method_8_code, 2, (some .boolean), 2, 0, 0, 0)
def zm73 : z_M := (⟨"PrintHouse$Spool", "admit", "(LPrintHouse$Job;)Z"⟩, prog_8_method_9_code, 2, (some .boolean), 2, 10, 4, 85)
def zm74 : z_M := (⟨"PrintHouse$Spool", "changeState", "(LPrintHouse$Job;I)Z"⟩, prog_8_method_10_code, 3, (some .boolean), 3, 10, 4, 85)
def zm75 : z_M := (⟨"PrintHouse$Spool", "isLogged", "(I)Z"⟩, prog_8_method_11_code, 2, (some .boolean), 2, 10, 3, 64)
def zm76 : z_M := (⟨"PrintHouse$Spool", "isLogRenewed", "()Z"⟩, prog_8_method_12_code, 2, (some .boolean), 1, 10, 2, 43)
def zm77 : z_M := (⟨"PrintHouse$Spool", "forgetEnded", "()V"⟩, prog_8_method_13_code, 4, none, 1, 10, 1, 20)
def zm78 : z_M := (⟨"PrintHouse$Spool", "beginPassesAnew", "()V"⟩, prog_8_method_14_code, 2, none, 1, 10, 0, 0)
def zm79 : z_M := (⟨"PrintHouse", "put", "(JI)Z"⟩, prog_1_method_2_code, 4, (some .boolean), 3, 4, 2, 45)
def zm80 : z_M := (⟨"PrintHouse", "request", "()I"⟩, prog_1_method_3_code, 3, (some .int), 1, 4, 6, 137)
def zm81 : z_M := (⟨"PrintHouse", "reply", "(I)I"⟩, prog_1_method_4_code, 2, (some .int), 2, 4, 1, 21)
def zm82 : z_M := (⟨"PrintHouse", "tick", "()I"⟩, prog_1_method_5_code, 2, (some .int), 1, 4, 5, 118)
def zm83 : z_M := (⟨"PrintHouse", "sheet", "(I)I"⟩, prog_1_method_6_code, 2, (some .int), 2, 4, 1, 21)
def zm84 : z_M := (⟨"PrintHouse", "stop", "(I)Z"⟩, prog_1_method_7_code, 2, (some .boolean), 2, 4, 2, 40)
def zm85 : z_M := (⟨"PrintHouse", "restart", "()Z"⟩, prog_1_method_8_code, 1, (some .boolean), 1, 4, 1, 21)
def zm86 : z_M := (⟨"PrintHouse", "job", "(II)I"⟩, prog_1_method_9_code, 4, (some .int), 3, 4, 4, 82)
def zm87 : z_M := (⟨"PrintHouse", "pixel", "(III)I"⟩, prog_1_method_10_code, 5, (some .int), 4, 4, 2, 40)
def zm88 : z_M := (⟨"PrintHouse", "count", "(I)I"⟩, prog_1_method_11_code, 2, (some .int), 2, 4, 1, 20)
def zm89 : z_M := (⟨"PrintHouse", "refuseIfDown", "()V"⟩, prog_1_method_12_code, 1, none, 1, 4, 1, 20)
def zm90 : z_M := (⟨"PrintHouse", "goneDown", "()I"⟩, prog_1_method_13_code, 1, (some .int), 1, 4, 1, 20)
def zm91 : z_M := (⟨"PrintHouse", "statusOfMessage", "()I"⟩, prog_1_method_14_code, 1, (some .int), 1, 4, 5, 117)
def zm92 : z_M := (⟨"PrintHouse", "statusOfPrint", "()I"⟩, prog_1_method_15_code, 1, (some .int), 1, 4, 4, 97)
def zm93 : z_M := (⟨"PrintHouse", "statusOfJobRequest", "()I"⟩, prog_1_method_16_code, 2, (some .int), 1, 4, 2, 42)
def zm94 : z_M := (⟨"PrintHouse", "isAllowed", "(ILPrintHouse$Job;)Z"⟩, prog_1_method_17_code, 2, (some .boolean), 2, 0, 1, 20)
def zm95 : z_M := (⟨"PrintHouse", "carryOut", "()Z"⟩, prog_1_method_18_code, 3, (some .boolean), 1, 4, 5, 107)
def zm96 : z_M := (⟨"PrintHouse", "stateAfter", "(I)I"⟩, prog_1_method_19_code, 1, (some .int), 1, 0, 0, 0)
def zm97 : z_M := (⟨"PrintHouse", "writeReply", "(I)V"⟩, prog_1_method_20_code, 2, none, 2, 4, 5, 112)
def zm98 : z_M := (⟨"PrintHouse", "tellOfAll", "()V"⟩, prog_1_method_21_code, 3, none, 1, 4, 4, 90)
def zm99 : z_M := (⟨"PrintHouse", "tellOf", "(LPrintHouse$Job;)V"⟩, prog_1_method_22_code, 2, none, 2, 4, 3, 69)
def zm100 : z_M := (⟨"PrintHouseModel", "thrown", "()I"⟩, prog_10_method_2_code, 1, (some .int), 1, 12, 0, 0)
def zm101 : z_M := (⟨"PrintHouseModel", "put", "(JI)Z"⟩, prog_10_method_3_code, 5, (some .boolean), 3, 12, 0, 0)
def zm102 : z_M := (⟨"PrintHouseModel", "peek", "()I"⟩, prog_10_method_4_code, 1, (some .int), 1, 12, 0, 0)
def zm103 : z_M := (⟨"PrintHouseModel", "number", "(I)I"⟩, prog_10_method_5_code, 4, (some .int), 2, 12, 0, 0)
def zm104 : z_M := (⟨"PrintHouseModel", "letters", "(II)Z"⟩, prog_10_method_6_code, 5, (some .boolean), 3, 12, 0, 0)
def zm105 : z_M := (⟨"PrintHouseModel", "spells", "(IIIJ)Z"⟩, prog_10_method_7_code, 8, (some .boolean), 5, 12, 0, 0)
def zm106 : z_M := (⟨"PrintHouseModel", "isNew", "(II)Z"⟩, prog_10_method_8_code, 8, (some .boolean), 3, 12, 0, 0)
def zm107 : z_M := (⟨"PrintHouseModel", "attribute", "(Z)V"⟩, prog_10_method_9_code, 10, none, 2, 12, 2, 57)
def zm108 : z_M := (⟨"PrintHouseModel", "in", "(III)Z"⟩, prog_10_method_10_code, 3, (some .boolean), 3, 0, 0, 0)
def zm109 : z_M := (⟨"PrintHouseModel", "told", "(IIIIII)V"⟩, prog_10_method_11_code, 11, none, 7, 12, 1, 27)
def zm110 : z_M := (⟨"PrintHouseModel", "group", "(Z)V"⟩, prog_10_method_12_code, 2, none, 2, 12, 3, 86)
def zm111 : z_M := (⟨"PrintHouseModel", "readAll", "()V"⟩, prog_10_method_13_code, 3, none, 1, 12, 4, 107)
def zm112 : z_M := (⟨"PrintHouseModel", "raster", "(I)Z"⟩, prog_10_method_14_code, 10, (some .boolean), 2, 12, 1, 20)
def zm113 : z_M := (⟨"PrintHouseModel", "pages", "()I"⟩, prog_10_method_15_code, 3, (some .int), 1, 12, 2, 49)
def zm114 : z_M := (⟨"PrintHouseModel", "find", "(I)I"⟩, prog_10_method_16_code, 3, (some .int), 2, 12, 0, 0)
def zm115 : z_M := (⟨"PrintHouseModel", "hasEnded", "(I)Z"⟩, prog_10_method_17_code, 2, (some .boolean), 2, 12, 0, 0)
def zm116 : z_M := (⟨"PrintHouseModel", "blocks", "()I"⟩, prog_10_method_18_code, 3, (some .int), 1, 12, 1, 21)
def zm117 : z_M := (⟨"PrintHouseModel", "isKnown", "(I)Z"⟩, prog_10_method_19_code, 1, (some .boolean), 1, 0, 1, 22)
def zm118 : z_M := (⟨"PrintHouseModel", "printable", "()I"⟩, prog_10_method_20_code, 3, (some .int), 1, 12, 3, 71)
def zm119 : z_M := (⟨"PrintHouseModel", "statusOf", "(I)I"⟩, prog_10_method_21_code, 5, (some .int), 2, 12, 5, 129)
def zm120 : z_M := (⟨"PrintHouseModel", "write", "(I)Z"⟩, prog_10_method_22_code, 3, (some .boolean), 2, 12, 1, 21)
def zm121 : z_M := (⟨"PrintHouseModel", "goDown", "()V"⟩, prog_10_method_23_code, 2, none, 1, 12, 0, 0)
def zm122 : z_M := (⟨"PrintHouseModel", "forget", "()V"⟩, prog_10_method_24_code, 3, none, 1, 12, 1, 23)
def zm123 : z_M := (⟨"PrintHouseModel", "copy", "(II)V"⟩, prog_10_method_25_code, 4, none, 3, 12, 0, 0)
def zm124 : z_M := (⟨"PrintHouseModel", "transact", "(I)Z"⟩, prog_10_method_26_code, 3, (some .boolean), 2, 12, 2, 45)
def zm125 : z_M := (⟨"PrintHouseModel", "change", "(II)Z"⟩, prog_10_method_27_code, 4, (some .boolean), 3, 12, 3, 67)
def zm126 : z_M := (⟨"PrintHouseModel", "say", "(II)V"⟩, prog_10_method_28_code, 4, none, 3, 12, 0, 0)
def zm127 : z_M := (⟨"PrintHouseModel", "integer", "(IJI)V"⟩, prog_10_method_29_code, 6, none, 4, 12, 1, 23)
def zm128 : z_M := (⟨"PrintHouseModel", "tell", "(IZ)V"⟩, prog_10_method_30_code, 4, none, 3, 12, 2, 48)
def zm129 : z_M := (⟨"PrintHouseModel", "isBefore", "(II)Z"⟩, prog_10_method_31_code, 7, (some .boolean), 3, 12, 0, 0)
def zm130 : z_M := (⟨"PrintHouseModel", "rank", "(I)I"⟩, prog_10_method_32_code, 4, (some .int), 2, 12, 1, 26)
def zm131 : z_M := (⟨"PrintHouseModel", "list", "()V"⟩, prog_10_method_33_code, 3, none, 1, 12, 3, 71)
def zm132 : z_M := (⟨"PrintHouseModel", "does", "(I)I"⟩, prog_10_method_34_code, 3, (some .int), 2, 12, 4, 90)
def zm133 : z_M := (⟨"PrintHouseModel", "request", "()I"⟩, prog_10_method_35_code, 5, (some .int), 1, 12, 6, 153)
def zm134 : z_M := (⟨"PrintHouseModel", "reply", "(I)I"⟩, prog_10_method_36_code, 2, (some .int), 2, 12, 0, 0)
def zm135 : z_M := (⟨"PrintHouseModel", "sides", "(I)I"⟩, prog_10_method_37_code, 3, (some .int), 2, 12, 0, 0)
def zm136 : z_M := (⟨"PrintHouseModel", "sheetsOf", "(I)I"⟩, prog_10_method_38_code, 2, (some .int), 2, 12, 1, 22)
def zm137 : z_M := (⟨"PrintHouseModel", "pixelOf", "(IIII)I"⟩, prog_10_method_39_code, 5, (some .int), 5, 12, 0, 0)
def zm138 : z_M := (⟨"PrintHouseModel", "pair", "(IIIII)I"⟩, prog_10_method_40_code, 7, (some .int), 6, 12, 1, 24)
def zm139 : z_M := (⟨"PrintHouseModel", "plain", "(IIII)I"⟩, prog_10_method_41_code, 6, (some .int), 5, 12, 2, 50)
def zm140 : z_M := (⟨"PrintHouseModel", "booklet", "(IIZII)I"⟩, prog_10_method_42_code, 7, (some .int), 6, 12, 2, 50)
def zm141 : z_M := (⟨"PrintHouseModel", "send", "(I)V"⟩, prog_10_method_43_code, 2, none, 2, 12, 0, 0)
def zm142 : z_M := (⟨"PrintHouseModel", "alike", "(III)Z"⟩, prog_10_method_44_code, 6, (some .boolean), 4, 12, 0, 0)
def zm143 : z_M := (⟨"PrintHouseModel", "row", "(II)V"⟩, prog_10_method_45_code, 6, none, 3, 12, 1, 21)
def zm144 : z_M := (⟨"PrintHouseModel", "face", "(IIZII)V"⟩, prog_10_method_46_code, 14, none, 6, 12, 3, 76)
def zm145 : z_M := (⟨"PrintHouseModel", "sendSheet", "(I)V"⟩, prog_10_method_47_code, 8, none, 2, 12, 4, 109)
def zm146 : z_M := (⟨"PrintHouseModel", "chosen", "()I"⟩, prog_10_method_48_code, 5, (some .int), 1, 12, 1, 26)
def zm147 : z_M := (⟨"PrintHouseModel", "tick", "()I"⟩, prog_10_method_49_code, 3, (some .int), 1, 12, 5, 136)
def zm148 : z_M := (⟨"PrintHouseModel", "sheet", "(I)I"⟩, prog_10_method_50_code, 2, (some .int), 2, 12, 0, 0)
def zm149 : z_M := (⟨"PrintHouseModel", "stop", "(I)Z"⟩, prog_10_method_51_code, 2, (some .boolean), 2, 12, 0, 0)
def zm150 : z_M := (⟨"PrintHouseModel", "restart", "()Z"⟩, prog_10_method_52_code, 2, (some .boolean), 1, 12, 0, 0)
def zm151 : z_M := (⟨"PrintHouseModel", "job", "(II)I"⟩, prog_10_method_53_code, 4, (some .int), 3, 12, 2, 43)
def zm152 : z_M := (⟨"PrintHouseModel", "pixel", "(III)I"⟩, prog_10_method_54_code, 5, (some .int), 4, 12, 1, 22)
def zm153 : z_M := (⟨"PrintHouseModel", "count", "(I)I"⟩, prog_10_method_55_code, 2, (some .int), 2, 12, 0, 0)
def zM (i : Nat) : z_M := (cond (Nat.blt i 77) (cond (Nat.blt i 38) (cond (Nat.blt i 19) (cond (Nat.blt i 9) (cond (Nat.blt i 4) (cond (Nat.blt i 2) (cond (Nat.blt i 1) zm0 zm1) (cond (Nat.blt i 3) zm2 zm3)) (cond (Nat.blt i 6) (cond (Nat.blt i 5) zm4 zm5) (cond (Nat.blt i 7) zm6 (cond (Nat.blt i 8) zm7 zm8)))) (cond (Nat.blt i 14) (cond (Nat.blt i 11) (cond (Nat.blt i 10) zm9 zm10) (cond (Nat.blt i 12) zm11 (cond (Nat.blt i 13) zm12 zm13))) (cond (Nat.blt i 16) (cond (Nat.blt i 15) zm14 zm15) (cond (Nat.blt i 17) zm16 (cond (Nat.blt i 18) zm17 zm18))))) (cond (Nat.blt i 28) (cond (Nat.blt i 23) (cond (Nat.blt i 21) (cond (Nat.blt i 20) zm19 zm20) (cond (Nat.blt i 22) zm21 zm22)) (cond (Nat.blt i 25) (cond (Nat.blt i 24) zm23 zm24) (cond (Nat.blt i 26) zm25 (cond (Nat.blt i 27) zm26 zm27)))) (cond (Nat.blt i 33) (cond (Nat.blt i 30) (cond (Nat.blt i 29) zm28 zm29) (cond (Nat.blt i 31) zm30 (cond (Nat.blt i 32) zm31 zm32))) (cond (Nat.blt i 35) (cond (Nat.blt i 34) zm33 zm34) (cond (Nat.blt i 36) zm35 (cond (Nat.blt i 37) zm36 zm37)))))) (cond (Nat.blt i 57) (cond (Nat.blt i 47) (cond (Nat.blt i 42) (cond (Nat.blt i 40) (cond (Nat.blt i 39) zm38 zm39) (cond (Nat.blt i 41) zm40 zm41)) (cond (Nat.blt i 44) (cond (Nat.blt i 43) zm42 zm43) (cond (Nat.blt i 45) zm44 (cond (Nat.blt i 46) zm45 zm46)))) (cond (Nat.blt i 52) (cond (Nat.blt i 49) (cond (Nat.blt i 48) zm47 zm48) (cond (Nat.blt i 50) zm49 (cond (Nat.blt i 51) zm50 zm51))) (cond (Nat.blt i 54) (cond (Nat.blt i 53) zm52 zm53) (cond (Nat.blt i 55) zm54 (cond (Nat.blt i 56) zm55 zm56))))) (cond (Nat.blt i 67) (cond (Nat.blt i 62) (cond (Nat.blt i 59) (cond (Nat.blt i 58) zm57 zm58) (cond (Nat.blt i 60) zm59 (cond (Nat.blt i 61) zm60 zm61))) (cond (Nat.blt i 64) (cond (Nat.blt i 63) zm62 zm63) (cond (Nat.blt i 65) zm64 (cond (Nat.blt i 66) zm65 zm66)))) (cond (Nat.blt i 72) (cond (Nat.blt i 69) (cond (Nat.blt i 68) zm67 zm68) (cond (Nat.blt i 70) zm69 (cond (Nat.blt i 71) zm70 zm71))) (cond (Nat.blt i 74) (cond (Nat.blt i 73) zm72 zm73) (cond (Nat.blt i 75) zm74 (cond (Nat.blt i 76) zm75 zm76))))))) (cond (Nat.blt i 115) (cond (Nat.blt i 96) (cond (Nat.blt i 86) (cond (Nat.blt i 81) (cond (Nat.blt i 79) (cond (Nat.blt i 78) zm77 zm78) (cond (Nat.blt i 80) zm79 zm80)) (cond (Nat.blt i 83) (cond (Nat.blt i 82) zm81 zm82) (cond (Nat.blt i 84) zm83 (cond (Nat.blt i 85) zm84 zm85)))) (cond (Nat.blt i 91) (cond (Nat.blt i 88) (cond (Nat.blt i 87) zm86 zm87) (cond (Nat.blt i 89) zm88 (cond (Nat.blt i 90) zm89 zm90))) (cond (Nat.blt i 93) (cond (Nat.blt i 92) zm91 zm92) (cond (Nat.blt i 94) zm93 (cond (Nat.blt i 95) zm94 zm95))))) (cond (Nat.blt i 105) (cond (Nat.blt i 100) (cond (Nat.blt i 98) (cond (Nat.blt i 97) zm96 zm97) (cond (Nat.blt i 99) zm98 zm99)) (cond (Nat.blt i 102) (cond (Nat.blt i 101) zm100 zm101) (cond (Nat.blt i 103) zm102 (cond (Nat.blt i 104) zm103 zm104)))) (cond (Nat.blt i 110) (cond (Nat.blt i 107) (cond (Nat.blt i 106) zm105 zm106) (cond (Nat.blt i 108) zm107 (cond (Nat.blt i 109) zm108 zm109))) (cond (Nat.blt i 112) (cond (Nat.blt i 111) zm110 zm111) (cond (Nat.blt i 113) zm112 (cond (Nat.blt i 114) zm113 zm114)))))) (cond (Nat.blt i 134) (cond (Nat.blt i 124) (cond (Nat.blt i 119) (cond (Nat.blt i 117) (cond (Nat.blt i 116) zm115 zm116) (cond (Nat.blt i 118) zm117 zm118)) (cond (Nat.blt i 121) (cond (Nat.blt i 120) zm119 zm120) (cond (Nat.blt i 122) zm121 (cond (Nat.blt i 123) zm122 zm123)))) (cond (Nat.blt i 129) (cond (Nat.blt i 126) (cond (Nat.blt i 125) zm124 zm125) (cond (Nat.blt i 127) zm126 (cond (Nat.blt i 128) zm127 zm128))) (cond (Nat.blt i 131) (cond (Nat.blt i 130) zm129 zm130) (cond (Nat.blt i 132) zm131 (cond (Nat.blt i 133) zm132 zm133))))) (cond (Nat.blt i 144) (cond (Nat.blt i 139) (cond (Nat.blt i 136) (cond (Nat.blt i 135) zm134 zm135) (cond (Nat.blt i 137) zm136 (cond (Nat.blt i 138) zm137 zm138))) (cond (Nat.blt i 141) (cond (Nat.blt i 140) zm139 zm140) (cond (Nat.blt i 142) zm141 (cond (Nat.blt i 143) zm142 zm143)))) (cond (Nat.blt i 149) (cond (Nat.blt i 146) (cond (Nat.blt i 145) zm144 zm145) (cond (Nat.blt i 147) zm146 (cond (Nat.blt i 148) zm147 zm148))) (cond (Nat.blt i 151) (cond (Nat.blt i 150) zm149 zm150) (cond (Nat.blt i 152) zm151 (cond (Nat.blt i 153) zm152 zm153))))))))
abbrev znM : Nat := 154
abbrev kB_clear : Nat := 0
abbrev kB_length : Nat := 1
abbrev kB_at : Nat := 2
abbrev kB_add : Nat := 3
abbrev kB_addNumber : Nat := 4
abbrev kB_addInteger : Nat := 5
abbrev kB_lettersOf : Nat := 6
abbrev kB_seek : Nat := 7
abbrev kB_has : Nat := 8
abbrev kB_next : Nat := 9
abbrev kB_nextNumber : Nat := 10
abbrev kB_nextWord : Nat := 11
abbrev kD_isUp : Nat := 12
abbrev kD_stopAfter : Nat := 13
abbrev kD_comeUp : Nat := 14
abbrev kD_write : Nat := 15
abbrev kJ_setDefaults : Nat := 16
abbrev kJ_copyFrom : Nat := 17
abbrev kJ_set : Nat := 18
abbrev kJ_setInteger : Nat := 19
abbrev kJ_setBoolean : Nat := 20
abbrev kJ_setSides : Nat := 21
abbrev kJ_hasEnded : Nat := 22
abbrev kJ_blocks : Nat := 23
abbrev kJ_hasPage : Nat := 24
abbrev kJ_pixelAt : Nat := 25
abbrev kJ_sidesOfSheet : Nat := 26
abbrev kJ_sheetsOfCopy : Nat := 27
abbrev kJ_parts : Nat := 28
abbrev kJ_sheets : Nat := 29
abbrev kJ_nextSheetOfCopy : Nat := 30
abbrev kJ_pageIn : Nat := 31
abbrev kJ_fact : Nat := 32
abbrev kM_read : Nat := 33
abbrev kM_readGroups : Nat := 34
abbrev kM_readGroup : Nat := 35
abbrev kM_isTag : Nat := 36
abbrev kM_readAttribute : Nat := 37
abbrev kM_isLengthOf : Nat := 38
abbrev kM_isValueOf : Nat := 39
abbrev kM_isLastNameTwice : Nat := 40
abbrev kM_isOfOtherVersion : Nat := 41
abbrev kM_isBare : Nat := 42
abbrev kM_jobAttribute : Nat := 43
abbrev kM_namesJob : Nat := 44
abbrev kM_jobNumber : Nat := 45
abbrev kM_readSettings : Nat := 46
abbrev kR_read : Nat := 47
abbrev kR_readRaster : Nat := 48
abbrev kR_readRow : Nat := 49
abbrev kR_runLength : Nat := 50
abbrev kR_keepRow : Nat := 51
abbrev kT_send : Nat := 52
abbrev kT_layOut : Nat := 53
abbrev kT_cellWidth : Nat := 54
abbrev kT_cellHeight : Nat := 55
abbrev kT_fillSide : Nat := 56
abbrev kT_fillCell : Nat := 57
abbrev kT_turnSideByHalf : Nat := 58
abbrev kT_writeSide : Nat := 59
abbrev kT_equalRows : Nat := 60
abbrev kT_areRowsEqual : Nat := 61
abbrev kT_writeRow : Nat := 62
abbrev kT_endOfEqual : Nat := 63
abbrev kT_endOfUnlike : Nat := 64
abbrev kT_writeUnlike : Nat := 65
abbrev kS_find : Nat := 66
abbrev kS_newest : Nat := 67
abbrev kS_liveBlocks : Nat := 68
abbrev kS_processing : Nat := 69
abbrev kS_firstPending : Nat := 70
abbrev kS_following : Nat := 71
abbrev kS_isBefore : Nat := 72
abbrev kS_admit : Nat := 73
abbrev kS_changeState : Nat := 74
abbrev kS_isLogged : Nat := 75
abbrev kS_isLogRenewed : Nat := 76
abbrev kS_forgetEnded : Nat := 77
abbrev kS_beginPassesAnew : Nat := 78
abbrev kP_put : Nat := 79
abbrev kP_request : Nat := 80
abbrev kP_reply : Nat := 81
abbrev kP_tick : Nat := 82
abbrev kP_sheet : Nat := 83
abbrev kP_stop : Nat := 84
abbrev kP_restart : Nat := 85
abbrev kP_job : Nat := 86
abbrev kP_pixel : Nat := 87
abbrev kP_count : Nat := 88
abbrev kP_refuseIfDown : Nat := 89
abbrev kP_goneDown : Nat := 90
abbrev kP_statusOfMessage : Nat := 91
abbrev kP_statusOfPrint : Nat := 92
abbrev kP_statusOfJobRequest : Nat := 93
abbrev kP_isAllowed : Nat := 94
abbrev kP_carryOut : Nat := 95
abbrev kP_stateAfter : Nat := 96
abbrev kP_writeReply : Nat := 97
abbrev kP_tellOfAll : Nat := 98
abbrev kP_tellOf : Nat := 99
abbrev kX_thrown : Nat := 100
abbrev kX_put : Nat := 101
abbrev kX_peek : Nat := 102
abbrev kX_number : Nat := 103
abbrev kX_letters : Nat := 104
abbrev kX_spells : Nat := 105
abbrev kX_isNew : Nat := 106
abbrev kX_attribute : Nat := 107
abbrev kX_in : Nat := 108
abbrev kX_told : Nat := 109
abbrev kX_group : Nat := 110
abbrev kX_readAll : Nat := 111
abbrev kX_raster : Nat := 112
abbrev kX_pages : Nat := 113
abbrev kX_find : Nat := 114
abbrev kX_hasEnded : Nat := 115
abbrev kX_blocks : Nat := 116
abbrev kX_isKnown : Nat := 117
abbrev kX_printable : Nat := 118
abbrev kX_statusOf : Nat := 119
abbrev kX_write : Nat := 120
abbrev kX_goDown : Nat := 121
abbrev kX_forget : Nat := 122
abbrev kX_copy : Nat := 123
abbrev kX_transact : Nat := 124
abbrev kX_change : Nat := 125
abbrev kX_say : Nat := 126
abbrev kX_integer : Nat := 127
abbrev kX_tell : Nat := 128
abbrev kX_isBefore : Nat := 129
abbrev kX_rank : Nat := 130
abbrev kX_list : Nat := 131
abbrev kX_does : Nat := 132
abbrev kX_request : Nat := 133
abbrev kX_reply : Nat := 134
abbrev kX_sides : Nat := 135
abbrev kX_sheetsOf : Nat := 136
abbrev kX_pixelOf : Nat := 137
abbrev kX_pair : Nat := 138
abbrev kX_plain : Nat := 139
abbrev kX_booklet : Nat := 140
abbrev kX_send : Nat := 141
abbrev kX_alike : Nat := 142
abbrev kX_row : Nat := 143
abbrev kX_face : Nat := 144
abbrev kX_sendSheet : Nat := 145
abbrev kX_chosen : Nat := 146
abbrev kX_tick : Nat := 147
abbrev kX_sheet : Nat := 148
abbrev kX_stop : Nat := 149
abbrev kX_restart : Nat := 150
abbrev kX_job : Nat := 151
abbrev kX_pixel : Nat := 152
abbrev kX_count : Nat := 153
end
section
-- PrintHouse$Bytes.clear ()V
def zc0 (pc : Nat) : Option z_I := cond (Nat.blt pc 11)
  (cond (Nat.blt pc 5)
   (cond (Nat.blt pc 1)
    (cond (Nat.beq pc 0) (some (.aload_n 0, 1, 0, 0, 0, 0, 0, 0)) none)
    (cond (Nat.blt pc 2)
     (cond (Nat.beq pc 1) (some (.iconst 0, 1, 0, 0, 0, 0, 0, 0)) none)
     (cond (Nat.beq pc 2) (some (.putfield 15, 3, 1, 1, 0, 218, 0, 0)) none)))
   (cond (Nat.blt pc 7)
    (cond (Nat.blt pc 6)
     (cond (Nat.beq pc 5) (some (.aload_n 0, 1, 0, 0, 0, 0, 0, 0)) none)
     (cond (Nat.beq pc 6) (some (.iconst 0, 1, 0, 0, 0, 0, 0, 0)) none))
    (cond (Nat.blt pc 10)
     (cond (Nat.beq pc 7) (some (.putfield 19, 3, 1, 2, 0, 220, 0, 0)) none)
     (cond (Nat.beq pc 10) (some (.return_, 1, 0, 0, 0, 0, 0, 0)) none)))) none
-- PrintHouse$Bytes.length ()I
def zc1 (pc : Nat) : Option z_I := cond (Nat.blt pc 5)
  (cond (Nat.blt pc 1)
   (cond (Nat.beq pc 0) (some (.aload_n 0, 1, 0, 0, 0, 0, 0, 0)) none)
   (cond (Nat.blt pc 4)
    (cond (Nat.beq pc 1) (some (.getfield 15, 3, 1, 1, 0, 218, 0, 0)) none)
    (cond (Nat.beq pc 4) (some (.ireturn, 1, 0, 0, 0, 0, 0, 0)) none))) none
-- PrintHouse$Bytes.at (I)I
def zc2 (pc : Nat) : Option z_I := cond (Nat.blt pc 23)
  (cond (Nat.blt pc 12)
   (cond (Nat.blt pc 5)
    (cond (Nat.blt pc 1)
     (cond (Nat.beq pc 0) (some (.iload_n 1, 1, 0, 0, 0, 0, 0, 0)) none)
     (cond (Nat.blt pc 4)
      (cond (Nat.beq pc 1) (some (.ifCond .lt 20, 3, 21, 0, 0, 0, 0, 0)) none)
      (cond (Nat.beq pc 4) (some (.iload_n 1, 1, 0, 0, 0, 0, 0, 0)) none)))
    (cond (Nat.blt pc 6)
     (cond (Nat.beq pc 5) (some (.aload_n 0, 1, 0, 0, 0, 0, 0, 0)) none)
     (cond (Nat.blt pc 9)
      (cond (Nat.beq pc 6) (some (.getfield 15, 3, 1, 1, 0, 218, 0, 0)) none)
      (cond (Nat.beq pc 9) (some (.if_icmp .ge 12, 3, 21, 0, 0, 0, 0, 0)) none))))
   (cond (Nat.blt pc 17)
    (cond (Nat.blt pc 13)
     (cond (Nat.beq pc 12) (some (.aload_n 0, 1, 0, 0, 0, 0, 0, 0)) none)
     (cond (Nat.blt pc 16)
      (cond (Nat.beq pc 13) (some (.getfield 9, 3, 1, 0, 2, 216, 0, 0)) none)
      (cond (Nat.beq pc 16) (some (.iload_n 1, 1, 0, 0, 0, 0, 0, 0)) none)))
    (cond (Nat.blt pc 21)
     (cond (Nat.blt pc 18)
      (cond (Nat.beq pc 17) (some (.iaload, 1, 0, 0, 0, 0, 0, 0)) none)
      (cond (Nat.beq pc 18) (some (.goto 4, 3, 22, 0, 0, 0, 0, 0)) none))
     (cond (Nat.blt pc 22)
      (cond (Nat.beq pc 21) (some (.iconst (-1), 1, 0, 0, 0, 0, (-1), 0)) none)
      (cond (Nat.beq pc 22) (some (.ireturn, 1, 0, 0, 0, 0, 0, 0)) none))))) none
-- PrintHouse$Bytes.add (I)V
def zc3 (pc : Nat) : Option z_I := cond (Nat.blt pc 37)
  (cond (Nat.blt pc 20)
   (cond (Nat.blt pc 9)
    (cond (Nat.blt pc 4)
     (cond (Nat.blt pc 1)
      (cond (Nat.beq pc 0) (some (.aload_n 0, 1, 0, 0, 0, 0, 0, 0)) none)
      (cond (Nat.beq pc 1) (some (.getfield 15, 3, 1, 1, 0, 218, 0, 0)) none))
     (cond (Nat.blt pc 5)
      (cond (Nat.beq pc 4) (some (.aload_n 0, 1, 0, 0, 0, 0, 0, 0)) none)
      (cond (Nat.blt pc 8)
       (cond (Nat.beq pc 5) (some (.getfield 9, 3, 1, 0, 2, 216, 0, 0)) none)
       (cond (Nat.beq pc 8) (some (.arraylength, 1, 0, 0, 0, 0, 0, 0)) none))))
    (cond (Nat.blt pc 13)
     (cond (Nat.blt pc 12)
      (cond (Nat.beq pc 9) (some (.if_icmp .ge 27, 3, 36, 0, 0, 0, 0, 0)) none)
      (cond (Nat.beq pc 12) (some (.aload_n 0, 1, 0, 0, 0, 0, 0, 0)) none))
     (cond (Nat.blt pc 16)
      (cond (Nat.beq pc 13) (some (.getfield 9, 3, 1, 0, 2, 216, 0, 0)) none)
      (cond (Nat.blt pc 17)
       (cond (Nat.beq pc 16) (some (.aload_n 0, 1, 0, 0, 0, 0, 0, 0)) none)
       (cond (Nat.beq pc 17) (some (.getfield 15, 3, 1, 1, 0, 218, 0, 0)) none)))))
   (cond (Nat.blt pc 27)
    (cond (Nat.blt pc 24)
     (cond (Nat.blt pc 21)
      (cond (Nat.beq pc 20) (some (.iload_n 1, 1, 0, 0, 0, 0, 0, 0)) none)
      (cond (Nat.beq pc 21) (some (.sipush 255, 3, 0, 0, 0, 0, 255, 0)) none))
     (cond (Nat.blt pc 25)
      (cond (Nat.beq pc 24) (some (.iand, 1, 0, 0, 0, 0, 0, 0)) none)
      (cond (Nat.blt pc 26)
       (cond (Nat.beq pc 25) (some (.iastore, 1, 0, 0, 0, 0, 0, 0)) none)
       (cond (Nat.beq pc 26) (some (.aload_n 0, 1, 0, 0, 0, 0, 0, 0)) none))))
    (cond (Nat.blt pc 32)
     (cond (Nat.blt pc 28)
      (cond (Nat.beq pc 27) (some (.dup, 1, 0, 0, 0, 0, 0, 0)) none)
      (cond (Nat.blt pc 31)
       (cond (Nat.beq pc 28) (some (.getfield 15, 3, 1, 1, 0, 218, 0, 0)) none)
       (cond (Nat.beq pc 31) (some (.iconst 1, 1, 0, 0, 0, 0, 1, 0)) none)))
     (cond (Nat.blt pc 33)
      (cond (Nat.beq pc 32) (some (.iadd, 1, 0, 0, 0, 0, 0, 0)) none)
      (cond (Nat.blt pc 36)
       (cond (Nat.beq pc 33) (some (.putfield 15, 3, 1, 1, 0, 218, 0, 0)) none)
       (cond (Nat.beq pc 36) (some (.return_, 1, 0, 0, 0, 0, 0, 0)) none)))))) none
-- PrintHouse$Bytes.addNumber (JI)V
def zc4 (pc : Nat) : Option z_I := cond (Nat.blt pc 29)
  (cond (Nat.blt pc 12)
   (cond (Nat.blt pc 5)
    (cond (Nat.blt pc 2)
     (cond (Nat.blt pc 1)
      (cond (Nat.beq pc 0) (some (.iload_n 3, 1, 0, 0, 0, 0, 0, 0)) none)
      (cond (Nat.beq pc 1) (some (.iconst 1, 1, 0, 0, 0, 0, 1, 0)) none))
     (cond (Nat.blt pc 3)
      (cond (Nat.beq pc 2) (some (.isub, 1, 0, 0, 0, 0, 0, 0)) none)
      (cond (Nat.beq pc 3) (some (.istore 4, 2, 0, 0, 0, 0, 0, 0)) none)))
    (cond (Nat.blt pc 10)
     (cond (Nat.blt pc 7)
      (cond (Nat.beq pc 5) (some (.iload 4, 2, 0, 0, 0, 0, 0, 0)) none)
      (cond (Nat.beq pc 7) (some (.ifCond .lt 21, 3, 28, 0, 0, 0, 0, 0)) none))
     (cond (Nat.blt pc 11)
      (cond (Nat.beq pc 10) (some (.aload_n 0, 1, 0, 0, 0, 0, 0, 0)) none)
      (cond (Nat.beq pc 11) (some (.lload_n 1, 1, 0, 0, 0, 0, 0, 0)) none))))
   (cond (Nat.blt pc 18)
    (cond (Nat.blt pc 16)
     (cond (Nat.blt pc 14)
      (cond (Nat.beq pc 12) (some (.bipush 8, 2, 0, 0, 0, 0, 8, 0)) none)
      (cond (Nat.beq pc 14) (some (.iload 4, 2, 0, 0, 0, 0, 0, 0)) none))
     (cond (Nat.blt pc 17)
      (cond (Nat.beq pc 16) (some (.imul, 1, 0, 0, 0, 0, 0, 0)) none)
      (cond (Nat.beq pc 17) (some (.lshr, 1, 0, 0, 0, 0, 0, 0)) none)))
    (cond (Nat.blt pc 22)
     (cond (Nat.blt pc 19)
      (cond (Nat.beq pc 18) (some (.l2i, 1, 0, 0, 0, 0, 0, 0)) none)
      (cond (Nat.beq pc 19) (some (.invokevirtual 22, 3, 3, 0, 0, 700, 0, 0)) none))
     (cond (Nat.blt pc 25)
      (cond (Nat.beq pc 22) (some (.iinc 4 (-1), 3, 0, 0, 0, 0, (-1), 0)) none)
      (cond (Nat.blt pc 28)
       (cond (Nat.beq pc 25) (some (.goto (-20), 3, 5, 0, 0, 0, 0, 0)) none)
       (cond (Nat.beq pc 28) (some (.return_, 1, 0, 0, 0, 0, 0, 0)) none)))))) none
-- PrintHouse$Bytes.addInteger (JI)V
def zc5 (pc : Nat) : Option z_I := cond (Nat.blt pc 43)
  (cond (Nat.blt pc 21)
   (cond (Nat.blt pc 12)
    (cond (Nat.blt pc 6)
     (cond (Nat.blt pc 1)
      (cond (Nat.beq pc 0) (some (.lload_n 1, 1, 0, 0, 0, 0, 0, 0)) none)
      (cond (Nat.blt pc 4)
       (cond (Nat.beq pc 1) (some (.invokestatic 26, 3, 6, 0, 0, 1394, 0, 0)) none)
       (cond (Nat.beq pc 4) (some (.istore 4, 2, 0, 0, 0, 0, 0, 0)) none)))
     (cond (Nat.blt pc 7)
      (cond (Nat.beq pc 6) (some (.aload_n 0, 1, 0, 0, 0, 0, 0, 0)) none)
      (cond (Nat.blt pc 9)
       (cond (Nat.beq pc 7) (some (.bipush 33, 2, 0, 0, 0, 0, 33, 0)) none)
       (cond (Nat.beq pc 9) (some (.invokevirtual 22, 3, 3, 0, 0, 700, 0, 0)) none))))
    (cond (Nat.blt pc 16)
     (cond (Nat.blt pc 13)
      (cond (Nat.beq pc 12) (some (.aload_n 0, 1, 0, 0, 0, 0, 0, 0)) none)
      (cond (Nat.blt pc 15)
       (cond (Nat.beq pc 13) (some (.iload 4, 2, 0, 0, 0, 0, 0, 0)) none)
       (cond (Nat.beq pc 15) (some (.i2l, 1, 0, 0, 0, 0, 0, 0)) none)))
     (cond (Nat.blt pc 17)
      (cond (Nat.beq pc 16) (some (.iconst 2, 1, 0, 0, 0, 0, 2, 0)) none)
      (cond (Nat.blt pc 20)
       (cond (Nat.beq pc 17) (some (.invokevirtual 30, 3, 4, 0, 0, 1402, 0, 0)) none)
       (cond (Nat.beq pc 20) (some (.aload_n 0, 1, 0, 0, 0, 0, 0, 0)) none)))))
   (cond (Nat.blt pc 32)
    (cond (Nat.blt pc 27)
     (cond (Nat.blt pc 22)
      (cond (Nat.beq pc 21) (some (.lload_n 1, 1, 0, 0, 0, 0, 0, 0)) none)
      (cond (Nat.blt pc 24)
       (cond (Nat.beq pc 22) (some (.iload 4, 2, 0, 0, 0, 0, 0, 0)) none)
       (cond (Nat.beq pc 24) (some (.invokevirtual 30, 3, 4, 0, 0, 1402, 0, 0)) none)))
     (cond (Nat.blt pc 28)
      (cond (Nat.beq pc 27) (some (.aload_n 0, 1, 0, 0, 0, 0, 0, 0)) none)
      (cond (Nat.blt pc 31)
       (cond (Nat.beq pc 28) (some (.ldc2_w 34, 3, 0, 0, 0, 702, 0, 4)) none)
       (cond (Nat.beq pc 31) (some (.iconst 2, 1, 0, 0, 0, 0, 2, 0)) none))))
    (cond (Nat.blt pc 37)
     (cond (Nat.blt pc 35)
      (cond (Nat.beq pc 32) (some (.invokevirtual 30, 3, 4, 0, 0, 1402, 0, 0)) none)
      (cond (Nat.blt pc 36)
       (cond (Nat.beq pc 35) (some (.aload_n 0, 1, 0, 0, 0, 0, 0, 0)) none)
       (cond (Nat.beq pc 36) (some (.iload_n 3, 1, 0, 0, 0, 0, 0, 0)) none)))
     (cond (Nat.blt pc 39)
      (cond (Nat.blt pc 38)
       (cond (Nat.beq pc 37) (some (.i2l, 1, 0, 0, 0, 0, 0, 0)) none)
       (cond (Nat.beq pc 38) (some (.iconst 4, 1, 0, 0, 0, 0, 4, 0)) none))
      (cond (Nat.blt pc 42)
       (cond (Nat.beq pc 39) (some (.invokevirtual 30, 3, 4, 0, 0, 1402, 0, 0)) none)
       (cond (Nat.beq pc 42) (some (.return_, 1, 0, 0, 0, 0, 0, 0)) none)))))) none
-- PrintHouse$Bytes.lettersOf (J)I
def zc6 (pc : Nat) : Option z_I := cond (Nat.blt pc 36)
  (cond (Nat.blt pc 15)
   (cond (Nat.blt pc 5)
    (cond (Nat.blt pc 2)
     (cond (Nat.blt pc 1)
      (cond (Nat.beq pc 0) (some (.iconst 0, 1, 0, 0, 0, 0, 0, 0)) none)
      (cond (Nat.beq pc 1) (some (.istore_n 2, 1, 0, 0, 0, 0, 0, 0)) none))
     (cond (Nat.blt pc 3)
      (cond (Nat.beq pc 2) (some (.iconst 0, 1, 0, 0, 0, 0, 0, 0)) none)
      (cond (Nat.blt pc 4)
       (cond (Nat.beq pc 3) (some (.istore_n 3, 1, 0, 0, 0, 0, 0, 0)) none)
       (cond (Nat.beq pc 4) (some (.iload_n 3, 1, 0, 0, 0, 0, 0, 0)) none))))
    (cond (Nat.blt pc 11)
     (cond (Nat.blt pc 7)
      (cond (Nat.beq pc 5) (some (.bipush 8, 2, 0, 0, 0, 0, 8, 0)) none)
      (cond (Nat.blt pc 10)
       (cond (Nat.beq pc 7) (some (.if_icmp .ge 27, 3, 34, 0, 0, 0, 0, 0)) none)
       (cond (Nat.beq pc 10) (some (.lload_n 0, 1, 0, 0, 0, 0, 0, 0)) none)))
     (cond (Nat.blt pc 13)
      (cond (Nat.beq pc 11) (some (.bipush 8, 2, 0, 0, 0, 0, 8, 0)) none)
      (cond (Nat.blt pc 14)
       (cond (Nat.beq pc 13) (some (.iload_n 3, 1, 0, 0, 0, 0, 0, 0)) none)
       (cond (Nat.beq pc 14) (some (.imul, 1, 0, 0, 0, 0, 0, 0)) none)))))
   (cond (Nat.blt pc 22)
    (cond (Nat.blt pc 19)
     (cond (Nat.blt pc 16)
      (cond (Nat.beq pc 15) (some (.lshr, 1, 0, 0, 0, 0, 0, 0)) none)
      (cond (Nat.beq pc 16) (some (.ldc2_w 36, 3, 0, 0, 0, 700, 0, 255)) none))
     (cond (Nat.blt pc 20)
      (cond (Nat.beq pc 19) (some (.land, 1, 0, 0, 0, 0, 0, 0)) none)
      (cond (Nat.blt pc 21)
       (cond (Nat.beq pc 20) (some (.lconst 0, 1, 0, 0, 0, 0, 0, 0)) none)
       (cond (Nat.beq pc 21) (some (.lcmp, 1, 0, 0, 0, 0, 0, 0)) none))))
    (cond (Nat.blt pc 31)
     (cond (Nat.blt pc 25)
      (cond (Nat.beq pc 22) (some (.ifCond .eq 6, 3, 28, 0, 0, 0, 0, 0)) none)
      (cond (Nat.blt pc 28)
       (cond (Nat.beq pc 25) (some (.iinc 2 1, 3, 0, 0, 0, 0, 1, 0)) none)
       (cond (Nat.beq pc 28) (some (.iinc 3 1, 3, 0, 0, 0, 0, 1, 0)) none)))
     (cond (Nat.blt pc 34)
      (cond (Nat.beq pc 31) (some (.goto (-27), 3, 4, 0, 0, 0, 0, 0)) none)
      (cond (Nat.blt pc 35)
       (cond (Nat.beq pc 34) (some (.iload_n 2, 1, 0, 0, 0, 0, 0, 0)) none)
       (cond (Nat.beq pc 35) (some (.ireturn, 1, 0, 0, 0, 0, 0, 0)) none)))))) none
-- PrintHouse$Bytes.seek (I)V
def zc7 (pc : Nat) : Option z_I := cond (Nat.blt pc 6)
  (cond (Nat.blt pc 2)
   (cond (Nat.blt pc 1)
    (cond (Nat.beq pc 0) (some (.aload_n 0, 1, 0, 0, 0, 0, 0, 0)) none)
    (cond (Nat.beq pc 1) (some (.iload_n 1, 1, 0, 0, 0, 0, 0, 0)) none))
   (cond (Nat.blt pc 5)
    (cond (Nat.beq pc 2) (some (.putfield 19, 3, 1, 2, 0, 220, 0, 0)) none)
    (cond (Nat.beq pc 5) (some (.return_, 1, 0, 0, 0, 0, 0, 0)) none))) none
-- PrintHouse$Bytes.has (I)Z
def zc8 (pc : Nat) : Option z_I := cond (Nat.blt pc 19)
  (cond (Nat.blt pc 9)
   (cond (Nat.blt pc 2)
    (cond (Nat.blt pc 1)
     (cond (Nat.beq pc 0) (some (.iload_n 1, 1, 0, 0, 0, 0, 0, 0)) none)
     (cond (Nat.beq pc 1) (some (.aload_n 0, 1, 0, 0, 0, 0, 0, 0)) none))
    (cond (Nat.blt pc 5)
     (cond (Nat.beq pc 2) (some (.getfield 15, 3, 1, 1, 0, 218, 0, 0)) none)
     (cond (Nat.blt pc 6)
      (cond (Nat.beq pc 5) (some (.aload_n 0, 1, 0, 0, 0, 0, 0, 0)) none)
      (cond (Nat.beq pc 6) (some (.getfield 19, 3, 1, 2, 0, 220, 0, 0)) none))))
   (cond (Nat.blt pc 14)
    (cond (Nat.blt pc 10)
     (cond (Nat.beq pc 9) (some (.isub, 1, 0, 0, 0, 0, 0, 0)) none)
     (cond (Nat.blt pc 13)
      (cond (Nat.beq pc 10) (some (.if_icmp .gt 7, 3, 17, 0, 0, 0, 0, 0)) none)
      (cond (Nat.beq pc 13) (some (.iconst 1, 1, 0, 0, 0, 0, 1, 0)) none)))
    (cond (Nat.blt pc 17)
     (cond (Nat.beq pc 14) (some (.goto 4, 3, 18, 0, 0, 0, 0, 0)) none)
     (cond (Nat.blt pc 18)
      (cond (Nat.beq pc 17) (some (.iconst 0, 1, 0, 0, 0, 0, 0, 0)) none)
      (cond (Nat.beq pc 18) (some (.ireturn, 1, 0, 0, 1, 0, 0, 0)) none))))) none
-- PrintHouse$Bytes.next ()I
def zc9 (pc : Nat) : Option z_I := cond (Nat.blt pc 42)
  (cond (Nat.blt pc 24)
   (cond (Nat.blt pc 12)
    (cond (Nat.blt pc 7)
     (cond (Nat.blt pc 1)
      (cond (Nat.beq pc 0) (some (.aload_n 0, 1, 0, 0, 0, 0, 0, 0)) none)
      (cond (Nat.blt pc 4)
       (cond (Nat.beq pc 1) (some (.getfield 19, 3, 1, 2, 0, 220, 0, 0)) none)
       (cond (Nat.beq pc 4) (some (.ifCond .lt 14, 3, 18, 0, 0, 0, 0, 0)) none)))
     (cond (Nat.blt pc 8)
      (cond (Nat.beq pc 7) (some (.aload_n 0, 1, 0, 0, 0, 0, 0, 0)) none)
      (cond (Nat.blt pc 11)
       (cond (Nat.beq pc 8) (some (.getfield 19, 3, 1, 2, 0, 220, 0, 0)) none)
       (cond (Nat.beq pc 11) (some (.aload_n 0, 1, 0, 0, 0, 0, 0, 0)) none))))
    (cond (Nat.blt pc 19)
     (cond (Nat.blt pc 15)
      (cond (Nat.beq pc 12) (some (.getfield 15, 3, 1, 1, 0, 218, 0, 0)) none)
      (cond (Nat.blt pc 18)
       (cond (Nat.beq pc 15) (some (.if_icmp .lt 5, 3, 20, 0, 0, 0, 0, 0)) none)
       (cond (Nat.beq pc 18) (some (.iconst (-1), 1, 0, 0, 0, 0, (-1), 0)) none)))
     (cond (Nat.blt pc 20)
      (cond (Nat.beq pc 19) (some (.ireturn, 1, 0, 0, 0, 0, 0, 0)) none)
      (cond (Nat.blt pc 21)
       (cond (Nat.beq pc 20) (some (.aload_n 0, 1, 0, 0, 0, 0, 0, 0)) none)
       (cond (Nat.beq pc 21) (some (.getfield 9, 3, 1, 0, 2, 216, 0, 0)) none)))))
   (cond (Nat.blt pc 32)
    (cond (Nat.blt pc 29)
     (cond (Nat.blt pc 25)
      (cond (Nat.beq pc 24) (some (.aload_n 0, 1, 0, 0, 0, 0, 0, 0)) none)
      (cond (Nat.blt pc 28)
       (cond (Nat.beq pc 25) (some (.getfield 19, 3, 1, 2, 0, 220, 0, 0)) none)
       (cond (Nat.beq pc 28) (some (.iaload, 1, 0, 0, 0, 0, 0, 0)) none)))
     (cond (Nat.blt pc 30)
      (cond (Nat.beq pc 29) (some (.istore_n 1, 1, 0, 0, 0, 0, 0, 0)) none)
      (cond (Nat.blt pc 31)
       (cond (Nat.beq pc 30) (some (.aload_n 0, 1, 0, 0, 0, 0, 0, 0)) none)
       (cond (Nat.beq pc 31) (some (.dup, 1, 0, 0, 0, 0, 0, 0)) none))))
    (cond (Nat.blt pc 37)
     (cond (Nat.blt pc 35)
      (cond (Nat.beq pc 32) (some (.getfield 19, 3, 1, 2, 0, 220, 0, 0)) none)
      (cond (Nat.blt pc 36)
       (cond (Nat.beq pc 35) (some (.iconst 1, 1, 0, 0, 0, 0, 1, 0)) none)
       (cond (Nat.beq pc 36) (some (.iadd, 1, 0, 0, 0, 0, 0, 0)) none)))
     (cond (Nat.blt pc 40)
      (cond (Nat.beq pc 37) (some (.putfield 19, 3, 1, 2, 0, 220, 0, 0)) none)
      (cond (Nat.blt pc 41)
       (cond (Nat.beq pc 40) (some (.iload_n 1, 1, 0, 0, 0, 0, 0, 0)) none)
       (cond (Nat.beq pc 41) (some (.ireturn, 1, 0, 0, 0, 0, 0, 0)) none)))))) none
-- PrintHouse$Bytes.nextNumber (I)J
def zc10 (pc : Nat) : Option z_I := cond (Nat.blt pc 42)
  (cond (Nat.blt pc 20)
   (cond (Nat.blt pc 12)
    (cond (Nat.blt pc 5)
     (cond (Nat.blt pc 1)
      (cond (Nat.beq pc 0) (some (.aload_n 0, 1, 0, 0, 0, 0, 0, 0)) none)
      (cond (Nat.blt pc 2)
       (cond (Nat.beq pc 1) (some (.iload_n 1, 1, 0, 0, 0, 0, 0, 0)) none)
       (cond (Nat.beq pc 2) (some (.invokevirtual 38, 3, 8, 0, 0, 956, 0, 0)) none)))
     (cond (Nat.blt pc 8)
      (cond (Nat.beq pc 5) (some (.ifCond .ne 7, 3, 12, 0, 0, 0, 0, 0)) none)
      (cond (Nat.blt pc 11)
       (cond (Nat.beq pc 8) (some (.ldc2_w 42, 3, 0, 0, 0, 482, 0, (-1))) none)
       (cond (Nat.beq pc 11) (some (.lreturn, 1, 0, 0, 0, 0, 0, 0)) none))))
    (cond (Nat.blt pc 15)
     (cond (Nat.blt pc 13)
      (cond (Nat.beq pc 12) (some (.lconst 0, 1, 0, 0, 0, 0, 0, 0)) none)
      (cond (Nat.blt pc 14)
       (cond (Nat.beq pc 13) (some (.lstore_n 2, 1, 0, 0, 0, 0, 0, 0)) none)
       (cond (Nat.beq pc 14) (some (.iconst 0, 1, 0, 0, 0, 0, 0, 0)) none)))
     (cond (Nat.blt pc 17)
      (cond (Nat.beq pc 15) (some (.istore 4, 2, 0, 0, 0, 0, 0, 0)) none)
      (cond (Nat.blt pc 19)
       (cond (Nat.beq pc 17) (some (.iload 4, 2, 0, 0, 0, 0, 0, 0)) none)
       (cond (Nat.beq pc 19) (some (.iload_n 1, 1, 0, 0, 0, 0, 0, 0)) none)))))
   (cond (Nat.blt pc 31)
    (cond (Nat.blt pc 26)
     (cond (Nat.blt pc 23)
      (cond (Nat.beq pc 20) (some (.if_icmp .ge 20, 3, 40, 0, 0, 0, 0, 0)) none)
      (cond (Nat.blt pc 24)
       (cond (Nat.beq pc 23) (some (.lload_n 2, 1, 0, 0, 0, 0, 0, 0)) none)
       (cond (Nat.beq pc 24) (some (.bipush 8, 2, 0, 0, 0, 0, 8, 0)) none)))
     (cond (Nat.blt pc 27)
      (cond (Nat.beq pc 26) (some (.lshl, 1, 0, 0, 0, 0, 0, 0)) none)
      (cond (Nat.blt pc 28)
       (cond (Nat.beq pc 27) (some (.aload_n 0, 1, 0, 0, 0, 0, 0, 0)) none)
       (cond (Nat.beq pc 28) (some (.invokevirtual 44, 3, 9, 0, 0, 966, 0, 0)) none))))
    (cond (Nat.blt pc 34)
     (cond (Nat.blt pc 32)
      (cond (Nat.beq pc 31) (some (.i2l, 1, 0, 0, 0, 0, 0, 0)) none)
      (cond (Nat.blt pc 33)
       (cond (Nat.beq pc 32) (some (.lor, 1, 0, 0, 0, 0, 0, 0)) none)
       (cond (Nat.beq pc 33) (some (.lstore_n 2, 1, 0, 0, 0, 0, 0, 0)) none)))
     (cond (Nat.blt pc 40)
      (cond (Nat.blt pc 37)
       (cond (Nat.beq pc 34) (some (.iinc 4 1, 3, 0, 0, 0, 0, 1, 0)) none)
       (cond (Nat.beq pc 37) (some (.goto (-20), 3, 17, 0, 0, 0, 0, 0)) none))
      (cond (Nat.blt pc 41)
       (cond (Nat.beq pc 40) (some (.lload_n 2, 1, 0, 0, 0, 0, 0, 0)) none)
       (cond (Nat.beq pc 41) (some (.lreturn, 1, 0, 0, 0, 0, 0, 0)) none)))))) none
-- PrintHouse$Bytes.nextWord (I)J
def zc11 (pc : Nat) : Option z_I := cond (Nat.blt pc 63)
  (cond (Nat.blt pc 30)
   (cond (Nat.blt pc 14)
    (cond (Nat.blt pc 6)
     (cond (Nat.blt pc 2)
      (cond (Nat.blt pc 1)
       (cond (Nat.beq pc 0) (some (.iload_n 1, 1, 0, 0, 0, 0, 0, 0)) none)
       (cond (Nat.beq pc 1) (some (.iconst 1, 1, 0, 0, 0, 0, 1, 0)) none))
      (cond (Nat.blt pc 5)
       (cond (Nat.beq pc 2) (some (.if_icmp .lt 9, 3, 11, 0, 0, 0, 0, 0)) none)
       (cond (Nat.beq pc 5) (some (.iload_n 1, 1, 0, 0, 0, 0, 0, 0)) none)))
     (cond (Nat.blt pc 11)
      (cond (Nat.blt pc 8)
       (cond (Nat.beq pc 6) (some (.bipush 8, 2, 0, 0, 0, 0, 8, 0)) none)
       (cond (Nat.beq pc 8) (some (.if_icmp .le 5, 3, 13, 0, 0, 0, 0, 0)) none))
      (cond (Nat.blt pc 12)
       (cond (Nat.beq pc 11) (some (.lconst 0, 1, 0, 0, 0, 0, 0, 0)) none)
       (cond (Nat.blt pc 13)
        (cond (Nat.beq pc 12) (some (.lreturn, 1, 0, 0, 0, 0, 0, 0)) none)
        (cond (Nat.beq pc 13) (some (.lconst 0, 1, 0, 0, 0, 0, 0, 0)) none)))))
    (cond (Nat.blt pc 20)
     (cond (Nat.blt pc 16)
      (cond (Nat.blt pc 15)
       (cond (Nat.beq pc 14) (some (.lstore_n 2, 1, 0, 0, 0, 0, 0, 0)) none)
       (cond (Nat.beq pc 15) (some (.iconst 0, 1, 0, 0, 0, 0, 0, 0)) none))
      (cond (Nat.blt pc 18)
       (cond (Nat.beq pc 16) (some (.istore 4, 2, 0, 0, 0, 0, 0, 0)) none)
       (cond (Nat.beq pc 18) (some (.iload 4, 2, 0, 0, 0, 0, 0, 0)) none)))
     (cond (Nat.blt pc 24)
      (cond (Nat.blt pc 21)
       (cond (Nat.beq pc 20) (some (.iload_n 1, 1, 0, 0, 0, 0, 0, 0)) none)
       (cond (Nat.beq pc 21) (some (.if_icmp .ge 40, 3, 61, 0, 0, 0, 0, 0)) none))
      (cond (Nat.blt pc 25)
       (cond (Nat.beq pc 24) (some (.aload_n 0, 1, 0, 0, 0, 0, 0, 0)) none)
       (cond (Nat.blt pc 28)
        (cond (Nat.beq pc 25) (some (.invokevirtual 44, 3, 9, 0, 0, 966, 0, 0)) none)
        (cond (Nat.beq pc 28) (some (.istore 5, 2, 0, 0, 0, 0, 0, 0)) none))))))
   (cond (Nat.blt pc 47)
    (cond (Nat.blt pc 39)
     (cond (Nat.blt pc 34)
      (cond (Nat.blt pc 32)
       (cond (Nat.beq pc 30) (some (.iload 5, 2, 0, 0, 0, 0, 0, 0)) none)
       (cond (Nat.beq pc 32) (some (.bipush 97, 2, 0, 0, 0, 0, 97, 0)) none))
      (cond (Nat.blt pc 37)
       (cond (Nat.beq pc 34) (some (.if_icmp .lt 10, 3, 44, 0, 0, 0, 0, 0)) none)
       (cond (Nat.beq pc 37) (some (.iload 5, 2, 0, 0, 0, 0, 0, 0)) none)))
     (cond (Nat.blt pc 44)
      (cond (Nat.blt pc 41)
       (cond (Nat.beq pc 39) (some (.bipush 122, 2, 0, 0, 0, 0, 122, 0)) none)
       (cond (Nat.beq pc 41) (some (.if_icmp .le 5, 3, 46, 0, 0, 0, 0, 0)) none))
      (cond (Nat.blt pc 45)
       (cond (Nat.beq pc 44) (some (.lconst 0, 1, 0, 0, 0, 0, 0, 0)) none)
       (cond (Nat.blt pc 46)
        (cond (Nat.beq pc 45) (some (.lreturn, 1, 0, 0, 0, 0, 0, 0)) none)
        (cond (Nat.beq pc 46) (some (.lload_n 2, 1, 0, 0, 0, 0, 0, 0)) none)))))
    (cond (Nat.blt pc 54)
     (cond (Nat.blt pc 50)
      (cond (Nat.blt pc 49)
       (cond (Nat.beq pc 47) (some (.bipush 8, 2, 0, 0, 0, 0, 8, 0)) none)
       (cond (Nat.beq pc 49) (some (.lshl, 1, 0, 0, 0, 0, 0, 0)) none))
      (cond (Nat.blt pc 52)
       (cond (Nat.beq pc 50) (some (.iload 5, 2, 0, 0, 0, 0, 0, 0)) none)
       (cond (Nat.blt pc 53)
        (cond (Nat.beq pc 52) (some (.i2l, 1, 0, 0, 0, 0, 0, 0)) none)
        (cond (Nat.beq pc 53) (some (.lor, 1, 0, 0, 0, 0, 0, 0)) none))))
     (cond (Nat.blt pc 58)
      (cond (Nat.blt pc 55)
       (cond (Nat.beq pc 54) (some (.lstore_n 2, 1, 0, 0, 0, 0, 0, 0)) none)
       (cond (Nat.beq pc 55) (some (.iinc 4 1, 3, 0, 0, 0, 0, 1, 0)) none))
      (cond (Nat.blt pc 61)
       (cond (Nat.beq pc 58) (some (.goto (-40), 3, 18, 0, 0, 0, 0, 0)) none)
       (cond (Nat.blt pc 62)
        (cond (Nat.beq pc 61) (some (.lload_n 2, 1, 0, 0, 0, 0, 0, 0)) none)
        (cond (Nat.beq pc 62) (some (.lreturn, 1, 0, 0, 0, 0, 0, 0)) none))))))) none
-- PrintHouse$Disk.isUp ()Z
def zc12 (pc : Nat) : Option z_I := cond (Nat.blt pc 5)
  (cond (Nat.blt pc 1)
   (cond (Nat.beq pc 0) (some (.aload_n 0, 1, 0, 0, 0, 0, 0, 0)) none)
   (cond (Nat.blt pc 4)
    (cond (Nat.beq pc 1) (some (.getfield 9, 3, 5, 2, 1, 486, 0, 0)) none)
    (cond (Nat.beq pc 4) (some (.ireturn, 1, 0, 0, 1, 0, 0, 0)) none))) none
-- PrintHouse$Disk.stopAfter (I)V
def zc13 (pc : Nat) : Option z_I := cond (Nat.blt pc 6)
  (cond (Nat.blt pc 2)
   (cond (Nat.blt pc 1)
    (cond (Nat.beq pc 0) (some (.aload_n 0, 1, 0, 0, 0, 0, 0, 0)) none)
    (cond (Nat.beq pc 1) (some (.iload_n 1, 1, 0, 0, 0, 0, 0, 0)) none))
   (cond (Nat.blt pc 5)
    (cond (Nat.beq pc 2) (some (.putfield 15, 3, 5, 3, 0, 488, 0, 0)) none)
    (cond (Nat.beq pc 5) (some (.return_, 1, 0, 0, 0, 0, 0, 0)) none))) none
-- PrintHouse$Disk.comeUp ()V
def zc14 (pc : Nat) : Option z_I := cond (Nat.blt pc 6)
  (cond (Nat.blt pc 2)
   (cond (Nat.blt pc 1)
    (cond (Nat.beq pc 0) (some (.aload_n 0, 1, 0, 0, 0, 0, 0, 0)) none)
    (cond (Nat.beq pc 1) (some (.iconst 1, 1, 0, 0, 0, 0, 1, 0)) none))
   (cond (Nat.blt pc 5)
    (cond (Nat.beq pc 2) (some (.putfield 9, 3, 5, 2, 1, 486, 0, 0)) none)
    (cond (Nat.beq pc 5) (some (.return_, 1, 0, 0, 0, 0, 0, 0)) none))) none
-- PrintHouse$Disk.write (I)Z
def zc15 (pc : Nat) : Option z_I := cond (Nat.blt pc 61)
  (cond (Nat.blt pc 27)
   (cond (Nat.blt pc 14)
    (cond (Nat.blt pc 4)
     (cond (Nat.blt pc 2)
      (cond (Nat.blt pc 1)
       (cond (Nat.beq pc 0) (some (.iconst 0, 1, 0, 0, 0, 0, 0, 0)) none)
       (cond (Nat.beq pc 1) (some (.istore_n 2, 1, 0, 0, 0, 0, 0, 0)) none))
      (cond (Nat.blt pc 3)
       (cond (Nat.beq pc 2) (some (.iload_n 2, 1, 0, 0, 0, 0, 0, 0)) none)
       (cond (Nat.beq pc 3) (some (.iload_n 1, 1, 0, 0, 0, 0, 0, 0)) none)))
     (cond (Nat.blt pc 8)
      (cond (Nat.blt pc 7)
       (cond (Nat.beq pc 4) (some (.if_icmp .ge 55, 3, 59, 0, 0, 0, 0, 0)) none)
       (cond (Nat.beq pc 7) (some (.aload_n 0, 1, 0, 0, 0, 0, 0, 0)) none))
      (cond (Nat.blt pc 11)
       (cond (Nat.beq pc 8) (some (.getfield 15, 3, 5, 3, 0, 488, 0, 0)) none)
       (cond (Nat.beq pc 11) (some (.ifCond .ne 15, 3, 26, 0, 0, 0, 0, 0)) none))))
    (cond (Nat.blt pc 20)
     (cond (Nat.blt pc 16)
      (cond (Nat.blt pc 15)
       (cond (Nat.beq pc 14) (some (.aload_n 0, 1, 0, 0, 0, 0, 0, 0)) none)
       (cond (Nat.beq pc 15) (some (.iconst (-1), 1, 0, 0, 0, 0, (-1), 0)) none))
      (cond (Nat.blt pc 19)
       (cond (Nat.beq pc 16) (some (.putfield 15, 3, 5, 3, 0, 488, 0, 0)) none)
       (cond (Nat.beq pc 19) (some (.aload_n 0, 1, 0, 0, 0, 0, 0, 0)) none)))
     (cond (Nat.blt pc 24)
      (cond (Nat.blt pc 21)
       (cond (Nat.beq pc 20) (some (.iconst 0, 1, 0, 0, 0, 0, 0, 0)) none)
       (cond (Nat.beq pc 21) (some (.putfield 9, 3, 5, 2, 1, 486, 0, 0)) none))
      (cond (Nat.blt pc 25)
       (cond (Nat.beq pc 24) (some (.iconst 0, 1, 0, 0, 0, 0, 0, 0)) none)
       (cond (Nat.blt pc 26)
        (cond (Nat.beq pc 25) (some (.ireturn, 1, 0, 0, 1, 0, 0, 0)) none)
        (cond (Nat.beq pc 26) (some (.aload_n 0, 1, 0, 0, 0, 0, 0, 0)) none))))))
   (cond (Nat.blt pc 44)
    (cond (Nat.blt pc 35)
     (cond (Nat.blt pc 33)
      (cond (Nat.blt pc 30)
       (cond (Nat.beq pc 27) (some (.getfield 15, 3, 5, 3, 0, 488, 0, 0)) none)
       (cond (Nat.beq pc 30) (some (.ifCond .le 13, 3, 43, 0, 0, 0, 0, 0)) none))
      (cond (Nat.blt pc 34)
       (cond (Nat.beq pc 33) (some (.aload_n 0, 1, 0, 0, 0, 0, 0, 0)) none)
       (cond (Nat.beq pc 34) (some (.dup, 1, 0, 0, 0, 0, 0, 0)) none)))
     (cond (Nat.blt pc 39)
      (cond (Nat.blt pc 38)
       (cond (Nat.beq pc 35) (some (.getfield 15, 3, 5, 3, 0, 488, 0, 0)) none)
       (cond (Nat.beq pc 38) (some (.iconst 1, 1, 0, 0, 0, 0, 1, 0)) none))
      (cond (Nat.blt pc 40)
       (cond (Nat.beq pc 39) (some (.isub, 1, 0, 0, 0, 0, 0, 0)) none)
       (cond (Nat.blt pc 43)
        (cond (Nat.beq pc 40) (some (.putfield 15, 3, 5, 3, 0, 488, 0, 0)) none)
        (cond (Nat.beq pc 43) (some (.aload_n 0, 1, 0, 0, 0, 0, 0, 0)) none)))))
    (cond (Nat.blt pc 50)
     (cond (Nat.blt pc 48)
      (cond (Nat.blt pc 45)
       (cond (Nat.beq pc 44) (some (.dup, 1, 0, 0, 0, 0, 0, 0)) none)
       (cond (Nat.beq pc 45) (some (.getfield 19, 3, 5, 0, 0, 478, 0, 0)) none))
      (cond (Nat.blt pc 49)
       (cond (Nat.beq pc 48) (some (.iconst 1, 1, 0, 0, 0, 0, 1, 0)) none)
       (cond (Nat.beq pc 49) (some (.iadd, 1, 0, 0, 0, 0, 0, 0)) none)))
     (cond (Nat.blt pc 56)
      (cond (Nat.blt pc 53)
       (cond (Nat.beq pc 50) (some (.putfield 19, 3, 5, 0, 0, 478, 0, 0)) none)
       (cond (Nat.beq pc 53) (some (.iinc 2 1, 3, 0, 0, 0, 0, 1, 0)) none))
      (cond (Nat.blt pc 59)
       (cond (Nat.beq pc 56) (some (.goto (-54), 3, 2, 0, 0, 0, 0, 0)) none)
       (cond (Nat.blt pc 60)
        (cond (Nat.beq pc 59) (some (.iconst 1, 1, 0, 0, 0, 0, 1, 0)) none)
        (cond (Nat.beq pc 60) (some (.ireturn, 1, 0, 0, 1, 0, 0, 0)) none))))))) none
-- PrintHouse$Job.setDefaults ()V
def zc16 (pc : Nat) : Option z_I := cond (Nat.blt pc 42)
  (cond (Nat.blt pc 21)
   (cond (Nat.blt pc 10)
    (cond (Nat.blt pc 5)
     (cond (Nat.blt pc 1)
      (cond (Nat.beq pc 0) (some (.aload_n 0, 1, 0, 0, 0, 0, 0, 0)) none)
      (cond (Nat.blt pc 2)
       (cond (Nat.beq pc 1) (some (.iconst 3, 1, 0, 0, 0, 0, 3, 0)) none)
       (cond (Nat.beq pc 2) (some (.putfield 19, 3, 3, 2, 0, 378, 0, 0)) none)))
     (cond (Nat.blt pc 6)
      (cond (Nat.beq pc 5) (some (.aload_n 0, 1, 0, 0, 0, 0, 0, 0)) none)
      (cond (Nat.blt pc 7)
       (cond (Nat.beq pc 6) (some (.iconst 1, 1, 0, 0, 0, 0, 1, 0)) none)
       (cond (Nat.beq pc 7) (some (.putfield 22, 3, 3, 3, 0, 384, 0, 0)) none))))
    (cond (Nat.blt pc 16)
     (cond (Nat.blt pc 11)
      (cond (Nat.beq pc 10) (some (.aload_n 0, 1, 0, 0, 0, 0, 0, 0)) none)
      (cond (Nat.blt pc 13)
       (cond (Nat.beq pc 11) (some (.bipush 50, 2, 0, 0, 0, 0, 50, 0)) none)
       (cond (Nat.beq pc 13) (some (.putfield 25, 3, 3, 4, 0, 388, 0, 0)) none)))
     (cond (Nat.blt pc 17)
      (cond (Nat.beq pc 16) (some (.aload_n 0, 1, 0, 0, 0, 0, 0, 0)) none)
      (cond (Nat.blt pc 18)
       (cond (Nat.beq pc 17) (some (.iconst 1, 1, 0, 0, 0, 0, 1, 0)) none)
       (cond (Nat.beq pc 18) (some (.putfield 15, 3, 3, 5, 0, 394, 0, 0)) none)))))
   (cond (Nat.blt pc 31)
    (cond (Nat.blt pc 26)
     (cond (Nat.blt pc 22)
      (cond (Nat.beq pc 21) (some (.aload_n 0, 1, 0, 0, 0, 0, 0, 0)) none)
      (cond (Nat.blt pc 23)
       (cond (Nat.beq pc 22) (some (.iconst 0, 1, 0, 0, 0, 0, 0, 0)) none)
       (cond (Nat.beq pc 23) (some (.putfield 28, 3, 3, 6, 0, 400, 0, 0)) none)))
     (cond (Nat.blt pc 27)
      (cond (Nat.beq pc 26) (some (.aload_n 0, 1, 0, 0, 0, 0, 0, 0)) none)
      (cond (Nat.blt pc 28)
       (cond (Nat.beq pc 27) (some (.iconst 0, 1, 0, 0, 0, 0, 0, 0)) none)
       (cond (Nat.beq pc 28) (some (.putfield 31, 3, 3, 7, 0, 404, 0, 0)) none))))
    (cond (Nat.blt pc 36)
     (cond (Nat.blt pc 32)
      (cond (Nat.beq pc 31) (some (.aload_n 0, 1, 0, 0, 0, 0, 0, 0)) none)
      (cond (Nat.blt pc 33)
       (cond (Nat.beq pc 32) (some (.iconst 0, 1, 0, 0, 0, 0, 0, 0)) none)
       (cond (Nat.beq pc 33) (some (.putfield 34, 3, 3, 8, 0, 410, 0, 0)) none)))
     (cond (Nat.blt pc 38)
      (cond (Nat.blt pc 37)
       (cond (Nat.beq pc 36) (some (.aload_n 0, 1, 0, 0, 0, 0, 0, 0)) none)
       (cond (Nat.beq pc 37) (some (.iconst 0, 1, 0, 0, 0, 0, 0, 0)) none))
      (cond (Nat.blt pc 41)
       (cond (Nat.beq pc 38) (some (.putfield 37, 3, 3, 9, 0, 416, 0, 0)) none)
       (cond (Nat.beq pc 41) (some (.return_, 1, 0, 0, 0, 0, 0, 0)) none)))))) none
-- PrintHouse$Job.copyFrom (LPrintHouse$Job;)V
def zc17 (pc : Nat) : Option z_I := cond (Nat.blt pc 83)
  (cond (Nat.blt pc 41)
   (cond (Nat.blt pc 18)
    (cond (Nat.blt pc 9)
     (cond (Nat.blt pc 2)
      (cond (Nat.blt pc 1)
       (cond (Nat.beq pc 0) (some (.aload_n 0, 1, 0, 0, 0, 0, 0, 0)) none)
       (cond (Nat.beq pc 1) (some (.aload_n 1, 1, 0, 0, 0, 0, 0, 0)) none))
      (cond (Nat.blt pc 5)
       (cond (Nat.beq pc 2) (some (.getfield 19, 3, 3, 2, 0, 378, 0, 0)) none)
       (cond (Nat.blt pc 8)
        (cond (Nat.beq pc 5) (some (.putfield 19, 3, 3, 2, 0, 378, 0, 0)) none)
        (cond (Nat.beq pc 8) (some (.aload_n 0, 1, 0, 0, 0, 0, 0, 0)) none))))
     (cond (Nat.blt pc 13)
      (cond (Nat.blt pc 10)
       (cond (Nat.beq pc 9) (some (.aload_n 1, 1, 0, 0, 0, 0, 0, 0)) none)
       (cond (Nat.beq pc 10) (some (.getfield 22, 3, 3, 3, 0, 384, 0, 0)) none))
      (cond (Nat.blt pc 16)
       (cond (Nat.beq pc 13) (some (.putfield 22, 3, 3, 3, 0, 384, 0, 0)) none)
       (cond (Nat.blt pc 17)
        (cond (Nat.beq pc 16) (some (.aload_n 0, 1, 0, 0, 0, 0, 0, 0)) none)
        (cond (Nat.beq pc 17) (some (.aload_n 1, 1, 0, 0, 0, 0, 0, 0)) none)))))
    (cond (Nat.blt pc 29)
     (cond (Nat.blt pc 24)
      (cond (Nat.blt pc 21)
       (cond (Nat.beq pc 18) (some (.getfield 25, 3, 3, 4, 0, 388, 0, 0)) none)
       (cond (Nat.beq pc 21) (some (.putfield 25, 3, 3, 4, 0, 388, 0, 0)) none))
      (cond (Nat.blt pc 25)
       (cond (Nat.beq pc 24) (some (.aload_n 0, 1, 0, 0, 0, 0, 0, 0)) none)
       (cond (Nat.blt pc 26)
        (cond (Nat.beq pc 25) (some (.aload_n 1, 1, 0, 0, 0, 0, 0, 0)) none)
        (cond (Nat.beq pc 26) (some (.getfield 15, 3, 3, 5, 0, 394, 0, 0)) none))))
     (cond (Nat.blt pc 34)
      (cond (Nat.blt pc 32)
       (cond (Nat.beq pc 29) (some (.putfield 15, 3, 3, 5, 0, 394, 0, 0)) none)
       (cond (Nat.blt pc 33)
        (cond (Nat.beq pc 32) (some (.aload_n 0, 1, 0, 0, 0, 0, 0, 0)) none)
        (cond (Nat.beq pc 33) (some (.aload_n 1, 1, 0, 0, 0, 0, 0, 0)) none)))
      (cond (Nat.blt pc 37)
       (cond (Nat.beq pc 34) (some (.getfield 28, 3, 3, 6, 0, 400, 0, 0)) none)
       (cond (Nat.blt pc 40)
        (cond (Nat.beq pc 37) (some (.putfield 28, 3, 3, 6, 0, 400, 0, 0)) none)
        (cond (Nat.beq pc 40) (some (.aload_n 0, 1, 0, 0, 0, 0, 0, 0)) none))))))
   (cond (Nat.blt pc 64)
    (cond (Nat.blt pc 50)
     (cond (Nat.blt pc 45)
      (cond (Nat.blt pc 42)
       (cond (Nat.beq pc 41) (some (.aload_n 1, 1, 0, 0, 0, 0, 0, 0)) none)
       (cond (Nat.beq pc 42) (some (.getfield 31, 3, 3, 7, 0, 404, 0, 0)) none))
      (cond (Nat.blt pc 48)
       (cond (Nat.beq pc 45) (some (.putfield 31, 3, 3, 7, 0, 404, 0, 0)) none)
       (cond (Nat.blt pc 49)
        (cond (Nat.beq pc 48) (some (.aload_n 0, 1, 0, 0, 0, 0, 0, 0)) none)
        (cond (Nat.beq pc 49) (some (.aload_n 1, 1, 0, 0, 0, 0, 0, 0)) none))))
     (cond (Nat.blt pc 57)
      (cond (Nat.blt pc 53)
       (cond (Nat.beq pc 50) (some (.getfield 34, 3, 3, 8, 0, 410, 0, 0)) none)
       (cond (Nat.blt pc 56)
        (cond (Nat.beq pc 53) (some (.putfield 34, 3, 3, 8, 0, 410, 0, 0)) none)
        (cond (Nat.beq pc 56) (some (.aload_n 0, 1, 0, 0, 0, 0, 0, 0)) none)))
      (cond (Nat.blt pc 58)
       (cond (Nat.beq pc 57) (some (.aload_n 1, 1, 0, 0, 0, 0, 0, 0)) none)
       (cond (Nat.blt pc 61)
        (cond (Nat.beq pc 58) (some (.getfield 37, 3, 3, 9, 0, 416, 0, 0)) none)
        (cond (Nat.beq pc 61) (some (.putfield 37, 3, 3, 9, 0, 416, 0, 0)) none)))))
    (cond (Nat.blt pc 73)
     (cond (Nat.blt pc 68)
      (cond (Nat.blt pc 65)
       (cond (Nat.beq pc 64) (some (.aload_n 1, 1, 0, 0, 0, 0, 0, 0)) none)
       (cond (Nat.beq pc 65) (some (.getfield 9, 3, 3, 0, 2, 368, 0, 0)) none))
      (cond (Nat.blt pc 69)
       (cond (Nat.beq pc 68) (some (.iconst 0, 1, 0, 0, 0, 0, 0, 0)) none)
       (cond (Nat.blt pc 70)
        (cond (Nat.beq pc 69) (some (.aload_n 0, 1, 0, 0, 0, 0, 0, 0)) none)
        (cond (Nat.beq pc 70) (some (.getfield 9, 3, 3, 0, 2, 368, 0, 0)) none))))
     (cond (Nat.blt pc 78)
      (cond (Nat.blt pc 74)
       (cond (Nat.beq pc 73) (some (.iconst 0, 1, 0, 0, 0, 0, 0, 0)) none)
       (cond (Nat.blt pc 75)
        (cond (Nat.beq pc 74) (some (.aload_n 0, 1, 0, 0, 0, 0, 0, 0)) none)
        (cond (Nat.beq pc 75) (some (.getfield 9, 3, 3, 0, 2, 368, 0, 0)) none)))
      (cond (Nat.blt pc 79)
       (cond (Nat.beq pc 78) (some (.arraylength, 1, 0, 0, 0, 0, 0, 0)) none)
       (cond (Nat.blt pc 82)
        (cond (Nat.beq pc 79) (some (.invokestatic 40, 3, 0, 0, 1, 660, 0, 0)) none)
        (cond (Nat.beq pc 82) (some (.return_, 1, 0, 0, 0, 0, 0, 0)) none))))))) none
-- PrintHouse$Job.set (IJJ)Z
def zc18 (pc : Nat) : Option z_I := cond (Nat.blt pc 69)
  (cond (Nat.blt pc 45)
   (cond (Nat.blt pc 33)
    (cond (Nat.blt pc 29)
     (cond (Nat.blt pc 1)
      (cond (Nat.beq pc 0) (some (.iload_n 1, 1, 0, 0, 0, 0, 0, 0)) none)
      (cond (Nat.blt pc 28)
       (cond (Nat.beq pc 1) (some (.lookupswitch 45 #[(33, 27), (34, 36)], 27, 0, 0, 0, 0, 0, 0)) none)
       (cond (Nat.beq pc 28) (some (.aload_n 0, 1, 0, 0, 0, 0, 0, 0)) none)))
     (cond (Nat.blt pc 30)
      (cond (Nat.beq pc 29) (some (.lload_n 2, 1, 0, 0, 0, 0, 0, 0)) none)
      (cond (Nat.blt pc 32)
       (cond (Nat.beq pc 30) (some (.lload 4, 2, 0, 0, 0, 0, 0, 0)) none)
       (cond (Nat.beq pc 32) (some (.l2i, 1, 0, 0, 0, 0, 0, 0)) none))))
    (cond (Nat.blt pc 38)
     (cond (Nat.blt pc 36)
      (cond (Nat.beq pc 33) (some (.invokevirtual 46, 3, 19, 0, 0, 1086, 0, 0)) none)
      (cond (Nat.blt pc 37)
       (cond (Nat.beq pc 36) (some (.ireturn, 1, 0, 0, 1, 0, 0, 0)) none)
       (cond (Nat.beq pc 37) (some (.aload_n 0, 1, 0, 0, 0, 0, 0, 0)) none)))
     (cond (Nat.blt pc 41)
      (cond (Nat.blt pc 39)
       (cond (Nat.beq pc 38) (some (.lload_n 2, 1, 0, 0, 0, 0, 0, 0)) none)
       (cond (Nat.beq pc 39) (some (.lload 4, 2, 0, 0, 0, 0, 0, 0)) none))
      (cond (Nat.blt pc 42)
       (cond (Nat.beq pc 41) (some (.l2i, 1, 0, 0, 0, 0, 0, 0)) none)
       (cond (Nat.beq pc 42) (some (.invokevirtual 50, 3, 20, 0, 0, 1100, 0, 0)) none)))))
   (cond (Nat.blt pc 55)
    (cond (Nat.blt pc 50)
     (cond (Nat.blt pc 46)
      (cond (Nat.beq pc 45) (some (.ireturn, 1, 0, 0, 1, 0, 0, 0)) none)
      (cond (Nat.blt pc 47)
       (cond (Nat.beq pc 46) (some (.lload_n 2, 1, 0, 0, 0, 0, 0, 0)) none)
       (cond (Nat.beq pc 47) (some (.ldc2_w 53, 3, 0, 0, 0, 556, 0, 495689426291)) none)))
     (cond (Nat.blt pc 51)
      (cond (Nat.beq pc 50) (some (.lcmp, 1, 0, 0, 0, 0, 0, 0)) none)
      (cond (Nat.blt pc 54)
       (cond (Nat.beq pc 51) (some (.ifCond .ne 16, 3, 67, 0, 0, 0, 0, 0)) none)
       (cond (Nat.beq pc 54) (some (.aload_n 0, 1, 0, 0, 0, 0, 0, 0)) none))))
    (cond (Nat.blt pc 63)
     (cond (Nat.blt pc 57)
      (cond (Nat.beq pc 55) (some (.lload 4, 2, 0, 0, 0, 0, 0, 0)) none)
      (cond (Nat.blt pc 60)
       (cond (Nat.beq pc 57) (some (.invokevirtual 55, 3, 21, 0, 0, 1114, 0, 0)) none)
       (cond (Nat.beq pc 60) (some (.ifCond .eq 7, 3, 67, 0, 0, 0, 0, 0)) none)))
     (cond (Nat.blt pc 67)
      (cond (Nat.blt pc 64)
       (cond (Nat.beq pc 63) (some (.iconst 1, 1, 0, 0, 0, 0, 1, 0)) none)
       (cond (Nat.beq pc 64) (some (.goto 4, 3, 68, 0, 0, 0, 0, 0)) none))
      (cond (Nat.blt pc 68)
       (cond (Nat.beq pc 67) (some (.iconst 0, 1, 0, 0, 0, 0, 0, 0)) none)
       (cond (Nat.beq pc 68) (some (.ireturn, 1, 0, 0, 1, 0, 0, 0)) none)))))) none
-- PrintHouse$Job.setInteger (JI)Z
def zc19 (pc : Nat) : Option z_I := cond (Nat.blt pc 95)
  (cond (Nat.blt pc 48)
   (cond (Nat.blt pc 24)
    (cond (Nat.blt pc 13)
     (cond (Nat.blt pc 5)
      (cond (Nat.blt pc 1)
       (cond (Nat.beq pc 0) (some (.lload_n 1, 1, 0, 0, 0, 0, 0, 0)) none)
       (cond (Nat.blt pc 4)
        (cond (Nat.beq pc 1) (some (.ldc2_w 59, 3, 0, 0, 0, 547, 0, 109330278475123)) none)
        (cond (Nat.beq pc 4) (some (.lcmp, 1, 0, 0, 0, 0, 0, 0)) none)))
      (cond (Nat.blt pc 9)
       (cond (Nat.blt pc 8)
        (cond (Nat.beq pc 5) (some (.ifCond .ne 24, 3, 29, 0, 0, 0, 0, 0)) none)
        (cond (Nat.beq pc 8) (some (.aload_n 0, 1, 0, 0, 0, 0, 0, 0)) none))
       (cond (Nat.blt pc 10)
        (cond (Nat.beq pc 9) (some (.iload_n 3, 1, 0, 0, 0, 0, 0, 0)) none)
        (cond (Nat.beq pc 10) (some (.putfield 22, 3, 3, 3, 0, 384, 0, 0)) none))))
     (cond (Nat.blt pc 18)
      (cond (Nat.blt pc 14)
       (cond (Nat.beq pc 13) (some (.iload_n 3, 1, 0, 0, 0, 0, 0, 0)) none)
       (cond (Nat.blt pc 15)
        (cond (Nat.beq pc 14) (some (.iconst 1, 1, 0, 0, 0, 0, 1, 0)) none)
        (cond (Nat.beq pc 15) (some (.if_icmp .lt 12, 3, 27, 0, 0, 0, 0, 0)) none)))
      (cond (Nat.blt pc 20)
       (cond (Nat.blt pc 19)
        (cond (Nat.beq pc 18) (some (.iload_n 3, 1, 0, 0, 0, 0, 0, 0)) none)
        (cond (Nat.beq pc 19) (some (.iconst 3, 1, 0, 0, 0, 0, 3, 0)) none))
       (cond (Nat.blt pc 23)
        (cond (Nat.beq pc 20) (some (.if_icmp .gt 7, 3, 27, 0, 0, 0, 0, 0)) none)
        (cond (Nat.beq pc 23) (some (.iconst 1, 1, 0, 0, 0, 0, 1, 0)) none)))))
    (cond (Nat.blt pc 37)
     (cond (Nat.blt pc 29)
      (cond (Nat.blt pc 27)
       (cond (Nat.beq pc 24) (some (.goto 4, 3, 28, 0, 0, 0, 0, 0)) none)
       (cond (Nat.blt pc 28)
        (cond (Nat.beq pc 27) (some (.iconst 0, 1, 0, 0, 0, 0, 0, 0)) none)
        (cond (Nat.beq pc 28) (some (.ireturn, 1, 0, 0, 1, 0, 0, 0)) none)))
      (cond (Nat.blt pc 33)
       (cond (Nat.blt pc 30)
        (cond (Nat.beq pc 29) (some (.lload_n 1, 1, 0, 0, 0, 0, 0, 0)) none)
        (cond (Nat.beq pc 30) (some (.ldc2_w 61, 3, 0, 0, 0, 548, 0, 8102654606974743673)) none))
       (cond (Nat.blt pc 34)
        (cond (Nat.beq pc 33) (some (.lcmp, 1, 0, 0, 0, 0, 0, 0)) none)
        (cond (Nat.beq pc 34) (some (.ifCond .ne 25, 3, 59, 0, 0, 0, 0, 0)) none))))
     (cond (Nat.blt pc 42)
      (cond (Nat.blt pc 38)
       (cond (Nat.beq pc 37) (some (.aload_n 0, 1, 0, 0, 0, 0, 0, 0)) none)
       (cond (Nat.blt pc 39)
        (cond (Nat.beq pc 38) (some (.iload_n 3, 1, 0, 0, 0, 0, 0, 0)) none)
        (cond (Nat.beq pc 39) (some (.putfield 25, 3, 3, 4, 0, 388, 0, 0)) none)))
      (cond (Nat.blt pc 44)
       (cond (Nat.blt pc 43)
        (cond (Nat.beq pc 42) (some (.iload_n 3, 1, 0, 0, 0, 0, 0, 0)) none)
        (cond (Nat.beq pc 43) (some (.iconst 1, 1, 0, 0, 0, 0, 1, 0)) none))
       (cond (Nat.blt pc 47)
        (cond (Nat.beq pc 44) (some (.if_icmp .lt 13, 3, 57, 0, 0, 0, 0, 0)) none)
        (cond (Nat.beq pc 47) (some (.iload_n 3, 1, 0, 0, 0, 0, 0, 0)) none))))))
   (cond (Nat.blt pc 73)
    (cond (Nat.blt pc 60)
     (cond (Nat.blt pc 54)
      (cond (Nat.blt pc 50)
       (cond (Nat.beq pc 48) (some (.bipush 100, 2, 0, 0, 0, 0, 100, 0)) none)
       (cond (Nat.blt pc 53)
        (cond (Nat.beq pc 50) (some (.if_icmp .gt 7, 3, 57, 0, 0, 0, 0, 0)) none)
        (cond (Nat.beq pc 53) (some (.iconst 1, 1, 0, 0, 0, 0, 1, 0)) none)))
      (cond (Nat.blt pc 58)
       (cond (Nat.blt pc 57)
        (cond (Nat.beq pc 54) (some (.goto 4, 3, 58, 0, 0, 0, 0, 0)) none)
        (cond (Nat.beq pc 57) (some (.iconst 0, 1, 0, 0, 0, 0, 0, 0)) none))
       (cond (Nat.blt pc 59)
        (cond (Nat.beq pc 58) (some (.ireturn, 1, 0, 0, 1, 0, 0, 0)) none)
        (cond (Nat.beq pc 59) (some (.lload_n 1, 1, 0, 0, 0, 0, 0, 0)) none))))
     (cond (Nat.blt pc 67)
      (cond (Nat.blt pc 63)
       (cond (Nat.beq pc 60) (some (.ldc2_w 63, 3, 0, 0, 0, 549, 0, 30064)) none)
       (cond (Nat.blt pc 64)
        (cond (Nat.beq pc 63) (some (.lcmp, 1, 0, 0, 0, 0, 0, 0)) none)
        (cond (Nat.beq pc 64) (some (.ifCond .ne 29, 3, 93, 0, 0, 0, 0, 0)) none)))
      (cond (Nat.blt pc 69)
       (cond (Nat.blt pc 68)
        (cond (Nat.beq pc 67) (some (.aload_n 0, 1, 0, 0, 0, 0, 0, 0)) none)
        (cond (Nat.beq pc 68) (some (.iload_n 3, 1, 0, 0, 0, 0, 0, 0)) none))
       (cond (Nat.blt pc 72)
        (cond (Nat.beq pc 69) (some (.putfield 15, 3, 3, 5, 0, 394, 0, 0)) none)
        (cond (Nat.beq pc 72) (some (.iload_n 3, 1, 0, 0, 0, 0, 0, 0)) none)))))
    (cond (Nat.blt pc 84)
     (cond (Nat.blt pc 78)
      (cond (Nat.blt pc 74)
       (cond (Nat.beq pc 73) (some (.iconst 1, 1, 0, 0, 0, 0, 1, 0)) none)
       (cond (Nat.blt pc 77)
        (cond (Nat.beq pc 74) (some (.if_icmp .eq 13, 3, 87, 0, 0, 0, 0, 0)) none)
        (cond (Nat.beq pc 77) (some (.iload_n 3, 1, 0, 0, 0, 0, 0, 0)) none)))
      (cond (Nat.blt pc 82)
       (cond (Nat.blt pc 79)
        (cond (Nat.beq pc 78) (some (.iconst 2, 1, 0, 0, 0, 0, 2, 0)) none)
        (cond (Nat.beq pc 79) (some (.if_icmp .eq 8, 3, 87, 0, 0, 0, 0, 0)) none))
       (cond (Nat.blt pc 83)
        (cond (Nat.beq pc 82) (some (.iload_n 3, 1, 0, 0, 0, 0, 0, 0)) none)
        (cond (Nat.beq pc 83) (some (.iconst 4, 1, 0, 0, 0, 0, 4, 0)) none))))
     (cond (Nat.blt pc 91)
      (cond (Nat.blt pc 87)
       (cond (Nat.beq pc 84) (some (.if_icmp .ne 7, 3, 91, 0, 0, 0, 0, 0)) none)
       (cond (Nat.blt pc 88)
        (cond (Nat.beq pc 87) (some (.iconst 1, 1, 0, 0, 0, 0, 1, 0)) none)
        (cond (Nat.beq pc 88) (some (.goto 4, 3, 92, 0, 0, 0, 0, 0)) none)))
      (cond (Nat.blt pc 93)
       (cond (Nat.blt pc 92)
        (cond (Nat.beq pc 91) (some (.iconst 0, 1, 0, 0, 0, 0, 0, 0)) none)
        (cond (Nat.beq pc 92) (some (.ireturn, 1, 0, 0, 1, 0, 0, 0)) none))
       (cond (Nat.blt pc 94)
        (cond (Nat.beq pc 93) (some (.iconst 0, 1, 0, 0, 0, 0, 0, 0)) none)
        (cond (Nat.beq pc 94) (some (.ireturn, 1, 0, 0, 1, 0, 0, 0)) none))))))) none
-- PrintHouse$Job.setBoolean (JI)Z
def zc20 (pc : Nat) : Option z_I := cond (Nat.blt pc 41)
  (cond (Nat.blt pc 22)
   (cond (Nat.blt pc 10)
    (cond (Nat.blt pc 5)
     (cond (Nat.blt pc 1)
      (cond (Nat.beq pc 0) (some (.lload_n 1, 1, 0, 0, 0, 0, 0, 0)) none)
      (cond (Nat.blt pc 4)
       (cond (Nat.beq pc 1) (some (.ldc2_w 65, 3, 0, 0, 0, 554, 0, 1752132708)) none)
       (cond (Nat.beq pc 4) (some (.lcmp, 1, 0, 0, 0, 0, 0, 0)) none)))
     (cond (Nat.blt pc 8)
      (cond (Nat.beq pc 5) (some (.ifCond .ne 19, 3, 24, 0, 0, 0, 0, 0)) none)
      (cond (Nat.blt pc 9)
       (cond (Nat.beq pc 8) (some (.aload_n 0, 1, 0, 0, 0, 0, 0, 0)) none)
       (cond (Nat.beq pc 9) (some (.iload_n 3, 1, 0, 0, 0, 0, 0, 0)) none))))
    (cond (Nat.blt pc 15)
     (cond (Nat.blt pc 11)
      (cond (Nat.beq pc 10) (some (.iconst 1, 1, 0, 0, 0, 0, 1, 0)) none)
      (cond (Nat.blt pc 14)
       (cond (Nat.beq pc 11) (some (.if_icmp .ne 7, 3, 18, 0, 0, 0, 0, 0)) none)
       (cond (Nat.beq pc 14) (some (.iconst 4, 1, 0, 0, 0, 0, 4, 0)) none)))
     (cond (Nat.blt pc 18)
      (cond (Nat.beq pc 15) (some (.goto 4, 3, 19, 0, 0, 0, 0, 0)) none)
      (cond (Nat.blt pc 19)
       (cond (Nat.beq pc 18) (some (.iconst 3, 1, 0, 0, 0, 0, 3, 0)) none)
       (cond (Nat.beq pc 19) (some (.putfield 19, 3, 3, 2, 0, 378, 0, 0)) none)))))
   (cond (Nat.blt pc 32)
    (cond (Nat.blt pc 25)
     (cond (Nat.blt pc 23)
      (cond (Nat.beq pc 22) (some (.iconst 1, 1, 0, 0, 0, 0, 1, 0)) none)
      (cond (Nat.blt pc 24)
       (cond (Nat.beq pc 23) (some (.ireturn, 1, 0, 0, 1, 0, 0, 0)) none)
       (cond (Nat.beq pc 24) (some (.lload_n 1, 1, 0, 0, 0, 0, 0, 0)) none)))
     (cond (Nat.blt pc 28)
      (cond (Nat.beq pc 25) (some (.ldc2_w 67, 3, 0, 0, 0, 555, 0, 27707072051963252)) none)
      (cond (Nat.blt pc 29)
       (cond (Nat.beq pc 28) (some (.lcmp, 1, 0, 0, 0, 0, 0, 0)) none)
       (cond (Nat.beq pc 29) (some (.ifCond .ne 10, 3, 39, 0, 0, 0, 0, 0)) none))))
    (cond (Nat.blt pc 37)
     (cond (Nat.blt pc 33)
      (cond (Nat.beq pc 32) (some (.aload_n 0, 1, 0, 0, 0, 0, 0, 0)) none)
      (cond (Nat.blt pc 34)
       (cond (Nat.beq pc 33) (some (.iload_n 3, 1, 0, 0, 0, 0, 0, 0)) none)
       (cond (Nat.beq pc 34) (some (.putfield 31, 3, 3, 7, 0, 404, 0, 0)) none)))
     (cond (Nat.blt pc 39)
      (cond (Nat.blt pc 38)
       (cond (Nat.beq pc 37) (some (.iconst 1, 1, 0, 0, 0, 0, 1, 0)) none)
       (cond (Nat.beq pc 38) (some (.ireturn, 1, 0, 0, 1, 0, 0, 0)) none))
      (cond (Nat.blt pc 40)
       (cond (Nat.beq pc 39) (some (.iconst 0, 1, 0, 0, 0, 0, 0, 0)) none)
       (cond (Nat.beq pc 40) (some (.ireturn, 1, 0, 0, 1, 0, 0, 0)) none)))))) none
-- PrintHouse$Job.setSides (J)Z
def zc21 (pc : Nat) : Option z_I := cond (Nat.blt pc 67)
  (cond (Nat.blt pc 33)
   (cond (Nat.blt pc 16)
    (cond (Nat.blt pc 8)
     (cond (Nat.blt pc 4)
      (cond (Nat.blt pc 1)
       (cond (Nat.beq pc 0) (some (.lload_n 1, 1, 0, 0, 0, 0, 0, 0)) none)
       (cond (Nat.beq pc 1) (some (.ldc2_w 69, 3, 0, 0, 0, 561, 0, 7302757)) none))
      (cond (Nat.blt pc 5)
       (cond (Nat.beq pc 4) (some (.lcmp, 1, 0, 0, 0, 0, 0, 0)) none)
       (cond (Nat.beq pc 5) (some (.ifCond .ne 11, 3, 16, 0, 0, 0, 0, 0)) none)))
     (cond (Nat.blt pc 10)
      (cond (Nat.blt pc 9)
       (cond (Nat.beq pc 8) (some (.aload_n 0, 1, 0, 0, 0, 0, 0, 0)) none)
       (cond (Nat.beq pc 9) (some (.iconst 0, 1, 0, 0, 0, 0, 0, 0)) none))
      (cond (Nat.blt pc 13)
       (cond (Nat.beq pc 10) (some (.putfield 28, 3, 3, 6, 0, 400, 0, 0)) none)
       (cond (Nat.beq pc 13) (some (.goto 24, 3, 37, 0, 0, 0, 0, 0)) none))))
    (cond (Nat.blt pc 24)
     (cond (Nat.blt pc 20)
      (cond (Nat.blt pc 17)
       (cond (Nat.beq pc 16) (some (.lload_n 1, 1, 0, 0, 0, 0, 0, 0)) none)
       (cond (Nat.beq pc 17) (some (.ldc2_w 71, 3, 0, 0, 0, 562, 0, 1819242087)) none))
      (cond (Nat.blt pc 21)
       (cond (Nat.beq pc 20) (some (.lcmp, 1, 0, 0, 0, 0, 0, 0)) none)
       (cond (Nat.beq pc 21) (some (.ifCond .ne 11, 3, 32, 0, 0, 0, 0, 0)) none)))
     (cond (Nat.blt pc 26)
      (cond (Nat.blt pc 25)
       (cond (Nat.beq pc 24) (some (.aload_n 0, 1, 0, 0, 0, 0, 0, 0)) none)
       (cond (Nat.beq pc 25) (some (.iconst 1, 1, 0, 0, 0, 0, 1, 0)) none))
      (cond (Nat.blt pc 29)
       (cond (Nat.beq pc 26) (some (.putfield 28, 3, 3, 6, 0, 400, 0, 0)) none)
       (cond (Nat.blt pc 32)
        (cond (Nat.beq pc 29) (some (.goto 8, 3, 37, 0, 0, 0, 0, 0)) none)
        (cond (Nat.beq pc 32) (some (.aload_n 0, 1, 0, 0, 0, 0, 0, 0)) none))))))
   (cond (Nat.blt pc 50)
    (cond (Nat.blt pc 41)
     (cond (Nat.blt pc 37)
      (cond (Nat.blt pc 34)
       (cond (Nat.beq pc 33) (some (.iconst 2, 1, 0, 0, 0, 0, 2, 0)) none)
       (cond (Nat.beq pc 34) (some (.putfield 28, 3, 3, 6, 0, 400, 0, 0)) none))
      (cond (Nat.blt pc 38)
       (cond (Nat.beq pc 37) (some (.lload_n 1, 1, 0, 0, 0, 0, 0, 0)) none)
       (cond (Nat.beq pc 38) (some (.ldc2_w 69, 3, 0, 0, 0, 561, 0, 7302757)) none)))
     (cond (Nat.blt pc 45)
      (cond (Nat.blt pc 42)
       (cond (Nat.beq pc 41) (some (.lcmp, 1, 0, 0, 0, 0, 0, 0)) none)
       (cond (Nat.beq pc 42) (some (.ifCond .eq 19, 3, 61, 0, 0, 0, 0, 0)) none))
      (cond (Nat.blt pc 46)
       (cond (Nat.beq pc 45) (some (.lload_n 1, 1, 0, 0, 0, 0, 0, 0)) none)
       (cond (Nat.blt pc 49)
        (cond (Nat.beq pc 46) (some (.ldc2_w 71, 3, 0, 0, 0, 562, 0, 1819242087)) none)
        (cond (Nat.beq pc 49) (some (.lcmp, 1, 0, 0, 0, 0, 0, 0)) none)))))
    (cond (Nat.blt pc 58)
     (cond (Nat.blt pc 54)
      (cond (Nat.blt pc 53)
       (cond (Nat.beq pc 50) (some (.ifCond .eq 11, 3, 61, 0, 0, 0, 0, 0)) none)
       (cond (Nat.beq pc 53) (some (.lload_n 1, 1, 0, 0, 0, 0, 0, 0)) none))
      (cond (Nat.blt pc 57)
       (cond (Nat.beq pc 54) (some (.ldc2_w 73, 3, 0, 0, 0, 563, 0, 495673373300)) none)
       (cond (Nat.beq pc 57) (some (.lcmp, 1, 0, 0, 0, 0, 0, 0)) none)))
     (cond (Nat.blt pc 62)
      (cond (Nat.blt pc 61)
       (cond (Nat.beq pc 58) (some (.ifCond .ne 7, 3, 65, 0, 0, 0, 0, 0)) none)
       (cond (Nat.beq pc 61) (some (.iconst 1, 1, 0, 0, 0, 0, 1, 0)) none))
      (cond (Nat.blt pc 65)
       (cond (Nat.beq pc 62) (some (.goto 4, 3, 66, 0, 0, 0, 0, 0)) none)
       (cond (Nat.blt pc 66)
        (cond (Nat.beq pc 65) (some (.iconst 0, 1, 0, 0, 0, 0, 0, 0)) none)
        (cond (Nat.beq pc 66) (some (.ireturn, 1, 0, 0, 1, 0, 0, 0)) none))))))) none
-- PrintHouse$Job.hasEnded ()Z
def zc22 (pc : Nat) : Option z_I := cond (Nat.blt pc 24)
  (cond (Nat.blt pc 13)
   (cond (Nat.blt pc 6)
    (cond (Nat.blt pc 1)
     (cond (Nat.beq pc 0) (some (.aload_n 0, 1, 0, 0, 0, 0, 0, 0)) none)
     (cond (Nat.blt pc 4)
      (cond (Nat.beq pc 1) (some (.getfield 19, 3, 3, 2, 0, 378, 0, 0)) none)
      (cond (Nat.beq pc 4) (some (.bipush 7, 2, 0, 0, 0, 0, 7, 0)) none)))
    (cond (Nat.blt pc 9)
     (cond (Nat.beq pc 6) (some (.if_icmp .eq 12, 3, 18, 0, 0, 0, 0, 0)) none)
     (cond (Nat.blt pc 10)
      (cond (Nat.beq pc 9) (some (.aload_n 0, 1, 0, 0, 0, 0, 0, 0)) none)
      (cond (Nat.beq pc 10) (some (.getfield 19, 3, 3, 2, 0, 378, 0, 0)) none))))
   (cond (Nat.blt pc 19)
    (cond (Nat.blt pc 15)
     (cond (Nat.beq pc 13) (some (.bipush 9, 2, 0, 0, 0, 0, 9, 0)) none)
     (cond (Nat.blt pc 18)
      (cond (Nat.beq pc 15) (some (.if_icmp .ne 7, 3, 22, 0, 0, 0, 0, 0)) none)
      (cond (Nat.beq pc 18) (some (.iconst 1, 1, 0, 0, 0, 0, 1, 0)) none)))
    (cond (Nat.blt pc 22)
     (cond (Nat.beq pc 19) (some (.goto 4, 3, 23, 0, 0, 0, 0, 0)) none)
     (cond (Nat.blt pc 23)
      (cond (Nat.beq pc 22) (some (.iconst 0, 1, 0, 0, 0, 0, 0, 0)) none)
      (cond (Nat.beq pc 23) (some (.ireturn, 1, 0, 0, 1, 0, 0, 0)) none))))) none
-- PrintHouse$Job.blocks ()I
def zc23 (pc : Nat) : Option z_I := cond (Nat.blt pc 7)
  (cond (Nat.blt pc 2)
   (cond (Nat.blt pc 1)
    (cond (Nat.beq pc 0) (some (.iconst 1, 1, 0, 0, 0, 0, 1, 0)) none)
    (cond (Nat.beq pc 1) (some (.aload_n 0, 1, 0, 0, 0, 0, 0, 0)) none))
   (cond (Nat.blt pc 5)
    (cond (Nat.beq pc 2) (some (.getfield 34, 3, 3, 8, 0, 410, 0, 0)) none)
    (cond (Nat.blt pc 6)
     (cond (Nat.beq pc 5) (some (.iadd, 1, 0, 0, 0, 0, 0, 0)) none)
     (cond (Nat.beq pc 6) (some (.ireturn, 1, 0, 0, 0, 0, 0, 0)) none)))) none
-- PrintHouse$Job.hasPage (I)Z
def zc24 (pc : Nat) : Option z_I := cond (Nat.blt pc 24)
  (cond (Nat.blt pc 12)
   (cond (Nat.blt pc 5)
    (cond (Nat.blt pc 1)
     (cond (Nat.beq pc 0) (some (.iload_n 1, 1, 0, 0, 0, 0, 0, 0)) none)
     (cond (Nat.blt pc 4)
      (cond (Nat.beq pc 1) (some (.ifCond .lt 21, 3, 22, 0, 0, 0, 0, 0)) none)
      (cond (Nat.beq pc 4) (some (.iload_n 1, 1, 0, 0, 0, 0, 0, 0)) none)))
    (cond (Nat.blt pc 6)
     (cond (Nat.beq pc 5) (some (.aload_n 0, 1, 0, 0, 0, 0, 0, 0)) none)
     (cond (Nat.blt pc 9)
      (cond (Nat.beq pc 6) (some (.getfield 34, 3, 3, 8, 0, 410, 0, 0)) none)
      (cond (Nat.beq pc 9) (some (.if_icmp .ge 13, 3, 22, 0, 0, 0, 0, 0)) none))))
   (cond (Nat.blt pc 18)
    (cond (Nat.blt pc 13)
     (cond (Nat.beq pc 12) (some (.iload_n 1, 1, 0, 0, 0, 0, 0, 0)) none)
     (cond (Nat.blt pc 15)
      (cond (Nat.beq pc 13) (some (.bipush 6, 2, 0, 0, 0, 0, 6, 0)) none)
      (cond (Nat.beq pc 15) (some (.if_icmp .ge 7, 3, 22, 0, 0, 0, 0, 0)) none)))
    (cond (Nat.blt pc 22)
     (cond (Nat.blt pc 19)
      (cond (Nat.beq pc 18) (some (.iconst 1, 1, 0, 0, 0, 0, 1, 0)) none)
      (cond (Nat.beq pc 19) (some (.goto 4, 3, 23, 0, 0, 0, 0, 0)) none))
     (cond (Nat.blt pc 23)
      (cond (Nat.beq pc 22) (some (.iconst 0, 1, 0, 0, 0, 0, 0, 0)) none)
      (cond (Nat.beq pc 23) (some (.ireturn, 1, 0, 0, 1, 0, 0, 0)) none))))) none
-- PrintHouse$Job.pixelAt (III)I
def zc25 (pc : Nat) : Option z_I := cond (Nat.blt pc 28)
  (cond (Nat.blt pc 16)
   (cond (Nat.blt pc 8)
    (cond (Nat.blt pc 2)
     (cond (Nat.blt pc 1)
      (cond (Nat.beq pc 0) (some (.aload_n 0, 1, 0, 0, 0, 0, 0, 0)) none)
      (cond (Nat.beq pc 1) (some (.iload_n 1, 1, 0, 0, 0, 0, 0, 0)) none))
     (cond (Nat.blt pc 5)
      (cond (Nat.beq pc 2) (some (.invokevirtual 75, 3, 24, 0, 0, 1562, 0, 0)) none)
      (cond (Nat.beq pc 5) (some (.ifCond .eq 21, 3, 26, 0, 0, 0, 0, 0)) none)))
    (cond (Nat.blt pc 12)
     (cond (Nat.blt pc 9)
      (cond (Nat.beq pc 8) (some (.aload_n 0, 1, 0, 0, 0, 0, 0, 0)) none)
      (cond (Nat.beq pc 9) (some (.getfield 9, 3, 3, 0, 2, 368, 0, 0)) none))
     (cond (Nat.blt pc 13)
      (cond (Nat.beq pc 12) (some (.iload_n 1, 1, 0, 0, 0, 0, 0, 0)) none)
      (cond (Nat.blt pc 15)
       (cond (Nat.beq pc 13) (some (.bipush 12, 2, 0, 0, 0, 0, 12, 0)) none)
       (cond (Nat.beq pc 15) (some (.imul, 1, 0, 0, 0, 0, 0, 0)) none)))))
   (cond (Nat.blt pc 21)
    (cond (Nat.blt pc 18)
     (cond (Nat.blt pc 17)
      (cond (Nat.beq pc 16) (some (.iload_n 2, 1, 0, 0, 0, 0, 0, 0)) none)
      (cond (Nat.beq pc 17) (some (.iconst 4, 1, 0, 0, 0, 0, 4, 0)) none))
     (cond (Nat.blt pc 19)
      (cond (Nat.beq pc 18) (some (.imul, 1, 0, 0, 0, 0, 0, 0)) none)
      (cond (Nat.blt pc 20)
       (cond (Nat.beq pc 19) (some (.iadd, 1, 0, 0, 0, 0, 0, 0)) none)
       (cond (Nat.beq pc 20) (some (.iload_n 3, 1, 0, 0, 0, 0, 0, 0)) none))))
    (cond (Nat.blt pc 23)
     (cond (Nat.blt pc 22)
      (cond (Nat.beq pc 21) (some (.iadd, 1, 0, 0, 0, 0, 0, 0)) none)
      (cond (Nat.beq pc 22) (some (.iaload, 1, 0, 0, 0, 0, 0, 0)) none))
     (cond (Nat.blt pc 26)
      (cond (Nat.beq pc 23) (some (.goto 4, 3, 27, 0, 0, 0, 0, 0)) none)
      (cond (Nat.blt pc 27)
       (cond (Nat.beq pc 26) (some (.iconst 0, 1, 0, 0, 0, 0, 0, 0)) none)
       (cond (Nat.beq pc 27) (some (.ireturn, 1, 0, 0, 0, 0, 0, 0)) none)))))) none
-- PrintHouse$Job.sidesOfSheet ()I
def zc26 (pc : Nat) : Option z_I := cond (Nat.blt pc 21)
  (cond (Nat.blt pc 9)
   (cond (Nat.blt pc 4)
    (cond (Nat.blt pc 1)
     (cond (Nat.beq pc 0) (some (.aload_n 0, 1, 0, 0, 0, 0, 0, 0)) none)
     (cond (Nat.beq pc 1) (some (.getfield 31, 3, 3, 7, 0, 404, 0, 0)) none))
    (cond (Nat.blt pc 5)
     (cond (Nat.beq pc 4) (some (.iconst 1, 1, 0, 0, 0, 0, 1, 0)) none)
     (cond (Nat.blt pc 8)
      (cond (Nat.beq pc 5) (some (.if_icmp .eq 10, 3, 15, 0, 0, 0, 0, 0)) none)
      (cond (Nat.beq pc 8) (some (.aload_n 0, 1, 0, 0, 0, 0, 0, 0)) none))))
   (cond (Nat.blt pc 16)
    (cond (Nat.blt pc 12)
     (cond (Nat.beq pc 9) (some (.getfield 28, 3, 3, 6, 0, 400, 0, 0)) none)
     (cond (Nat.blt pc 15)
      (cond (Nat.beq pc 12) (some (.ifCond .eq 7, 3, 19, 0, 0, 0, 0, 0)) none)
      (cond (Nat.beq pc 15) (some (.iconst 2, 1, 0, 0, 0, 0, 2, 0)) none)))
    (cond (Nat.blt pc 19)
     (cond (Nat.beq pc 16) (some (.goto 4, 3, 20, 0, 0, 0, 0, 0)) none)
     (cond (Nat.blt pc 20)
      (cond (Nat.beq pc 19) (some (.iconst 1, 1, 0, 0, 0, 0, 1, 0)) none)
      (cond (Nat.beq pc 20) (some (.ireturn, 1, 0, 0, 0, 0, 0, 0)) none))))) none
-- PrintHouse$Job.sheetsOfCopy ()I
def zc27 (pc : Nat) : Option z_I := cond (Nat.blt pc 38)
  (cond (Nat.blt pc 19)
   (cond (Nat.blt pc 8)
    (cond (Nat.blt pc 4)
     (cond (Nat.blt pc 1)
      (cond (Nat.beq pc 0) (some (.aload_n 0, 1, 0, 0, 0, 0, 0, 0)) none)
      (cond (Nat.beq pc 1) (some (.getfield 31, 3, 3, 7, 0, 404, 0, 0)) none))
     (cond (Nat.blt pc 5)
      (cond (Nat.beq pc 4) (some (.iconst 1, 1, 0, 0, 0, 0, 1, 0)) none)
      (cond (Nat.beq pc 5) (some (.if_icmp .ne 14, 3, 19, 0, 0, 0, 0, 0)) none)))
    (cond (Nat.blt pc 12)
     (cond (Nat.blt pc 9)
      (cond (Nat.beq pc 8) (some (.aload_n 0, 1, 0, 0, 0, 0, 0, 0)) none)
      (cond (Nat.beq pc 9) (some (.getfield 34, 3, 3, 8, 0, 410, 0, 0)) none))
     (cond (Nat.blt pc 13)
      (cond (Nat.beq pc 12) (some (.iconst 4, 1, 0, 0, 0, 0, 4, 0)) none)
      (cond (Nat.blt pc 16)
       (cond (Nat.beq pc 13) (some (.invokestatic 79, 3, 28, 0, 0, 1530, 0, 0)) none)
       (cond (Nat.beq pc 16) (some (.goto 21, 3, 37, 0, 0, 0, 0, 0)) none)))))
   (cond (Nat.blt pc 27)
    (cond (Nat.blt pc 23)
     (cond (Nat.blt pc 20)
      (cond (Nat.beq pc 19) (some (.aload_n 0, 1, 0, 0, 0, 0, 0, 0)) none)
      (cond (Nat.beq pc 20) (some (.getfield 34, 3, 3, 8, 0, 410, 0, 0)) none))
     (cond (Nat.blt pc 24)
      (cond (Nat.beq pc 23) (some (.aload_n 0, 1, 0, 0, 0, 0, 0, 0)) none)
      (cond (Nat.beq pc 24) (some (.getfield 15, 3, 3, 5, 0, 394, 0, 0)) none)))
    (cond (Nat.blt pc 31)
     (cond (Nat.blt pc 30)
      (cond (Nat.beq pc 27) (some (.invokestatic 79, 3, 28, 0, 0, 1530, 0, 0)) none)
      (cond (Nat.beq pc 30) (some (.aload_n 0, 1, 0, 0, 0, 0, 0, 0)) none))
     (cond (Nat.blt pc 34)
      (cond (Nat.beq pc 31) (some (.invokevirtual 83, 3, 26, 0, 0, 1536, 0, 0)) none)
      (cond (Nat.blt pc 37)
       (cond (Nat.beq pc 34) (some (.invokestatic 79, 3, 28, 0, 0, 1530, 0, 0)) none)
       (cond (Nat.beq pc 37) (some (.ireturn, 1, 0, 0, 0, 0, 0, 0)) none)))))) none
-- PrintHouse$Job.parts (II)I
def zc28 (pc : Nat) : Option z_I := cond (Nat.blt pc 17)
  (cond (Nat.blt pc 10)
   (cond (Nat.blt pc 5)
    (cond (Nat.blt pc 1)
     (cond (Nat.beq pc 0) (some (.iload_n 1, 1, 0, 0, 0, 0, 0, 0)) none)
     (cond (Nat.blt pc 2)
      (cond (Nat.beq pc 1) (some (.iconst 1, 1, 0, 0, 0, 0, 1, 0)) none)
      (cond (Nat.beq pc 2) (some (.if_icmp .ge 7, 3, 9, 0, 0, 0, 0, 0)) none)))
    (cond (Nat.blt pc 6)
     (cond (Nat.beq pc 5) (some (.iconst 0, 1, 0, 0, 0, 0, 0, 0)) none)
     (cond (Nat.blt pc 9)
      (cond (Nat.beq pc 6) (some (.goto 10, 3, 16, 0, 0, 0, 0, 0)) none)
      (cond (Nat.beq pc 9) (some (.iload_n 0, 1, 0, 0, 0, 0, 0, 0)) none))))
   (cond (Nat.blt pc 13)
    (cond (Nat.blt pc 11)
     (cond (Nat.beq pc 10) (some (.iload_n 1, 1, 0, 0, 0, 0, 0, 0)) none)
     (cond (Nat.blt pc 12)
      (cond (Nat.beq pc 11) (some (.iadd, 1, 0, 0, 0, 0, 0, 0)) none)
      (cond (Nat.beq pc 12) (some (.iconst 1, 1, 0, 0, 0, 0, 1, 0)) none)))
    (cond (Nat.blt pc 15)
     (cond (Nat.blt pc 14)
      (cond (Nat.beq pc 13) (some (.isub, 1, 0, 0, 0, 0, 0, 0)) none)
      (cond (Nat.beq pc 14) (some (.iload_n 1, 1, 0, 0, 0, 0, 0, 0)) none))
     (cond (Nat.blt pc 16)
      (cond (Nat.beq pc 15) (some (.idiv, 1, 0, 0, 0, 0, 0, 0)) none)
      (cond (Nat.beq pc 16) (some (.ireturn, 1, 0, 0, 0, 0, 0, 0)) none))))) none
-- PrintHouse$Job.sheets ()I
def zc29 (pc : Nat) : Option z_I := cond (Nat.blt pc 10)
  (cond (Nat.blt pc 5)
   (cond (Nat.blt pc 1)
    (cond (Nat.beq pc 0) (some (.aload_n 0, 1, 0, 0, 0, 0, 0, 0)) none)
    (cond (Nat.blt pc 4)
     (cond (Nat.beq pc 1) (some (.getfield 22, 3, 3, 3, 0, 384, 0, 0)) none)
     (cond (Nat.beq pc 4) (some (.aload_n 0, 1, 0, 0, 0, 0, 0, 0)) none)))
   (cond (Nat.blt pc 8)
    (cond (Nat.beq pc 5) (some (.invokevirtual 87, 3, 27, 0, 0, 1522, 0, 0)) none)
    (cond (Nat.blt pc 9)
     (cond (Nat.beq pc 8) (some (.imul, 1, 0, 0, 0, 0, 0, 0)) none)
     (cond (Nat.beq pc 9) (some (.ireturn, 1, 0, 0, 0, 0, 0, 0)) none)))) none
-- PrintHouse$Job.nextSheetOfCopy ()I
def zc30 (pc : Nat) : Option z_I := cond (Nat.blt pc 21)
  (cond (Nat.blt pc 10)
   (cond (Nat.blt pc 5)
    (cond (Nat.blt pc 1)
     (cond (Nat.beq pc 0) (some (.aload_n 0, 1, 0, 0, 0, 0, 0, 0)) none)
     (cond (Nat.blt pc 4)
      (cond (Nat.beq pc 1) (some (.invokevirtual 87, 3, 27, 0, 0, 1522, 0, 0)) none)
      (cond (Nat.beq pc 4) (some (.istore_n 1, 1, 0, 0, 0, 0, 0, 0)) none)))
    (cond (Nat.blt pc 6)
     (cond (Nat.beq pc 5) (some (.iload_n 1, 1, 0, 0, 0, 0, 0, 0)) none)
     (cond (Nat.blt pc 7)
      (cond (Nat.beq pc 6) (some (.iconst 1, 1, 0, 0, 0, 0, 1, 0)) none)
      (cond (Nat.beq pc 7) (some (.if_icmp .ge 7, 3, 14, 0, 0, 0, 0, 0)) none))))
   (cond (Nat.blt pc 15)
    (cond (Nat.blt pc 11)
     (cond (Nat.beq pc 10) (some (.iconst 0, 1, 0, 0, 0, 0, 0, 0)) none)
     (cond (Nat.blt pc 14)
      (cond (Nat.beq pc 11) (some (.goto 9, 3, 20, 0, 0, 0, 0, 0)) none)
      (cond (Nat.beq pc 14) (some (.aload_n 0, 1, 0, 0, 0, 0, 0, 0)) none)))
    (cond (Nat.blt pc 19)
     (cond (Nat.blt pc 18)
      (cond (Nat.beq pc 15) (some (.getfield 37, 3, 3, 9, 0, 416, 0, 0)) none)
      (cond (Nat.beq pc 18) (some (.iload_n 1, 1, 0, 0, 0, 0, 0, 0)) none))
     (cond (Nat.blt pc 20)
      (cond (Nat.beq pc 19) (some (.irem, 1, 0, 0, 0, 0, 0, 0)) none)
      (cond (Nat.beq pc 20) (some (.ireturn, 1, 0, 0, 0, 0, 0, 0)) none))))) none
-- PrintHouse$Job.pageIn (III)I
def zc31 (pc : Nat) : Option z_I := cond (Nat.blt pc 56)
  (cond (Nat.blt pc 26)
   (cond (Nat.blt pc 15)
    (cond (Nat.blt pc 8)
     (cond (Nat.blt pc 4)
      (cond (Nat.blt pc 1)
       (cond (Nat.beq pc 0) (some (.aload_n 0, 1, 0, 0, 0, 0, 0, 0)) none)
       (cond (Nat.beq pc 1) (some (.getfield 31, 3, 3, 7, 0, 404, 0, 0)) none))
      (cond (Nat.blt pc 7)
       (cond (Nat.beq pc 4) (some (.ifCond .ne 19, 3, 23, 0, 0, 0, 0, 0)) none)
       (cond (Nat.beq pc 7) (some (.iload_n 1, 1, 0, 0, 0, 0, 0, 0)) none)))
     (cond (Nat.blt pc 12)
      (cond (Nat.blt pc 9)
       (cond (Nat.beq pc 8) (some (.aload_n 0, 1, 0, 0, 0, 0, 0, 0)) none)
       (cond (Nat.beq pc 9) (some (.invokevirtual 83, 3, 26, 0, 0, 1536, 0, 0)) none))
      (cond (Nat.blt pc 13)
       (cond (Nat.beq pc 12) (some (.imul, 1, 0, 0, 0, 0, 0, 0)) none)
       (cond (Nat.blt pc 14)
        (cond (Nat.beq pc 13) (some (.iload_n 2, 1, 0, 0, 0, 0, 0, 0)) none)
        (cond (Nat.beq pc 14) (some (.iadd, 1, 0, 0, 0, 0, 0, 0)) none)))))
    (cond (Nat.blt pc 21)
     (cond (Nat.blt pc 19)
      (cond (Nat.blt pc 16)
       (cond (Nat.beq pc 15) (some (.aload_n 0, 1, 0, 0, 0, 0, 0, 0)) none)
       (cond (Nat.beq pc 16) (some (.getfield 15, 3, 3, 5, 0, 394, 0, 0)) none))
      (cond (Nat.blt pc 20)
       (cond (Nat.beq pc 19) (some (.imul, 1, 0, 0, 0, 0, 0, 0)) none)
       (cond (Nat.beq pc 20) (some (.iload_n 3, 1, 0, 0, 0, 0, 0, 0)) none)))
     (cond (Nat.blt pc 23)
      (cond (Nat.blt pc 22)
       (cond (Nat.beq pc 21) (some (.iadd, 1, 0, 0, 0, 0, 0, 0)) none)
       (cond (Nat.beq pc 22) (some (.ireturn, 1, 0, 0, 0, 0, 0, 0)) none))
      (cond (Nat.blt pc 24)
       (cond (Nat.beq pc 23) (some (.iconst 2, 1, 0, 0, 0, 0, 2, 0)) none)
       (cond (Nat.blt pc 25)
        (cond (Nat.beq pc 24) (some (.iload_n 1, 1, 0, 0, 0, 0, 0, 0)) none)
        (cond (Nat.beq pc 25) (some (.imul, 1, 0, 0, 0, 0, 0, 0)) none))))))
   (cond (Nat.blt pc 38)
    (cond (Nat.blt pc 31)
     (cond (Nat.blt pc 28)
      (cond (Nat.blt pc 27)
       (cond (Nat.beq pc 26) (some (.iload_n 2, 1, 0, 0, 0, 0, 0, 0)) none)
       (cond (Nat.beq pc 27) (some (.iadd, 1, 0, 0, 0, 0, 0, 0)) none))
      (cond (Nat.blt pc 30)
       (cond (Nat.beq pc 28) (some (.istore 4, 2, 0, 0, 0, 0, 0, 0)) none)
       (cond (Nat.beq pc 30) (some (.iconst 4, 1, 0, 0, 0, 0, 4, 0)) none)))
     (cond (Nat.blt pc 35)
      (cond (Nat.blt pc 32)
       (cond (Nat.beq pc 31) (some (.aload_n 0, 1, 0, 0, 0, 0, 0, 0)) none)
       (cond (Nat.beq pc 32) (some (.invokevirtual 87, 3, 27, 0, 0, 1522, 0, 0)) none))
      (cond (Nat.blt pc 36)
       (cond (Nat.beq pc 35) (some (.imul, 1, 0, 0, 0, 0, 0, 0)) none)
       (cond (Nat.blt pc 37)
        (cond (Nat.beq pc 36) (some (.iconst 1, 1, 0, 0, 0, 0, 1, 0)) none)
        (cond (Nat.beq pc 37) (some (.isub, 1, 0, 0, 0, 0, 0, 0)) none)))))
    (cond (Nat.blt pc 45)
     (cond (Nat.blt pc 41)
      (cond (Nat.blt pc 40)
       (cond (Nat.beq pc 38) (some (.iload 4, 2, 0, 0, 0, 0, 0, 0)) none)
       (cond (Nat.beq pc 40) (some (.isub, 1, 0, 0, 0, 0, 0, 0)) none))
      (cond (Nat.blt pc 43)
       (cond (Nat.beq pc 41) (some (.istore 5, 2, 0, 0, 0, 0, 0, 0)) none)
       (cond (Nat.blt pc 44)
        (cond (Nat.beq pc 43) (some (.iload_n 2, 1, 0, 0, 0, 0, 0, 0)) none)
        (cond (Nat.beq pc 44) (some (.iload_n 3, 1, 0, 0, 0, 0, 0, 0)) none))))
     (cond (Nat.blt pc 50)
      (cond (Nat.blt pc 48)
       (cond (Nat.beq pc 45) (some (.if_icmp .ne 8, 3, 53, 0, 0, 0, 0, 0)) none)
       (cond (Nat.beq pc 48) (some (.iload 5, 2, 0, 0, 0, 0, 0, 0)) none))
      (cond (Nat.blt pc 53)
       (cond (Nat.beq pc 50) (some (.goto 5, 3, 55, 0, 0, 0, 0, 0)) none)
       (cond (Nat.blt pc 55)
        (cond (Nat.beq pc 53) (some (.iload 4, 2, 0, 0, 0, 0, 0, 0)) none)
        (cond (Nat.beq pc 55) (some (.ireturn, 1, 0, 0, 0, 0, 0, 0)) none))))))) none
-- PrintHouse$Job.fact (I)I
def zc32 (pc : Nat) : Option z_I := cond (Nat.blt pc 93)
  (cond (Nat.blt pc 68)
   (cond (Nat.blt pc 57)
    (cond (Nat.blt pc 49)
     (cond (Nat.blt pc 1)
      (cond (Nat.beq pc 0) (some (.iload_n 1, 1, 0, 0, 0, 0, 0, 0)) none)
      (cond (Nat.blt pc 48)
       (cond (Nat.beq pc 1) (some (.tableswitch 87 0 7 #[47, 52, 57, 62, 67, 72, 77, 82], 47, 0, 0, 0, 0, 0, 0)) none)
       (cond (Nat.beq pc 48) (some (.aload_n 0, 1, 0, 0, 0, 0, 0, 0)) none)))
     (cond (Nat.blt pc 53)
      (cond (Nat.blt pc 52)
       (cond (Nat.beq pc 49) (some (.getfield 19, 3, 3, 2, 0, 378, 0, 0)) none)
       (cond (Nat.beq pc 52) (some (.ireturn, 1, 0, 0, 0, 0, 0, 0)) none))
      (cond (Nat.blt pc 54)
       (cond (Nat.beq pc 53) (some (.aload_n 0, 1, 0, 0, 0, 0, 0, 0)) none)
       (cond (Nat.beq pc 54) (some (.getfield 22, 3, 3, 3, 0, 384, 0, 0)) none))))
    (cond (Nat.blt pc 62)
     (cond (Nat.blt pc 58)
      (cond (Nat.beq pc 57) (some (.ireturn, 1, 0, 0, 0, 0, 0, 0)) none)
      (cond (Nat.blt pc 59)
       (cond (Nat.beq pc 58) (some (.aload_n 0, 1, 0, 0, 0, 0, 0, 0)) none)
       (cond (Nat.beq pc 59) (some (.getfield 25, 3, 3, 4, 0, 388, 0, 0)) none)))
     (cond (Nat.blt pc 64)
      (cond (Nat.blt pc 63)
       (cond (Nat.beq pc 62) (some (.ireturn, 1, 0, 0, 0, 0, 0, 0)) none)
       (cond (Nat.beq pc 63) (some (.aload_n 0, 1, 0, 0, 0, 0, 0, 0)) none))
      (cond (Nat.blt pc 67)
       (cond (Nat.beq pc 64) (some (.getfield 15, 3, 3, 5, 0, 394, 0, 0)) none)
       (cond (Nat.beq pc 67) (some (.ireturn, 1, 0, 0, 0, 0, 0, 0)) none)))))
   (cond (Nat.blt pc 79)
    (cond (Nat.blt pc 73)
     (cond (Nat.blt pc 69)
      (cond (Nat.beq pc 68) (some (.aload_n 0, 1, 0, 0, 0, 0, 0, 0)) none)
      (cond (Nat.blt pc 72)
       (cond (Nat.beq pc 69) (some (.getfield 28, 3, 3, 6, 0, 400, 0, 0)) none)
       (cond (Nat.beq pc 72) (some (.ireturn, 1, 0, 0, 0, 0, 0, 0)) none)))
     (cond (Nat.blt pc 77)
      (cond (Nat.blt pc 74)
       (cond (Nat.beq pc 73) (some (.aload_n 0, 1, 0, 0, 0, 0, 0, 0)) none)
       (cond (Nat.beq pc 74) (some (.getfield 31, 3, 3, 7, 0, 404, 0, 0)) none))
      (cond (Nat.blt pc 78)
       (cond (Nat.beq pc 77) (some (.ireturn, 1, 0, 0, 0, 0, 0, 0)) none)
       (cond (Nat.beq pc 78) (some (.aload_n 0, 1, 0, 0, 0, 0, 0, 0)) none))))
    (cond (Nat.blt pc 87)
     (cond (Nat.blt pc 83)
      (cond (Nat.blt pc 82)
       (cond (Nat.beq pc 79) (some (.getfield 34, 3, 3, 8, 0, 410, 0, 0)) none)
       (cond (Nat.beq pc 82) (some (.ireturn, 1, 0, 0, 0, 0, 0, 0)) none))
      (cond (Nat.blt pc 84)
       (cond (Nat.beq pc 83) (some (.aload_n 0, 1, 0, 0, 0, 0, 0, 0)) none)
       (cond (Nat.beq pc 84) (some (.getfield 37, 3, 3, 9, 0, 416, 0, 0)) none)))
     (cond (Nat.blt pc 89)
      (cond (Nat.blt pc 88)
       (cond (Nat.beq pc 87) (some (.ireturn, 1, 0, 0, 0, 0, 0, 0)) none)
       (cond (Nat.beq pc 88) (some (.aload_n 0, 1, 0, 0, 0, 0, 0, 0)) none))
      (cond (Nat.blt pc 92)
       (cond (Nat.beq pc 89) (some (.invokevirtual 90, 3, 29, 0, 0, 1720, 0, 0)) none)
       (cond (Nat.beq pc 92) (some (.ireturn, 1, 0, 0, 0, 0, 0, 0)) none)))))) none
-- PrintHouse$Message.read ()V
def zc33 (pc : Nat) : Option z_I := cond (Nat.blt pc 90)
  (cond (Nat.blt pc 42)
   (cond (Nat.blt pc 20)
    (cond (Nat.blt pc 10)
     (cond (Nat.blt pc 5)
      (cond (Nat.blt pc 1)
       (cond (Nat.beq pc 0) (some (.aload_n 0, 1, 0, 0, 0, 0, 0, 0)) none)
       (cond (Nat.blt pc 2)
        (cond (Nat.beq pc 1) (some (.iconst 0, 1, 0, 0, 0, 0, 0, 0)) none)
        (cond (Nat.beq pc 2) (some (.putfield 26, 3, 2, 4, 0, 260, 0, 0)) none)))
      (cond (Nat.blt pc 6)
       (cond (Nat.beq pc 5) (some (.aload_n 0, 1, 0, 0, 0, 0, 0, 0)) none)
       (cond (Nat.blt pc 7)
        (cond (Nat.beq pc 6) (some (.iconst 0, 1, 0, 0, 0, 0, 0, 0)) none)
        (cond (Nat.beq pc 7) (some (.putfield 30, 3, 2, 5, 0, 262, 0, 0)) none))))
     (cond (Nat.blt pc 15)
      (cond (Nat.blt pc 11)
       (cond (Nat.beq pc 10) (some (.aload_n 0, 1, 0, 0, 0, 0, 0, 0)) none)
       (cond (Nat.blt pc 12)
        (cond (Nat.beq pc 11) (some (.iconst 0, 1, 0, 0, 0, 0, 0, 0)) none)
        (cond (Nat.beq pc 12) (some (.putfield 33, 3, 2, 6, 1, 264, 0, 0)) none)))
      (cond (Nat.blt pc 16)
       (cond (Nat.beq pc 15) (some (.aload_n 0, 1, 0, 0, 0, 0, 0, 0)) none)
       (cond (Nat.blt pc 17)
        (cond (Nat.beq pc 16) (some (.iconst 0, 1, 0, 0, 0, 0, 0, 0)) none)
        (cond (Nat.beq pc 17) (some (.putfield 37, 3, 2, 7, 1, 266, 0, 0)) none)))))
    (cond (Nat.blt pc 30)
     (cond (Nat.blt pc 25)
      (cond (Nat.blt pc 21)
       (cond (Nat.beq pc 20) (some (.aload_n 0, 1, 0, 0, 0, 0, 0, 0)) none)
       (cond (Nat.blt pc 22)
        (cond (Nat.beq pc 21) (some (.iconst (-1), 1, 0, 0, 0, 0, (-1), 0)) none)
        (cond (Nat.beq pc 22) (some (.putfield 40, 3, 2, 8, 0, 270, 0, 0)) none)))
      (cond (Nat.blt pc 26)
       (cond (Nat.beq pc 25) (some (.aload_n 0, 1, 0, 0, 0, 0, 0, 0)) none)
       (cond (Nat.blt pc 27)
        (cond (Nat.beq pc 26) (some (.iconst 0, 1, 0, 0, 0, 0, 0, 0)) none)
        (cond (Nat.beq pc 27) (some (.putfield 43, 3, 2, 9, 0, 274, 0, 0)) none))))
     (cond (Nat.blt pc 35)
      (cond (Nat.blt pc 31)
       (cond (Nat.beq pc 30) (some (.aload_n 0, 1, 0, 0, 0, 0, 0, 0)) none)
       (cond (Nat.blt pc 32)
        (cond (Nat.beq pc 31) (some (.iconst 0, 1, 0, 0, 0, 0, 0, 0)) none)
        (cond (Nat.beq pc 32) (some (.putfield 46, 3, 2, 10, 0, 278, 0, 0)) none)))
      (cond (Nat.blt pc 36)
       (cond (Nat.beq pc 35) (some (.aload_n 0, 1, 0, 0, 0, 0, 0, 0)) none)
       (cond (Nat.blt pc 39)
        (cond (Nat.beq pc 36) (some (.getfield 9, 3, 2, 0, 2, 252, 0, 0)) none)
        (cond (Nat.beq pc 39) (some (.invokevirtual 49, 3, 1, 0, 0, 938, 0, 0)) none))))))
   (cond (Nat.blt pc 65)
    (cond (Nat.blt pc 55)
     (cond (Nat.blt pc 48)
      (cond (Nat.blt pc 44)
       (cond (Nat.beq pc 42) (some (.bipush 8, 2, 0, 0, 0, 0, 8, 0)) none)
       (cond (Nat.blt pc 47)
        (cond (Nat.beq pc 44) (some (.if_icmp .lt 45, 3, 89, 0, 0, 0, 0, 0)) none)
        (cond (Nat.beq pc 47) (some (.aload_n 0, 1, 0, 0, 0, 0, 0, 0)) none)))
      (cond (Nat.blt pc 51)
       (cond (Nat.beq pc 48) (some (.getfield 9, 3, 2, 0, 2, 252, 0, 0)) none)
       (cond (Nat.blt pc 52)
        (cond (Nat.beq pc 51) (some (.iconst 2, 1, 0, 0, 0, 0, 2, 0)) none)
        (cond (Nat.beq pc 52) (some (.invokevirtual 55, 3, 7, 0, 0, 940, 0, 0)) none))))
     (cond (Nat.blt pc 60)
      (cond (Nat.blt pc 56)
       (cond (Nat.beq pc 55) (some (.aload_n 0, 1, 0, 0, 0, 0, 0, 0)) none)
       (cond (Nat.blt pc 57)
        (cond (Nat.beq pc 56) (some (.aload_n 0, 1, 0, 0, 0, 0, 0, 0)) none)
        (cond (Nat.beq pc 57) (some (.getfield 9, 3, 2, 0, 2, 252, 0, 0)) none)))
      (cond (Nat.blt pc 61)
       (cond (Nat.beq pc 60) (some (.iconst 2, 1, 0, 0, 0, 0, 2, 0)) none)
       (cond (Nat.blt pc 64)
        (cond (Nat.beq pc 61) (some (.invokevirtual 59, 3, 10, 0, 0, 948, 0, 0)) none)
        (cond (Nat.beq pc 64) (some (.l2i, 1, 0, 0, 0, 0, 0, 0)) none)))))
    (cond (Nat.blt pc 77)
     (cond (Nat.blt pc 70)
      (cond (Nat.blt pc 68)
       (cond (Nat.beq pc 65) (some (.putfield 40, 3, 2, 8, 0, 270, 0, 0)) none)
       (cond (Nat.blt pc 69)
        (cond (Nat.beq pc 68) (some (.aload_n 0, 1, 0, 0, 0, 0, 0, 0)) none)
        (cond (Nat.beq pc 69) (some (.aload_n 0, 1, 0, 0, 0, 0, 0, 0)) none)))
      (cond (Nat.blt pc 73)
       (cond (Nat.beq pc 70) (some (.getfield 9, 3, 2, 0, 2, 252, 0, 0)) none)
       (cond (Nat.blt pc 74)
        (cond (Nat.beq pc 73) (some (.iconst 4, 1, 0, 0, 0, 0, 4, 0)) none)
        (cond (Nat.beq pc 74) (some (.invokevirtual 59, 3, 10, 0, 0, 948, 0, 0)) none))))
     (cond (Nat.blt pc 82)
      (cond (Nat.blt pc 78)
       (cond (Nat.beq pc 77) (some (.l2i, 1, 0, 0, 0, 0, 0, 0)) none)
       (cond (Nat.blt pc 81)
        (cond (Nat.beq pc 78) (some (.putfield 43, 3, 2, 9, 0, 274, 0, 0)) none)
        (cond (Nat.beq pc 81) (some (.aload_n 0, 1, 0, 0, 0, 0, 0, 0)) none)))
      (cond (Nat.blt pc 86)
       (cond (Nat.blt pc 83)
        (cond (Nat.beq pc 82) (some (.aload_n 0, 1, 0, 0, 0, 0, 0, 0)) none)
        (cond (Nat.beq pc 83) (some (.invokevirtual 63, 3, 34, 0, 0, 974, 0, 0)) none))
       (cond (Nat.blt pc 89)
        (cond (Nat.beq pc 86) (some (.putfield 37, 3, 2, 7, 1, 266, 0, 0)) none)
        (cond (Nat.beq pc 89) (some (.return_, 1, 0, 0, 0, 0, 0, 0)) none))))))) none
-- PrintHouse$Message.readGroups ()Z
def zc34 (pc : Nat) : Option z_I := cond (Nat.blt pc 85)
  (cond (Nat.blt pc 42)
   (cond (Nat.blt pc 21)
    (cond (Nat.blt pc 11)
     (cond (Nat.blt pc 4)
      (cond (Nat.blt pc 1)
       (cond (Nat.beq pc 0) (some (.aload_n 0, 1, 0, 0, 0, 0, 0, 0)) none)
       (cond (Nat.beq pc 1) (some (.getfield 9, 3, 2, 0, 2, 252, 0, 0)) none))
      (cond (Nat.blt pc 7)
       (cond (Nat.beq pc 4) (some (.invokevirtual 67, 3, 9, 0, 0, 982, 0, 0)) none)
       (cond (Nat.blt pc 8)
        (cond (Nat.beq pc 7) (some (.iconst 1, 1, 0, 0, 0, 0, 1, 0)) none)
        (cond (Nat.beq pc 8) (some (.if_icmp .ne 10, 3, 18, 0, 0, 0, 0, 0)) none))))
     (cond (Nat.blt pc 18)
      (cond (Nat.blt pc 12)
       (cond (Nat.beq pc 11) (some (.aload_n 0, 1, 0, 0, 0, 0, 0, 0)) none)
       (cond (Nat.blt pc 15)
        (cond (Nat.beq pc 12) (some (.invokevirtual 70, 3, 35, 0, 0, 984, 0, 0)) none)
        (cond (Nat.beq pc 15) (some (.ifCond .ne 5, 3, 20, 0, 0, 0, 0, 0)) none)))
      (cond (Nat.blt pc 19)
       (cond (Nat.beq pc 18) (some (.iconst 0, 1, 0, 0, 0, 0, 0, 0)) none)
       (cond (Nat.blt pc 20)
        (cond (Nat.beq pc 19) (some (.ireturn, 1, 0, 0, 1, 0, 0, 0)) none)
        (cond (Nat.beq pc 20) (some (.aload_n 0, 1, 0, 0, 0, 0, 0, 0)) none)))))
    (cond (Nat.blt pc 32)
     (cond (Nat.blt pc 25)
      (cond (Nat.blt pc 22)
       (cond (Nat.beq pc 21) (some (.aload_n 0, 1, 0, 0, 0, 0, 0, 0)) none)
       (cond (Nat.beq pc 22) (some (.getfield 26, 3, 2, 4, 0, 260, 0, 0)) none))
      (cond (Nat.blt pc 28)
       (cond (Nat.beq pc 25) (some (.putfield 30, 3, 2, 5, 0, 262, 0, 0)) none)
       (cond (Nat.blt pc 29)
        (cond (Nat.beq pc 28) (some (.aload_n 0, 1, 0, 0, 0, 0, 0, 0)) none)
        (cond (Nat.beq pc 29) (some (.getfield 9, 3, 2, 0, 2, 252, 0, 0)) none))))
     (cond (Nat.blt pc 37)
      (cond (Nat.blt pc 35)
       (cond (Nat.beq pc 32) (some (.invokevirtual 67, 3, 9, 0, 0, 982, 0, 0)) none)
       (cond (Nat.blt pc 36)
        (cond (Nat.beq pc 35) (some (.istore_n 1, 1, 0, 0, 0, 0, 0, 0)) none)
        (cond (Nat.beq pc 36) (some (.iload_n 1, 1, 0, 0, 0, 0, 0, 0)) none)))
      (cond (Nat.blt pc 38)
       (cond (Nat.beq pc 37) (some (.iconst 2, 1, 0, 0, 0, 0, 2, 0)) none)
       (cond (Nat.blt pc 41)
        (cond (Nat.beq pc 38) (some (.if_icmp .ne 25, 3, 63, 0, 0, 0, 0, 0)) none)
        (cond (Nat.beq pc 41) (some (.aload_n 0, 1, 0, 0, 0, 0, 0, 0)) none))))))
   (cond (Nat.blt pc 63)
    (cond (Nat.blt pc 53)
     (cond (Nat.blt pc 46)
      (cond (Nat.blt pc 43)
       (cond (Nat.beq pc 42) (some (.iconst 1, 1, 0, 0, 0, 0, 1, 0)) none)
       (cond (Nat.beq pc 43) (some (.putfield 33, 3, 2, 6, 1, 264, 0, 0)) none))
      (cond (Nat.blt pc 47)
       (cond (Nat.beq pc 46) (some (.aload_n 0, 1, 0, 0, 0, 0, 0, 0)) none)
       (cond (Nat.blt pc 50)
        (cond (Nat.beq pc 47) (some (.invokevirtual 70, 3, 35, 0, 0, 984, 0, 0)) none)
        (cond (Nat.beq pc 50) (some (.ifCond .ne 5, 3, 55, 0, 0, 0, 0, 0)) none))))
     (cond (Nat.blt pc 56)
      (cond (Nat.blt pc 54)
       (cond (Nat.beq pc 53) (some (.iconst 0, 1, 0, 0, 0, 0, 0, 0)) none)
       (cond (Nat.blt pc 55)
        (cond (Nat.beq pc 54) (some (.ireturn, 1, 0, 0, 1, 0, 0, 0)) none)
        (cond (Nat.beq pc 55) (some (.aload_n 0, 1, 0, 0, 0, 0, 0, 0)) none)))
      (cond (Nat.blt pc 59)
       (cond (Nat.beq pc 56) (some (.getfield 9, 3, 2, 0, 2, 252, 0, 0)) none)
       (cond (Nat.blt pc 62)
        (cond (Nat.beq pc 59) (some (.invokevirtual 67, 3, 9, 0, 0, 982, 0, 0)) none)
        (cond (Nat.beq pc 62) (some (.istore_n 1, 1, 0, 0, 0, 0, 0, 0)) none)))))
    (cond (Nat.blt pc 75)
     (cond (Nat.blt pc 68)
      (cond (Nat.blt pc 64)
       (cond (Nat.beq pc 63) (some (.aload_n 0, 1, 0, 0, 0, 0, 0, 0)) none)
       (cond (Nat.blt pc 65)
        (cond (Nat.beq pc 64) (some (.aload_n 0, 1, 0, 0, 0, 0, 0, 0)) none)
        (cond (Nat.beq pc 65) (some (.getfield 9, 3, 2, 0, 2, 252, 0, 0)) none)))
      (cond (Nat.blt pc 71)
       (cond (Nat.beq pc 68) (some (.getfield 73, 3, 1, 2, 0, 223, 0, 0)) none)
       (cond (Nat.blt pc 74)
        (cond (Nat.beq pc 71) (some (.putfield 46, 3, 2, 10, 0, 278, 0, 0)) none)
        (cond (Nat.beq pc 74) (some (.iload_n 1, 1, 0, 0, 0, 0, 0, 0)) none))))
     (cond (Nat.blt pc 80)
      (cond (Nat.blt pc 76)
       (cond (Nat.beq pc 75) (some (.iconst 3, 1, 0, 0, 0, 0, 3, 0)) none)
       (cond (Nat.blt pc 79)
        (cond (Nat.beq pc 76) (some (.if_icmp .ne 7, 3, 83, 0, 0, 0, 0, 0)) none)
        (cond (Nat.beq pc 79) (some (.iconst 1, 1, 0, 0, 0, 0, 1, 0)) none)))
      (cond (Nat.blt pc 83)
       (cond (Nat.beq pc 80) (some (.goto 4, 3, 84, 0, 0, 0, 0, 0)) none)
       (cond (Nat.blt pc 84)
        (cond (Nat.beq pc 83) (some (.iconst 0, 1, 0, 0, 0, 0, 0, 0)) none)
        (cond (Nat.beq pc 84) (some (.ireturn, 1, 0, 0, 1, 0, 0, 0)) none))))))) none
-- PrintHouse$Message.readGroup ()Z
def zc35 (pc : Nat) : Option z_I := cond (Nat.blt pc 58)
  (cond (Nat.blt pc 27)
   (cond (Nat.blt pc 10)
    (cond (Nat.blt pc 5)
     (cond (Nat.blt pc 1)
      (cond (Nat.beq pc 0) (some (.aload_n 0, 1, 0, 0, 0, 0, 0, 0)) none)
      (cond (Nat.blt pc 4)
       (cond (Nat.beq pc 1) (some (.getfield 26, 3, 2, 4, 0, 260, 0, 0)) none)
       (cond (Nat.beq pc 4) (some (.istore_n 1, 1, 0, 0, 0, 0, 0, 0)) none)))
     (cond (Nat.blt pc 7)
      (cond (Nat.blt pc 6)
       (cond (Nat.beq pc 5) (some (.iconst 0, 1, 0, 0, 0, 0, 0, 0)) none)
       (cond (Nat.beq pc 6) (some (.istore_n 2, 1, 0, 0, 0, 0, 0, 0)) none))
      (cond (Nat.blt pc 8)
       (cond (Nat.beq pc 7) (some (.iload_n 2, 1, 0, 0, 0, 0, 0, 0)) none)
       (cond (Nat.beq pc 8) (some (.bipush 34, 2, 0, 0, 0, 0, 34, 0)) none))))
    (cond (Nat.blt pc 17)
     (cond (Nat.blt pc 13)
      (cond (Nat.beq pc 10) (some (.if_icmp .ge 46, 3, 56, 0, 0, 0, 0, 0)) none)
      (cond (Nat.blt pc 14)
       (cond (Nat.beq pc 13) (some (.aload_n 0, 1, 0, 0, 0, 0, 0, 0)) none)
       (cond (Nat.beq pc 14) (some (.getfield 9, 3, 2, 0, 2, 252, 0, 0)) none)))
     (cond (Nat.blt pc 21)
      (cond (Nat.blt pc 18)
       (cond (Nat.beq pc 17) (some (.aload_n 0, 1, 0, 0, 0, 0, 0, 0)) none)
       (cond (Nat.beq pc 18) (some (.getfield 9, 3, 2, 0, 2, 252, 0, 0)) none))
      (cond (Nat.blt pc 24)
       (cond (Nat.beq pc 21) (some (.getfield 73, 3, 1, 2, 0, 223, 0, 0)) none)
       (cond (Nat.beq pc 24) (some (.invokevirtual 76, 3, 2, 0, 0, 992, 0, 0)) none)))))
   (cond (Nat.blt pc 42)
    (cond (Nat.blt pc 34)
     (cond (Nat.blt pc 30)
      (cond (Nat.beq pc 27) (some (.invokestatic 80, 3, 36, 0, 0, 994, 0, 0)) none)
      (cond (Nat.blt pc 33)
       (cond (Nat.beq pc 30) (some (.ifCond .eq 26, 3, 56, 0, 0, 0, 0, 0)) none)
       (cond (Nat.beq pc 33) (some (.aload_n 0, 1, 0, 0, 0, 0, 0, 0)) none)))
     (cond (Nat.blt pc 40)
      (cond (Nat.blt pc 37)
       (cond (Nat.beq pc 34) (some (.invokevirtual 84, 3, 37, 0, 0, 1000, 0, 0)) none)
       (cond (Nat.beq pc 37) (some (.ifCond .eq 11, 3, 48, 0, 0, 0, 0, 0)) none))
      (cond (Nat.blt pc 41)
       (cond (Nat.beq pc 40) (some (.aload_n 0, 1, 0, 0, 0, 0, 0, 0)) none)
       (cond (Nat.beq pc 41) (some (.iload_n 1, 1, 0, 0, 0, 0, 0, 0)) none))))
    (cond (Nat.blt pc 50)
     (cond (Nat.blt pc 48)
      (cond (Nat.blt pc 45)
       (cond (Nat.beq pc 42) (some (.invokevirtual 87, 3, 40, 0, 0, 1030, 0, 0)) none)
       (cond (Nat.beq pc 45) (some (.ifCond .eq 5, 3, 50, 0, 0, 0, 0, 0)) none))
      (cond (Nat.blt pc 49)
       (cond (Nat.beq pc 48) (some (.iconst 0, 1, 0, 0, 0, 0, 0, 0)) none)
       (cond (Nat.beq pc 49) (some (.ireturn, 1, 0, 0, 1, 0, 0, 0)) none)))
     (cond (Nat.blt pc 56)
      (cond (Nat.blt pc 53)
       (cond (Nat.beq pc 50) (some (.iinc 2 1, 3, 0, 0, 0, 0, 1, 0)) none)
       (cond (Nat.beq pc 53) (some (.goto (-46), 3, 7, 0, 0, 0, 0, 0)) none))
      (cond (Nat.blt pc 57)
       (cond (Nat.beq pc 56) (some (.iconst 1, 1, 0, 0, 0, 0, 1, 0)) none)
       (cond (Nat.beq pc 57) (some (.ireturn, 1, 0, 0, 1, 0, 0, 0)) none)))))) none
-- PrintHouse$Message.isTag (I)Z
def zc36 (pc : Nat) : Option z_I := cond (Nat.blt pc 24)
  (cond (Nat.blt pc 12)
   (cond (Nat.blt pc 6)
    (cond (Nat.blt pc 1)
     (cond (Nat.beq pc 0) (some (.iload_n 0, 1, 0, 0, 0, 0, 0, 0)) none)
     (cond (Nat.blt pc 3)
      (cond (Nat.beq pc 1) (some (.bipush 33, 2, 0, 0, 0, 0, 33, 0)) none)
      (cond (Nat.beq pc 3) (some (.if_icmp .eq 15, 3, 18, 0, 0, 0, 0, 0)) none)))
    (cond (Nat.blt pc 7)
     (cond (Nat.beq pc 6) (some (.iload_n 0, 1, 0, 0, 0, 0, 0, 0)) none)
     (cond (Nat.blt pc 9)
      (cond (Nat.beq pc 7) (some (.bipush 34, 2, 0, 0, 0, 0, 34, 0)) none)
      (cond (Nat.beq pc 9) (some (.if_icmp .eq 9, 3, 18, 0, 0, 0, 0, 0)) none))))
   (cond (Nat.blt pc 18)
    (cond (Nat.blt pc 13)
     (cond (Nat.beq pc 12) (some (.iload_n 0, 1, 0, 0, 0, 0, 0, 0)) none)
     (cond (Nat.blt pc 15)
      (cond (Nat.beq pc 13) (some (.bipush 68, 2, 0, 0, 0, 0, 68, 0)) none)
      (cond (Nat.beq pc 15) (some (.if_icmp .ne 7, 3, 22, 0, 0, 0, 0, 0)) none)))
    (cond (Nat.blt pc 22)
     (cond (Nat.blt pc 19)
      (cond (Nat.beq pc 18) (some (.iconst 1, 1, 0, 0, 0, 0, 1, 0)) none)
      (cond (Nat.beq pc 19) (some (.goto 4, 3, 23, 0, 0, 0, 0, 0)) none))
     (cond (Nat.blt pc 23)
      (cond (Nat.beq pc 22) (some (.iconst 0, 1, 0, 0, 0, 0, 0, 0)) none)
      (cond (Nat.beq pc 23) (some (.ireturn, 1, 0, 0, 1, 0, 0, 0)) none))))) none
-- PrintHouse$Message.readAttribute ()Z
def zc37 (pc : Nat) : Option z_I := cond (Nat.blt pc 163)
  (cond (Nat.blt pc 81)
   (cond (Nat.blt pc 39)
    (cond (Nat.blt pc 20)
     (cond (Nat.blt pc 10)
      (cond (Nat.blt pc 4)
       (cond (Nat.blt pc 1)
        (cond (Nat.beq pc 0) (some (.aload_n 0, 1, 0, 0, 0, 0, 0, 0)) none)
        (cond (Nat.beq pc 1) (some (.getfield 26, 3, 2, 4, 0, 260, 0, 0)) none))
       (cond (Nat.blt pc 6)
        (cond (Nat.beq pc 4) (some (.bipush 34, 2, 0, 0, 0, 0, 34, 0)) none)
        (cond (Nat.blt pc 9)
         (cond (Nat.beq pc 6) (some (.if_icmp .lt 5, 3, 11, 0, 0, 0, 0, 0)) none)
         (cond (Nat.beq pc 9) (some (.iconst 0, 1, 0, 0, 0, 0, 0, 0)) none))))
      (cond (Nat.blt pc 15)
       (cond (Nat.blt pc 11)
        (cond (Nat.beq pc 10) (some (.ireturn, 1, 0, 0, 1, 0, 0, 0)) none)
        (cond (Nat.blt pc 12)
         (cond (Nat.beq pc 11) (some (.aload_n 0, 1, 0, 0, 0, 0, 0, 0)) none)
         (cond (Nat.beq pc 12) (some (.getfield 9, 3, 2, 0, 2, 252, 0, 0)) none)))
       (cond (Nat.blt pc 18)
        (cond (Nat.beq pc 15) (some (.invokevirtual 67, 3, 9, 0, 0, 982, 0, 0)) none)
        (cond (Nat.blt pc 19)
         (cond (Nat.beq pc 18) (some (.istore_n 1, 1, 0, 0, 0, 0, 0, 0)) none)
         (cond (Nat.beq pc 19) (some (.aload_n 0, 1, 0, 0, 0, 0, 0, 0)) none)))))
     (cond (Nat.blt pc 31)
      (cond (Nat.blt pc 24)
       (cond (Nat.blt pc 23)
        (cond (Nat.beq pc 20) (some (.getfield 9, 3, 2, 0, 2, 252, 0, 0)) none)
        (cond (Nat.beq pc 23) (some (.aload_n 0, 1, 0, 0, 0, 0, 0, 0)) none))
       (cond (Nat.blt pc 27)
        (cond (Nat.beq pc 24) (some (.getfield 9, 3, 2, 0, 2, 252, 0, 0)) none)
        (cond (Nat.blt pc 28)
         (cond (Nat.beq pc 27) (some (.iconst 2, 1, 0, 0, 0, 0, 2, 0)) none)
         (cond (Nat.beq pc 28) (some (.invokevirtual 59, 3, 10, 0, 0, 948, 0, 0)) none))))
      (cond (Nat.blt pc 36)
       (cond (Nat.blt pc 32)
        (cond (Nat.beq pc 31) (some (.l2i, 1, 0, 0, 0, 0, 0, 0)) none)
        (cond (Nat.blt pc 35)
         (cond (Nat.beq pc 32) (some (.invokevirtual 90, 3, 11, 0, 0, 1008, 0, 0)) none)
         (cond (Nat.beq pc 35) (some (.lstore_n 2, 1, 0, 0, 0, 0, 0, 0)) none)))
       (cond (Nat.blt pc 37)
        (cond (Nat.beq pc 36) (some (.lload_n 2, 1, 0, 0, 0, 0, 0, 0)) none)
        (cond (Nat.blt pc 38)
         (cond (Nat.beq pc 37) (some (.lconst 0, 1, 0, 0, 0, 0, 0, 0)) none)
         (cond (Nat.beq pc 38) (some (.lcmp, 1, 0, 0, 0, 0, 0, 0)) none))))))
    (cond (Nat.blt pc 58)
     (cond (Nat.blt pc 48)
      (cond (Nat.blt pc 43)
       (cond (Nat.blt pc 42)
        (cond (Nat.beq pc 39) (some (.ifCond .ne 5, 3, 44, 0, 0, 0, 0, 0)) none)
        (cond (Nat.beq pc 42) (some (.iconst 0, 1, 0, 0, 0, 0, 0, 0)) none))
       (cond (Nat.blt pc 44)
        (cond (Nat.beq pc 43) (some (.ireturn, 1, 0, 0, 1, 0, 0, 0)) none)
        (cond (Nat.blt pc 45)
         (cond (Nat.beq pc 44) (some (.aload_n 0, 1, 0, 0, 0, 0, 0, 0)) none)
         (cond (Nat.beq pc 45) (some (.getfield 9, 3, 2, 0, 2, 252, 0, 0)) none))))
      (cond (Nat.blt pc 53)
       (cond (Nat.blt pc 49)
        (cond (Nat.beq pc 48) (some (.iconst 2, 1, 0, 0, 0, 0, 2, 0)) none)
        (cond (Nat.blt pc 52)
         (cond (Nat.beq pc 49) (some (.invokevirtual 59, 3, 10, 0, 0, 948, 0, 0)) none)
         (cond (Nat.beq pc 52) (some (.l2i, 1, 0, 0, 0, 0, 0, 0)) none)))
       (cond (Nat.blt pc 55)
        (cond (Nat.beq pc 53) (some (.istore 4, 2, 0, 0, 0, 0, 0, 0)) none)
        (cond (Nat.blt pc 56)
         (cond (Nat.beq pc 55) (some (.iload_n 1, 1, 0, 0, 0, 0, 0, 0)) none)
         (cond (Nat.beq pc 56) (some (.iload 4, 2, 0, 0, 0, 0, 0, 0)) none)))))
     (cond (Nat.blt pc 70)
      (cond (Nat.blt pc 64)
       (cond (Nat.blt pc 61)
        (cond (Nat.beq pc 58) (some (.invokestatic 93, 3, 38, 0, 0, 1016, 0, 0)) none)
        (cond (Nat.beq pc 61) (some (.ifCond .eq 15, 3, 76, 0, 0, 0, 0, 0)) none))
       (cond (Nat.blt pc 65)
        (cond (Nat.beq pc 64) (some (.aload_n 0, 1, 0, 0, 0, 0, 0, 0)) none)
        (cond (Nat.blt pc 68)
         (cond (Nat.beq pc 65) (some (.getfield 9, 3, 2, 0, 2, 252, 0, 0)) none)
         (cond (Nat.beq pc 68) (some (.iload 4, 2, 0, 0, 0, 0, 0, 0)) none))))
      (cond (Nat.blt pc 77)
       (cond (Nat.blt pc 73)
        (cond (Nat.beq pc 70) (some (.invokevirtual 97, 3, 8, 0, 0, 1022, 0, 0)) none)
        (cond (Nat.blt pc 76)
         (cond (Nat.beq pc 73) (some (.ifCond .ne 5, 3, 78, 0, 0, 0, 0, 0)) none)
         (cond (Nat.beq pc 76) (some (.iconst 0, 1, 0, 0, 0, 0, 0, 0)) none)))
       (cond (Nat.blt pc 78)
        (cond (Nat.beq pc 77) (some (.ireturn, 1, 0, 0, 1, 0, 0, 0)) none)
        (cond (Nat.blt pc 79)
         (cond (Nat.beq pc 78) (some (.iload_n 1, 1, 0, 0, 0, 0, 0, 0)) none)
         (cond (Nat.beq pc 79) (some (.bipush 68, 2, 0, 0, 0, 0, 68, 0)) none)))))))
   (cond (Nat.blt pc 125)
    (cond (Nat.blt pc 106)
     (cond (Nat.blt pc 93)
      (cond (Nat.blt pc 85)
       (cond (Nat.blt pc 84)
        (cond (Nat.beq pc 81) (some (.if_icmp .ne 15, 3, 96, 0, 0, 0, 0, 0)) none)
        (cond (Nat.beq pc 84) (some (.aload_n 0, 1, 0, 0, 0, 0, 0, 0)) none))
       (cond (Nat.blt pc 88)
        (cond (Nat.beq pc 85) (some (.getfield 9, 3, 2, 0, 2, 252, 0, 0)) none)
        (cond (Nat.blt pc 90)
         (cond (Nat.beq pc 88) (some (.iload 4, 2, 0, 0, 0, 0, 0, 0)) none)
         (cond (Nat.beq pc 90) (some (.invokevirtual 90, 3, 11, 0, 0, 1008, 0, 0)) none))))
      (cond (Nat.blt pc 100)
       (cond (Nat.blt pc 96)
        (cond (Nat.beq pc 93) (some (.goto 14, 3, 107, 0, 0, 0, 0, 0)) none)
        (cond (Nat.blt pc 97)
         (cond (Nat.beq pc 96) (some (.aload_n 0, 1, 0, 0, 0, 0, 0, 0)) none)
         (cond (Nat.beq pc 97) (some (.getfield 9, 3, 2, 0, 2, 252, 0, 0)) none)))
       (cond (Nat.blt pc 102)
        (cond (Nat.beq pc 100) (some (.iload 4, 2, 0, 0, 0, 0, 0, 0)) none)
        (cond (Nat.blt pc 105)
         (cond (Nat.beq pc 102) (some (.invokevirtual 59, 3, 10, 0, 0, 948, 0, 0)) none)
         (cond (Nat.beq pc 105) (some (.l2i, 1, 0, 0, 0, 0, 0, 0)) none)))))
     (cond (Nat.blt pc 115)
      (cond (Nat.blt pc 109)
       (cond (Nat.blt pc 107)
        (cond (Nat.beq pc 106) (some (.i2l, 1, 0, 0, 0, 0, 0, 0)) none)
        (cond (Nat.beq pc 107) (some (.lstore 5, 2, 0, 0, 0, 0, 0, 0)) none))
       (cond (Nat.blt pc 110)
        (cond (Nat.beq pc 109) (some (.iload_n 1, 1, 0, 0, 0, 0, 0, 0)) none)
        (cond (Nat.blt pc 112)
         (cond (Nat.beq pc 110) (some (.lload 5, 2, 0, 0, 0, 0, 0, 0)) none)
         (cond (Nat.beq pc 112) (some (.invokestatic 100, 3, 39, 0, 0, 1024, 0, 0)) none))))
      (cond (Nat.blt pc 120)
       (cond (Nat.blt pc 118)
        (cond (Nat.beq pc 115) (some (.ifCond .ne 5, 3, 120, 0, 0, 0, 0, 0)) none)
        (cond (Nat.blt pc 119)
         (cond (Nat.beq pc 118) (some (.iconst 0, 1, 0, 0, 0, 0, 0, 0)) none)
         (cond (Nat.beq pc 119) (some (.ireturn, 1, 0, 0, 1, 0, 0, 0)) none)))
       (cond (Nat.blt pc 121)
        (cond (Nat.beq pc 120) (some (.aload_n 0, 1, 0, 0, 0, 0, 0, 0)) none)
        (cond (Nat.blt pc 124)
         (cond (Nat.beq pc 121) (some (.getfield 15, 3, 2, 1, 2, 254, 0, 0)) none)
         (cond (Nat.beq pc 124) (some (.aload_n 0, 1, 0, 0, 0, 0, 0, 0)) none))))))
    (cond (Nat.blt pc 144)
     (cond (Nat.blt pc 134)
      (cond (Nat.blt pc 129)
       (cond (Nat.blt pc 128)
        (cond (Nat.beq pc 125) (some (.getfield 26, 3, 2, 4, 0, 260, 0, 0)) none)
        (cond (Nat.beq pc 128) (some (.iload_n 1, 1, 0, 0, 0, 0, 0, 0)) none))
       (cond (Nat.blt pc 130)
        (cond (Nat.beq pc 129) (some (.iastore, 1, 0, 0, 0, 0, 0, 0)) none)
        (cond (Nat.blt pc 131)
         (cond (Nat.beq pc 130) (some (.aload_n 0, 1, 0, 0, 0, 0, 0, 0)) none)
         (cond (Nat.beq pc 131) (some (.getfield 19, 3, 2, 2, 2, 256, 0, 0)) none))))
      (cond (Nat.blt pc 139)
       (cond (Nat.blt pc 135)
        (cond (Nat.beq pc 134) (some (.aload_n 0, 1, 0, 0, 0, 0, 0, 0)) none)
        (cond (Nat.blt pc 138)
         (cond (Nat.beq pc 135) (some (.getfield 26, 3, 2, 4, 0, 260, 0, 0)) none)
         (cond (Nat.beq pc 138) (some (.lload_n 2, 1, 0, 0, 0, 0, 0, 0)) none)))
       (cond (Nat.blt pc 140)
        (cond (Nat.beq pc 139) (some (.lastore, 1, 0, 0, 0, 0, 0, 0)) none)
        (cond (Nat.blt pc 141)
         (cond (Nat.beq pc 140) (some (.aload_n 0, 1, 0, 0, 0, 0, 0, 0)) none)
         (cond (Nat.beq pc 141) (some (.getfield 23, 3, 2, 3, 2, 258, 0, 0)) none)))))
     (cond (Nat.blt pc 153)
      (cond (Nat.blt pc 150)
       (cond (Nat.blt pc 145)
        (cond (Nat.beq pc 144) (some (.aload_n 0, 1, 0, 0, 0, 0, 0, 0)) none)
        (cond (Nat.blt pc 148)
         (cond (Nat.beq pc 145) (some (.getfield 26, 3, 2, 4, 0, 260, 0, 0)) none)
         (cond (Nat.beq pc 148) (some (.lload 5, 2, 0, 0, 0, 0, 0, 0)) none)))
       (cond (Nat.blt pc 151)
        (cond (Nat.beq pc 150) (some (.lastore, 1, 0, 0, 0, 0, 0, 0)) none)
        (cond (Nat.blt pc 152)
         (cond (Nat.beq pc 151) (some (.aload_n 0, 1, 0, 0, 0, 0, 0, 0)) none)
         (cond (Nat.beq pc 152) (some (.dup, 1, 0, 0, 0, 0, 0, 0)) none))))
      (cond (Nat.blt pc 158)
       (cond (Nat.blt pc 156)
        (cond (Nat.beq pc 153) (some (.getfield 26, 3, 2, 4, 0, 260, 0, 0)) none)
        (cond (Nat.blt pc 157)
         (cond (Nat.beq pc 156) (some (.iconst 1, 1, 0, 0, 0, 0, 1, 0)) none)
         (cond (Nat.beq pc 157) (some (.iadd, 1, 0, 0, 0, 0, 0, 0)) none)))
       (cond (Nat.blt pc 161)
        (cond (Nat.beq pc 158) (some (.putfield 26, 3, 2, 4, 0, 260, 0, 0)) none)
        (cond (Nat.blt pc 162)
         (cond (Nat.beq pc 161) (some (.iconst 1, 1, 0, 0, 0, 0, 1, 0)) none)
         (cond (Nat.beq pc 162) (some (.ireturn, 1, 0, 0, 1, 0, 0, 0)) none)))))))) none
-- PrintHouse$Message.isLengthOf (II)Z
def zc38 (pc : Nat) : Option z_I := cond (Nat.blt pc 67)
  (cond (Nat.blt pc 45)
   (cond (Nat.blt pc 34)
    (cond (Nat.blt pc 29)
     (cond (Nat.blt pc 1)
      (cond (Nat.beq pc 0) (some (.iload_n 0, 1, 0, 0, 0, 0, 0, 0)) none)
      (cond (Nat.blt pc 28)
       (cond (Nat.beq pc 1) (some (.lookupswitch 49 #[(33, 27), (34, 38)], 27, 0, 0, 0, 0, 0, 0)) none)
       (cond (Nat.beq pc 28) (some (.iload_n 1, 1, 0, 0, 0, 0, 0, 0)) none)))
     (cond (Nat.blt pc 30)
      (cond (Nat.beq pc 29) (some (.iconst 4, 1, 0, 0, 0, 0, 4, 0)) none)
      (cond (Nat.blt pc 33)
       (cond (Nat.beq pc 30) (some (.if_icmp .ne 7, 3, 37, 0, 0, 0, 0, 0)) none)
       (cond (Nat.beq pc 33) (some (.iconst 1, 1, 0, 0, 0, 0, 1, 0)) none))))
    (cond (Nat.blt pc 39)
     (cond (Nat.blt pc 37)
      (cond (Nat.beq pc 34) (some (.goto 4, 3, 38, 0, 0, 0, 0, 0)) none)
      (cond (Nat.blt pc 38)
       (cond (Nat.beq pc 37) (some (.iconst 0, 1, 0, 0, 0, 0, 0, 0)) none)
       (cond (Nat.beq pc 38) (some (.ireturn, 1, 0, 0, 1, 0, 0, 0)) none)))
     (cond (Nat.blt pc 41)
      (cond (Nat.blt pc 40)
       (cond (Nat.beq pc 39) (some (.iload_n 1, 1, 0, 0, 0, 0, 0, 0)) none)
       (cond (Nat.beq pc 40) (some (.iconst 1, 1, 0, 0, 0, 0, 1, 0)) none))
      (cond (Nat.blt pc 44)
       (cond (Nat.beq pc 41) (some (.if_icmp .ne 7, 3, 48, 0, 0, 0, 0, 0)) none)
       (cond (Nat.beq pc 44) (some (.iconst 1, 1, 0, 0, 0, 0, 1, 0)) none)))))
   (cond (Nat.blt pc 55)
    (cond (Nat.blt pc 50)
     (cond (Nat.blt pc 48)
      (cond (Nat.beq pc 45) (some (.goto 4, 3, 49, 0, 0, 0, 0, 0)) none)
      (cond (Nat.blt pc 49)
       (cond (Nat.beq pc 48) (some (.iconst 0, 1, 0, 0, 0, 0, 0, 0)) none)
       (cond (Nat.beq pc 49) (some (.ireturn, 1, 0, 0, 1, 0, 0, 0)) none)))
     (cond (Nat.blt pc 51)
      (cond (Nat.beq pc 50) (some (.iload_n 1, 1, 0, 0, 0, 0, 0, 0)) none)
      (cond (Nat.blt pc 52)
       (cond (Nat.beq pc 51) (some (.iconst 1, 1, 0, 0, 0, 0, 1, 0)) none)
       (cond (Nat.beq pc 52) (some (.if_icmp .lt 13, 3, 65, 0, 0, 0, 0, 0)) none))))
    (cond (Nat.blt pc 61)
     (cond (Nat.blt pc 56)
      (cond (Nat.beq pc 55) (some (.iload_n 1, 1, 0, 0, 0, 0, 0, 0)) none)
      (cond (Nat.blt pc 58)
       (cond (Nat.beq pc 56) (some (.bipush 8, 2, 0, 0, 0, 0, 8, 0)) none)
       (cond (Nat.beq pc 58) (some (.if_icmp .gt 7, 3, 65, 0, 0, 0, 0, 0)) none)))
     (cond (Nat.blt pc 65)
      (cond (Nat.blt pc 62)
       (cond (Nat.beq pc 61) (some (.iconst 1, 1, 0, 0, 0, 0, 1, 0)) none)
       (cond (Nat.beq pc 62) (some (.goto 4, 3, 66, 0, 0, 0, 0, 0)) none))
      (cond (Nat.blt pc 66)
       (cond (Nat.beq pc 65) (some (.iconst 0, 1, 0, 0, 0, 0, 0, 0)) none)
       (cond (Nat.beq pc 66) (some (.ireturn, 1, 0, 0, 1, 0, 0, 0)) none)))))) none
-- PrintHouse$Message.isValueOf (IJ)Z
def zc39 (pc : Nat) : Option z_I := cond (Nat.blt pc 54)
  (cond (Nat.blt pc 40)
   (cond (Nat.blt pc 31)
    (cond (Nat.blt pc 28)
     (cond (Nat.blt pc 1)
      (cond (Nat.beq pc 0) (some (.iload_n 0, 1, 0, 0, 0, 0, 0, 0)) none)
      (cond (Nat.beq pc 1) (some (.lookupswitch 41 #[(33, 27), (34, 29)], 27, 0, 0, 0, 0, 0, 0)) none))
     (cond (Nat.blt pc 29)
      (cond (Nat.beq pc 28) (some (.iconst 1, 1, 0, 0, 0, 0, 1, 0)) none)
      (cond (Nat.blt pc 30)
       (cond (Nat.beq pc 29) (some (.ireturn, 1, 0, 0, 1, 0, 0, 0)) none)
       (cond (Nat.beq pc 30) (some (.lload_n 1, 1, 0, 0, 0, 0, 0, 0)) none))))
    (cond (Nat.blt pc 33)
     (cond (Nat.blt pc 32)
      (cond (Nat.beq pc 31) (some (.lconst 1, 1, 0, 0, 0, 0, 0, 1)) none)
      (cond (Nat.beq pc 32) (some (.lcmp, 1, 0, 0, 0, 0, 0, 0)) none))
     (cond (Nat.blt pc 36)
      (cond (Nat.beq pc 33) (some (.ifCond .gt 7, 3, 40, 0, 0, 0, 0, 0)) none)
      (cond (Nat.blt pc 37)
       (cond (Nat.beq pc 36) (some (.iconst 1, 1, 0, 0, 0, 0, 1, 0)) none)
       (cond (Nat.beq pc 37) (some (.goto 4, 3, 41, 0, 0, 0, 0, 0)) none)))))
   (cond (Nat.blt pc 45)
    (cond (Nat.blt pc 42)
     (cond (Nat.blt pc 41)
      (cond (Nat.beq pc 40) (some (.iconst 0, 1, 0, 0, 0, 0, 0, 0)) none)
      (cond (Nat.beq pc 41) (some (.ireturn, 1, 0, 0, 1, 0, 0, 0)) none))
     (cond (Nat.blt pc 43)
      (cond (Nat.beq pc 42) (some (.lload_n 1, 1, 0, 0, 0, 0, 0, 0)) none)
      (cond (Nat.blt pc 44)
       (cond (Nat.beq pc 43) (some (.lconst 0, 1, 0, 0, 0, 0, 0, 0)) none)
       (cond (Nat.beq pc 44) (some (.lcmp, 1, 0, 0, 0, 0, 0, 0)) none))))
    (cond (Nat.blt pc 49)
     (cond (Nat.blt pc 48)
      (cond (Nat.beq pc 45) (some (.ifCond .eq 7, 3, 52, 0, 0, 0, 0, 0)) none)
      (cond (Nat.beq pc 48) (some (.iconst 1, 1, 0, 0, 0, 0, 1, 0)) none))
     (cond (Nat.blt pc 52)
      (cond (Nat.beq pc 49) (some (.goto 4, 3, 53, 0, 0, 0, 0, 0)) none)
      (cond (Nat.blt pc 53)
       (cond (Nat.beq pc 52) (some (.iconst 0, 1, 0, 0, 0, 0, 0, 0)) none)
       (cond (Nat.beq pc 53) (some (.ireturn, 1, 0, 0, 1, 0, 0, 0)) none)))))) none
end
section
-- PrintHouse$Message.isLastNameTwice (I)Z
def zc40 (pc : Nat) : Option z_I := cond (Nat.blt pc 40)
  (cond (Nat.blt pc 19)
   (cond (Nat.blt pc 8)
    (cond (Nat.blt pc 5)
     (cond (Nat.blt pc 1)
      (cond (Nat.beq pc 0) (some (.aload_n 0, 1, 0, 0, 0, 0, 0, 0)) none)
      (cond (Nat.blt pc 4)
       (cond (Nat.beq pc 1) (some (.getfield 26, 3, 2, 4, 0, 260, 0, 0)) none)
       (cond (Nat.beq pc 4) (some (.iconst 1, 1, 0, 0, 0, 0, 1, 0)) none)))
     (cond (Nat.blt pc 6)
      (cond (Nat.beq pc 5) (some (.isub, 1, 0, 0, 0, 0, 0, 0)) none)
      (cond (Nat.blt pc 7)
       (cond (Nat.beq pc 6) (some (.istore_n 2, 1, 0, 0, 0, 0, 0, 0)) none)
       (cond (Nat.beq pc 7) (some (.iload_n 1, 1, 0, 0, 0, 0, 0, 0)) none))))
    (cond (Nat.blt pc 11)
     (cond (Nat.blt pc 9)
      (cond (Nat.beq pc 8) (some (.istore_n 3, 1, 0, 0, 0, 0, 0, 0)) none)
      (cond (Nat.blt pc 10)
       (cond (Nat.beq pc 9) (some (.iload_n 3, 1, 0, 0, 0, 0, 0, 0)) none)
       (cond (Nat.beq pc 10) (some (.iload_n 2, 1, 0, 0, 0, 0, 0, 0)) none)))
     (cond (Nat.blt pc 15)
      (cond (Nat.blt pc 14)
       (cond (Nat.beq pc 11) (some (.if_icmp .ge 27, 3, 38, 0, 0, 0, 0, 0)) none)
       (cond (Nat.beq pc 14) (some (.aload_n 0, 1, 0, 0, 0, 0, 0, 0)) none))
      (cond (Nat.blt pc 18)
       (cond (Nat.beq pc 15) (some (.getfield 19, 3, 2, 2, 2, 256, 0, 0)) none)
       (cond (Nat.beq pc 18) (some (.iload_n 3, 1, 0, 0, 0, 0, 0, 0)) none)))))
   (cond (Nat.blt pc 27)
    (cond (Nat.blt pc 24)
     (cond (Nat.blt pc 20)
      (cond (Nat.beq pc 19) (some (.laload, 1, 0, 0, 0, 0, 0, 0)) none)
      (cond (Nat.blt pc 21)
       (cond (Nat.beq pc 20) (some (.aload_n 0, 1, 0, 0, 0, 0, 0, 0)) none)
       (cond (Nat.beq pc 21) (some (.getfield 19, 3, 2, 2, 2, 256, 0, 0)) none)))
     (cond (Nat.blt pc 25)
      (cond (Nat.beq pc 24) (some (.iload_n 2, 1, 0, 0, 0, 0, 0, 0)) none)
      (cond (Nat.blt pc 26)
       (cond (Nat.beq pc 25) (some (.laload, 1, 0, 0, 0, 0, 0, 0)) none)
       (cond (Nat.beq pc 26) (some (.lcmp, 1, 0, 0, 0, 0, 0, 0)) none))))
    (cond (Nat.blt pc 32)
     (cond (Nat.blt pc 30)
      (cond (Nat.beq pc 27) (some (.ifCond .ne 5, 3, 32, 0, 0, 0, 0, 0)) none)
      (cond (Nat.blt pc 31)
       (cond (Nat.beq pc 30) (some (.iconst 1, 1, 0, 0, 0, 0, 1, 0)) none)
       (cond (Nat.beq pc 31) (some (.ireturn, 1, 0, 0, 1, 0, 0, 0)) none)))
     (cond (Nat.blt pc 38)
      (cond (Nat.blt pc 35)
       (cond (Nat.beq pc 32) (some (.iinc 3 1, 3, 0, 0, 0, 0, 1, 0)) none)
       (cond (Nat.beq pc 35) (some (.goto (-26), 3, 9, 0, 0, 0, 0, 0)) none))
      (cond (Nat.blt pc 39)
       (cond (Nat.beq pc 38) (some (.iconst 0, 1, 0, 0, 0, 0, 0, 0)) none)
       (cond (Nat.beq pc 39) (some (.ireturn, 1, 0, 0, 1, 0, 0, 0)) none)))))) none
-- PrintHouse$Message.isOfOtherVersion ()Z
def zc41 (pc : Nat) : Option z_I := cond (Nat.blt pc 41)
  (cond (Nat.blt pc 20)
   (cond (Nat.blt pc 11)
    (cond (Nat.blt pc 4)
     (cond (Nat.blt pc 1)
      (cond (Nat.beq pc 0) (some (.aload_n 0, 1, 0, 0, 0, 0, 0, 0)) none)
      (cond (Nat.beq pc 1) (some (.getfield 9, 3, 2, 0, 2, 252, 0, 0)) none))
     (cond (Nat.blt pc 7)
      (cond (Nat.beq pc 4) (some (.invokevirtual 49, 3, 1, 0, 0, 938, 0, 0)) none)
      (cond (Nat.blt pc 8)
       (cond (Nat.beq pc 7) (some (.iconst 2, 1, 0, 0, 0, 0, 2, 0)) none)
       (cond (Nat.beq pc 8) (some (.if_icmp .lt 31, 3, 39, 0, 0, 0, 0, 0)) none))))
    (cond (Nat.blt pc 15)
     (cond (Nat.blt pc 12)
      (cond (Nat.beq pc 11) (some (.aload_n 0, 1, 0, 0, 0, 0, 0, 0)) none)
      (cond (Nat.beq pc 12) (some (.getfield 9, 3, 2, 0, 2, 252, 0, 0)) none))
     (cond (Nat.blt pc 16)
      (cond (Nat.beq pc 15) (some (.iconst 0, 1, 0, 0, 0, 0, 0, 0)) none)
      (cond (Nat.blt pc 19)
       (cond (Nat.beq pc 16) (some (.invokevirtual 76, 3, 2, 0, 0, 992, 0, 0)) none)
       (cond (Nat.beq pc 19) (some (.iconst 1, 1, 0, 0, 0, 0, 1, 0)) none)))))
   (cond (Nat.blt pc 31)
    (cond (Nat.blt pc 24)
     (cond (Nat.blt pc 23)
      (cond (Nat.beq pc 20) (some (.if_icmp .ne 15, 3, 35, 0, 0, 0, 0, 0)) none)
      (cond (Nat.beq pc 23) (some (.aload_n 0, 1, 0, 0, 0, 0, 0, 0)) none))
     (cond (Nat.blt pc 27)
      (cond (Nat.beq pc 24) (some (.getfield 9, 3, 2, 0, 2, 252, 0, 0)) none)
      (cond (Nat.blt pc 28)
       (cond (Nat.beq pc 27) (some (.iconst 1, 1, 0, 0, 0, 0, 1, 0)) none)
       (cond (Nat.beq pc 28) (some (.invokevirtual 76, 3, 2, 0, 0, 992, 0, 0)) none))))
    (cond (Nat.blt pc 36)
     (cond (Nat.blt pc 32)
      (cond (Nat.beq pc 31) (some (.iconst 1, 1, 0, 0, 0, 0, 1, 0)) none)
      (cond (Nat.blt pc 35)
       (cond (Nat.beq pc 32) (some (.if_icmp .eq 7, 3, 39, 0, 0, 0, 0, 0)) none)
       (cond (Nat.beq pc 35) (some (.iconst 1, 1, 0, 0, 0, 0, 1, 0)) none)))
     (cond (Nat.blt pc 39)
      (cond (Nat.beq pc 36) (some (.goto 4, 3, 40, 0, 0, 0, 0, 0)) none)
      (cond (Nat.blt pc 40)
       (cond (Nat.beq pc 39) (some (.iconst 0, 1, 0, 0, 0, 0, 0, 0)) none)
       (cond (Nat.beq pc 40) (some (.ireturn, 1, 0, 0, 1, 0, 0, 0)) none)))))) none
-- PrintHouse$Message.isBare ()Z
def zc42 (pc : Nat) : Option z_I := cond (Nat.blt pc 27)
  (cond (Nat.blt pc 12)
   (cond (Nat.blt pc 7)
    (cond (Nat.blt pc 1)
     (cond (Nat.beq pc 0) (some (.aload_n 0, 1, 0, 0, 0, 0, 0, 0)) none)
     (cond (Nat.blt pc 4)
      (cond (Nat.beq pc 1) (some (.getfield 33, 3, 2, 6, 1, 264, 0, 0)) none)
      (cond (Nat.beq pc 4) (some (.ifCond .ne 21, 3, 25, 0, 0, 0, 0, 0)) none)))
    (cond (Nat.blt pc 8)
     (cond (Nat.beq pc 7) (some (.aload_n 0, 1, 0, 0, 0, 0, 0, 0)) none)
     (cond (Nat.blt pc 11)
      (cond (Nat.beq pc 8) (some (.getfield 46, 3, 2, 10, 0, 278, 0, 0)) none)
      (cond (Nat.beq pc 11) (some (.aload_n 0, 1, 0, 0, 0, 0, 0, 0)) none))))
   (cond (Nat.blt pc 21)
    (cond (Nat.blt pc 15)
     (cond (Nat.beq pc 12) (some (.getfield 9, 3, 2, 0, 2, 252, 0, 0)) none)
     (cond (Nat.blt pc 18)
      (cond (Nat.beq pc 15) (some (.invokevirtual 49, 3, 1, 0, 0, 938, 0, 0)) none)
      (cond (Nat.beq pc 18) (some (.if_icmp .lt 7, 3, 25, 0, 0, 0, 0, 0)) none)))
    (cond (Nat.blt pc 25)
     (cond (Nat.blt pc 22)
      (cond (Nat.beq pc 21) (some (.iconst 1, 1, 0, 0, 0, 0, 1, 0)) none)
      (cond (Nat.beq pc 22) (some (.goto 4, 3, 26, 0, 0, 0, 0, 0)) none))
     (cond (Nat.blt pc 26)
      (cond (Nat.beq pc 25) (some (.iconst 0, 1, 0, 0, 0, 0, 0, 0)) none)
      (cond (Nat.beq pc 26) (some (.ireturn, 1, 0, 0, 1, 0, 0, 0)) none))))) none
-- PrintHouse$Message.jobAttribute ()I
def zc43 (pc : Nat) : Option z_I := cond (Nat.blt pc 44)
  (cond (Nat.blt pc 20)
   (cond (Nat.blt pc 10)
    (cond (Nat.blt pc 3)
     (cond (Nat.blt pc 1)
      (cond (Nat.beq pc 0) (some (.iconst 0, 1, 0, 0, 0, 0, 0, 0)) none)
      (cond (Nat.blt pc 2)
       (cond (Nat.beq pc 1) (some (.istore_n 1, 1, 0, 0, 0, 0, 0, 0)) none)
       (cond (Nat.beq pc 2) (some (.iload_n 1, 1, 0, 0, 0, 0, 0, 0)) none)))
     (cond (Nat.blt pc 4)
      (cond (Nat.beq pc 3) (some (.aload_n 0, 1, 0, 0, 0, 0, 0, 0)) none)
      (cond (Nat.blt pc 7)
       (cond (Nat.beq pc 4) (some (.getfield 30, 3, 2, 5, 0, 262, 0, 0)) none)
       (cond (Nat.beq pc 7) (some (.if_icmp .ge 35, 3, 42, 0, 0, 0, 0, 0)) none))))
    (cond (Nat.blt pc 15)
     (cond (Nat.blt pc 11)
      (cond (Nat.beq pc 10) (some (.aload_n 0, 1, 0, 0, 0, 0, 0, 0)) none)
      (cond (Nat.blt pc 14)
       (cond (Nat.beq pc 11) (some (.getfield 19, 3, 2, 2, 2, 256, 0, 0)) none)
       (cond (Nat.beq pc 14) (some (.iload_n 1, 1, 0, 0, 0, 0, 0, 0)) none)))
     (cond (Nat.blt pc 16)
      (cond (Nat.beq pc 15) (some (.laload, 1, 0, 0, 0, 0, 0, 0)) none)
      (cond (Nat.blt pc 19)
       (cond (Nat.beq pc 16) (some (.ldc2_w 104, 3, 0, 0, 0, 614, 0, 6975330)) none)
       (cond (Nat.beq pc 19) (some (.lcmp, 1, 0, 0, 0, 0, 0, 0)) none)))))
   (cond (Nat.blt pc 31)
    (cond (Nat.blt pc 27)
     (cond (Nat.blt pc 23)
      (cond (Nat.beq pc 20) (some (.ifCond .ne 16, 3, 36, 0, 0, 0, 0, 0)) none)
      (cond (Nat.blt pc 24)
       (cond (Nat.beq pc 23) (some (.aload_n 0, 1, 0, 0, 0, 0, 0, 0)) none)
       (cond (Nat.beq pc 24) (some (.getfield 15, 3, 2, 1, 2, 254, 0, 0)) none)))
     (cond (Nat.blt pc 28)
      (cond (Nat.beq pc 27) (some (.iload_n 1, 1, 0, 0, 0, 0, 0, 0)) none)
      (cond (Nat.blt pc 29)
       (cond (Nat.beq pc 28) (some (.iaload, 1, 0, 0, 0, 0, 0, 0)) none)
       (cond (Nat.beq pc 29) (some (.bipush 33, 2, 0, 0, 0, 0, 33, 0)) none))))
    (cond (Nat.blt pc 36)
     (cond (Nat.blt pc 34)
      (cond (Nat.beq pc 31) (some (.if_icmp .ne 5, 3, 36, 0, 0, 0, 0, 0)) none)
      (cond (Nat.blt pc 35)
       (cond (Nat.beq pc 34) (some (.iload_n 1, 1, 0, 0, 0, 0, 0, 0)) none)
       (cond (Nat.beq pc 35) (some (.ireturn, 1, 0, 0, 0, 0, 0, 0)) none)))
     (cond (Nat.blt pc 42)
      (cond (Nat.blt pc 39)
       (cond (Nat.beq pc 36) (some (.iinc 1 1, 3, 0, 0, 0, 0, 1, 0)) none)
       (cond (Nat.beq pc 39) (some (.goto (-37), 3, 2, 0, 0, 0, 0, 0)) none))
      (cond (Nat.blt pc 43)
       (cond (Nat.beq pc 42) (some (.iconst (-1), 1, 0, 0, 0, 0, (-1), 0)) none)
       (cond (Nat.beq pc 43) (some (.ireturn, 1, 0, 0, 0, 0, 0, 0)) none)))))) none
-- PrintHouse$Message.namesJob ()Z
def zc44 (pc : Nat) : Option z_I := cond (Nat.blt pc 14)
  (cond (Nat.blt pc 8)
   (cond (Nat.blt pc 4)
    (cond (Nat.blt pc 1)
     (cond (Nat.beq pc 0) (some (.aload_n 0, 1, 0, 0, 0, 0, 0, 0)) none)
     (cond (Nat.beq pc 1) (some (.invokevirtual 106, 3, 43, 0, 0, 1220, 0, 0)) none))
    (cond (Nat.blt pc 5)
     (cond (Nat.beq pc 4) (some (.iconst (-1), 1, 0, 0, 0, 0, (-1), 0)) none)
     (cond (Nat.beq pc 5) (some (.if_icmp .eq 7, 3, 12, 0, 0, 0, 0, 0)) none)))
   (cond (Nat.blt pc 12)
    (cond (Nat.blt pc 9)
     (cond (Nat.beq pc 8) (some (.iconst 1, 1, 0, 0, 0, 0, 1, 0)) none)
     (cond (Nat.beq pc 9) (some (.goto 4, 3, 13, 0, 0, 0, 0, 0)) none))
    (cond (Nat.blt pc 13)
     (cond (Nat.beq pc 12) (some (.iconst 0, 1, 0, 0, 0, 0, 0, 0)) none)
     (cond (Nat.beq pc 13) (some (.ireturn, 1, 0, 0, 1, 0, 0, 0)) none)))) none
-- PrintHouse$Message.jobNumber ()I
def zc45 (pc : Nat) : Option z_I := cond (Nat.blt pc 22)
  (cond (Nat.blt pc 11)
   (cond (Nat.blt pc 5)
    (cond (Nat.blt pc 1)
     (cond (Nat.beq pc 0) (some (.aload_n 0, 1, 0, 0, 0, 0, 0, 0)) none)
     (cond (Nat.blt pc 4)
      (cond (Nat.beq pc 1) (some (.invokevirtual 106, 3, 43, 0, 0, 1220, 0, 0)) none)
      (cond (Nat.beq pc 4) (some (.istore_n 1, 1, 0, 0, 0, 0, 0, 0)) none)))
    (cond (Nat.blt pc 7)
     (cond (Nat.blt pc 6)
      (cond (Nat.beq pc 5) (some (.iload_n 1, 1, 0, 0, 0, 0, 0, 0)) none)
      (cond (Nat.beq pc 6) (some (.iconst (-1), 1, 0, 0, 0, 0, (-1), 0)) none))
     (cond (Nat.blt pc 10)
      (cond (Nat.beq pc 7) (some (.if_icmp .ne 7, 3, 14, 0, 0, 0, 0, 0)) none)
      (cond (Nat.beq pc 10) (some (.iconst 0, 1, 0, 0, 0, 0, 0, 0)) none))))
   (cond (Nat.blt pc 18)
    (cond (Nat.blt pc 14)
     (cond (Nat.beq pc 11) (some (.goto 10, 3, 21, 0, 0, 0, 0, 0)) none)
     (cond (Nat.blt pc 15)
      (cond (Nat.beq pc 14) (some (.aload_n 0, 1, 0, 0, 0, 0, 0, 0)) none)
      (cond (Nat.beq pc 15) (some (.getfield 23, 3, 2, 3, 2, 258, 0, 0)) none)))
    (cond (Nat.blt pc 20)
     (cond (Nat.blt pc 19)
      (cond (Nat.beq pc 18) (some (.iload_n 1, 1, 0, 0, 0, 0, 0, 0)) none)
      (cond (Nat.beq pc 19) (some (.laload, 1, 0, 0, 0, 0, 0, 0)) none))
     (cond (Nat.blt pc 21)
      (cond (Nat.beq pc 20) (some (.l2i, 1, 0, 0, 0, 0, 0, 0)) none)
      (cond (Nat.beq pc 21) (some (.ireturn, 1, 0, 0, 0, 0, 0, 0)) none))))) none
-- PrintHouse$Message.readSettings (LPrintHouse$Job;)Z
def zc46 (pc : Nat) : Option z_I := cond (Nat.blt pc 67)
  (cond (Nat.blt pc 30)
   (cond (Nat.blt pc 15)
    (cond (Nat.blt pc 6)
     (cond (Nat.blt pc 4)
      (cond (Nat.blt pc 1)
       (cond (Nat.beq pc 0) (some (.aload_n 0, 1, 0, 0, 0, 0, 0, 0)) none)
       (cond (Nat.beq pc 1) (some (.getfield 30, 3, 2, 5, 0, 262, 0, 0)) none))
      (cond (Nat.blt pc 5)
       (cond (Nat.beq pc 4) (some (.istore_n 2, 1, 0, 0, 0, 0, 0, 0)) none)
       (cond (Nat.beq pc 5) (some (.iload_n 2, 1, 0, 0, 0, 0, 0, 0)) none)))
     (cond (Nat.blt pc 10)
      (cond (Nat.blt pc 7)
       (cond (Nat.beq pc 6) (some (.aload_n 0, 1, 0, 0, 0, 0, 0, 0)) none)
       (cond (Nat.beq pc 7) (some (.getfield 26, 3, 2, 4, 0, 260, 0, 0)) none))
      (cond (Nat.blt pc 13)
       (cond (Nat.beq pc 10) (some (.if_icmp .ge 36, 3, 46, 0, 0, 0, 0, 0)) none)
       (cond (Nat.blt pc 14)
        (cond (Nat.beq pc 13) (some (.aload_n 1, 1, 0, 0, 0, 0, 0, 0)) none)
        (cond (Nat.beq pc 14) (some (.aload_n 0, 1, 0, 0, 0, 0, 0, 0)) none)))))
    (cond (Nat.blt pc 21)
     (cond (Nat.blt pc 19)
      (cond (Nat.blt pc 18)
       (cond (Nat.beq pc 15) (some (.getfield 15, 3, 2, 1, 2, 254, 0, 0)) none)
       (cond (Nat.beq pc 18) (some (.iload_n 2, 1, 0, 0, 0, 0, 0, 0)) none))
      (cond (Nat.blt pc 20)
       (cond (Nat.beq pc 19) (some (.iaload, 1, 0, 0, 0, 0, 0, 0)) none)
       (cond (Nat.beq pc 20) (some (.aload_n 0, 1, 0, 0, 0, 0, 0, 0)) none)))
     (cond (Nat.blt pc 25)
      (cond (Nat.blt pc 24)
       (cond (Nat.beq pc 21) (some (.getfield 19, 3, 2, 2, 2, 256, 0, 0)) none)
       (cond (Nat.beq pc 24) (some (.iload_n 2, 1, 0, 0, 0, 0, 0, 0)) none))
      (cond (Nat.blt pc 26)
       (cond (Nat.beq pc 25) (some (.laload, 1, 0, 0, 0, 0, 0, 0)) none)
       (cond (Nat.blt pc 27)
        (cond (Nat.beq pc 26) (some (.aload_n 0, 1, 0, 0, 0, 0, 0, 0)) none)
        (cond (Nat.beq pc 27) (some (.getfield 23, 3, 2, 3, 2, 258, 0, 0)) none))))))
   (cond (Nat.blt pc 47)
    (cond (Nat.blt pc 38)
     (cond (Nat.blt pc 32)
      (cond (Nat.blt pc 31)
       (cond (Nat.beq pc 30) (some (.iload_n 2, 1, 0, 0, 0, 0, 0, 0)) none)
       (cond (Nat.beq pc 31) (some (.laload, 1, 0, 0, 0, 0, 0, 0)) none))
      (cond (Nat.blt pc 35)
       (cond (Nat.beq pc 32) (some (.invokevirtual 109, 3, 18, 0, 0, 1078, 0, 0)) none)
       (cond (Nat.beq pc 35) (some (.ifCond .ne 5, 3, 40, 0, 0, 0, 0, 0)) none)))
     (cond (Nat.blt pc 40)
      (cond (Nat.blt pc 39)
       (cond (Nat.beq pc 38) (some (.iconst 0, 1, 0, 0, 0, 0, 0, 0)) none)
       (cond (Nat.beq pc 39) (some (.ireturn, 1, 0, 0, 1, 0, 0, 0)) none))
      (cond (Nat.blt pc 43)
       (cond (Nat.beq pc 40) (some (.iinc 2 1, 3, 0, 0, 0, 0, 1, 0)) none)
       (cond (Nat.blt pc 46)
        (cond (Nat.beq pc 43) (some (.goto (-38), 3, 5, 0, 0, 0, 0, 0)) none)
        (cond (Nat.beq pc 46) (some (.aload_n 1, 1, 0, 0, 0, 0, 0, 0)) none)))))
    (cond (Nat.blt pc 58)
     (cond (Nat.blt pc 53)
      (cond (Nat.blt pc 50)
       (cond (Nat.beq pc 47) (some (.getfield 115, 3, 3, 7, 0, 409, 0, 0)) none)
       (cond (Nat.beq pc 50) (some (.ifCond .eq 11, 3, 61, 0, 0, 0, 0, 0)) none))
      (cond (Nat.blt pc 54)
       (cond (Nat.beq pc 53) (some (.aload_n 1, 1, 0, 0, 0, 0, 0, 0)) none)
       (cond (Nat.blt pc 57)
        (cond (Nat.beq pc 54) (some (.getfield 118, 3, 3, 5, 0, 399, 0, 0)) none)
        (cond (Nat.beq pc 57) (some (.iconst 1, 1, 0, 0, 0, 0, 1, 0)) none))))
     (cond (Nat.blt pc 62)
      (cond (Nat.blt pc 61)
       (cond (Nat.beq pc 58) (some (.if_icmp .ne 7, 3, 65, 0, 0, 0, 0, 0)) none)
       (cond (Nat.beq pc 61) (some (.iconst 1, 1, 0, 0, 0, 0, 1, 0)) none))
      (cond (Nat.blt pc 65)
       (cond (Nat.beq pc 62) (some (.goto 4, 3, 66, 0, 0, 0, 0, 0)) none)
       (cond (Nat.blt pc 66)
        (cond (Nat.beq pc 65) (some (.iconst 0, 1, 0, 0, 0, 0, 0, 0)) none)
        (cond (Nat.beq pc 66) (some (.ireturn, 1, 0, 0, 1, 0, 0, 0)) none))))))) none
-- PrintHouse$PageReader.read (ILPrintHouse$Job;)Z
def zc47 (pc : Nat) : Option z_I := cond (Nat.blt pc 79)
  (cond (Nat.blt pc 41)
   (cond (Nat.blt pc 18)
    (cond (Nat.blt pc 9)
     (cond (Nat.blt pc 4)
      (cond (Nat.blt pc 1)
       (cond (Nat.beq pc 0) (some (.aload_n 0, 1, 0, 0, 0, 0, 0, 0)) none)
       (cond (Nat.beq pc 1) (some (.getfield 9, 3, 4, 0, 2, 342, 0, 0)) none))
      (cond (Nat.blt pc 5)
       (cond (Nat.beq pc 4) (some (.iload_n 1, 1, 0, 0, 0, 0, 0, 0)) none)
       (cond (Nat.blt pc 8)
        (cond (Nat.beq pc 5) (some (.invokevirtual 19, 3, 7, 0, 0, 1136, 0, 0)) none)
        (cond (Nat.beq pc 8) (some (.iconst 0, 1, 0, 0, 0, 0, 0, 0)) none))))
     (cond (Nat.blt pc 11)
      (cond (Nat.blt pc 10)
       (cond (Nat.beq pc 9) (some (.istore_n 3, 1, 0, 0, 0, 0, 0, 0)) none)
       (cond (Nat.beq pc 10) (some (.iload_n 3, 1, 0, 0, 0, 0, 0, 0)) none))
      (cond (Nat.blt pc 14)
       (cond (Nat.beq pc 11) (some (.sipush 240, 3, 0, 0, 0, 0, 240, 0)) none)
       (cond (Nat.blt pc 17)
        (cond (Nat.beq pc 14) (some (.if_icmp .ge 52, 3, 66, 0, 0, 0, 0, 0)) none)
        (cond (Nat.beq pc 17) (some (.aload_n 0, 1, 0, 0, 0, 0, 0, 0)) none)))))
    (cond (Nat.blt pc 29)
     (cond (Nat.blt pc 22)
      (cond (Nat.blt pc 21)
       (cond (Nat.beq pc 18) (some (.getfield 9, 3, 4, 0, 2, 342, 0, 0)) none)
       (cond (Nat.beq pc 21) (some (.iconst 1, 1, 0, 0, 0, 0, 1, 0)) none))
      (cond (Nat.blt pc 25)
       (cond (Nat.beq pc 22) (some (.invokevirtual 25, 3, 8, 0, 0, 1138, 0, 0)) none)
       (cond (Nat.blt pc 28)
        (cond (Nat.beq pc 25) (some (.ifCond .eq 41, 3, 66, 0, 0, 0, 0, 0)) none)
        (cond (Nat.beq pc 28) (some (.aload_n 0, 1, 0, 0, 0, 0, 0, 0)) none))))
     (cond (Nat.blt pc 35)
      (cond (Nat.blt pc 32)
       (cond (Nat.beq pc 29) (some (.getfield 9, 3, 4, 0, 2, 342, 0, 0)) none)
       (cond (Nat.beq pc 32) (some (.invokevirtual 29, 3, 9, 0, 0, 1140, 0, 0)) none))
      (cond (Nat.blt pc 37)
       (cond (Nat.beq pc 35) (some (.bipush 80, 2, 0, 0, 0, 0, 80, 0)) none)
       (cond (Nat.blt pc 40)
        (cond (Nat.beq pc 37) (some (.if_icmp .ne 11, 3, 48, 0, 0, 0, 0, 0)) none)
        (cond (Nat.beq pc 40) (some (.aload_n 0, 1, 0, 0, 0, 0, 0, 0)) none))))))
   (cond (Nat.blt pc 57)
    (cond (Nat.blt pc 50)
     (cond (Nat.blt pc 45)
      (cond (Nat.blt pc 42)
       (cond (Nat.beq pc 41) (some (.aload_n 2, 1, 0, 0, 0, 0, 0, 0)) none)
       (cond (Nat.beq pc 42) (some (.invokevirtual 33, 3, 48, 0, 0, 1142, 0, 0)) none))
      (cond (Nat.blt pc 48)
       (cond (Nat.beq pc 45) (some (.ifCond .ne 5, 3, 50, 0, 0, 0, 0, 0)) none)
       (cond (Nat.blt pc 49)
        (cond (Nat.beq pc 48) (some (.iconst 0, 1, 0, 0, 0, 0, 0, 0)) none)
        (cond (Nat.beq pc 49) (some (.ireturn, 1, 0, 0, 1, 0, 0, 0)) none))))
     (cond (Nat.blt pc 52)
      (cond (Nat.blt pc 51)
       (cond (Nat.beq pc 50) (some (.aload_n 2, 1, 0, 0, 0, 0, 0, 0)) none)
       (cond (Nat.beq pc 51) (some (.dup, 1, 0, 0, 0, 0, 0, 0)) none))
      (cond (Nat.blt pc 55)
       (cond (Nat.beq pc 52) (some (.getfield 37, 3, 3, 8, 0, 413, 0, 0)) none)
       (cond (Nat.blt pc 56)
        (cond (Nat.beq pc 55) (some (.iconst 1, 1, 0, 0, 0, 0, 1, 0)) none)
        (cond (Nat.beq pc 56) (some (.iadd, 1, 0, 0, 0, 0, 0, 0)) none)))))
    (cond (Nat.blt pc 70)
     (cond (Nat.blt pc 63)
      (cond (Nat.blt pc 60)
       (cond (Nat.beq pc 57) (some (.putfield 37, 3, 3, 8, 0, 413, 0, 0)) none)
       (cond (Nat.beq pc 60) (some (.iinc 3 1, 3, 0, 0, 0, 0, 1, 0)) none))
      (cond (Nat.blt pc 66)
       (cond (Nat.beq pc 63) (some (.goto (-53), 3, 10, 0, 0, 0, 0, 0)) none)
       (cond (Nat.blt pc 67)
        (cond (Nat.beq pc 66) (some (.aload_n 2, 1, 0, 0, 0, 0, 0, 0)) none)
        (cond (Nat.beq pc 67) (some (.getfield 37, 3, 3, 8, 0, 413, 0, 0)) none))))
     (cond (Nat.blt pc 74)
      (cond (Nat.blt pc 73)
       (cond (Nat.beq pc 70) (some (.ifCond .le 7, 3, 77, 0, 0, 0, 0, 0)) none)
       (cond (Nat.beq pc 73) (some (.iconst 1, 1, 0, 0, 0, 0, 1, 0)) none))
      (cond (Nat.blt pc 77)
       (cond (Nat.beq pc 74) (some (.goto 4, 3, 78, 0, 0, 0, 0, 0)) none)
       (cond (Nat.blt pc 78)
        (cond (Nat.beq pc 77) (some (.iconst 0, 1, 0, 0, 0, 0, 0, 0)) none)
        (cond (Nat.beq pc 78) (some (.ireturn, 1, 0, 0, 1, 0, 0, 0)) none))))))) none
-- PrintHouse$PageReader.readRaster (LPrintHouse$Job;)Z
def zc48 (pc : Nat) : Option z_I := cond (Nat.blt pc 76)
  (cond (Nat.blt pc 35)
   (cond (Nat.blt pc 15)
    (cond (Nat.blt pc 5)
     (cond (Nat.blt pc 2)
      (cond (Nat.blt pc 1)
       (cond (Nat.beq pc 0) (some (.iconst 0, 1, 0, 0, 0, 0, 0, 0)) none)
       (cond (Nat.beq pc 1) (some (.istore_n 2, 1, 0, 0, 0, 0, 0, 0)) none))
      (cond (Nat.blt pc 3)
       (cond (Nat.beq pc 2) (some (.iconst 0, 1, 0, 0, 0, 0, 0, 0)) none)
       (cond (Nat.blt pc 4)
        (cond (Nat.beq pc 3) (some (.istore_n 3, 1, 0, 0, 0, 0, 0, 0)) none)
        (cond (Nat.beq pc 4) (some (.iload_n 3, 1, 0, 0, 0, 0, 0, 0)) none))))
     (cond (Nat.blt pc 10)
      (cond (Nat.blt pc 6)
       (cond (Nat.beq pc 5) (some (.iconst 3, 1, 0, 0, 0, 0, 3, 0)) none)
       (cond (Nat.blt pc 9)
        (cond (Nat.beq pc 6) (some (.if_icmp .ge 59, 3, 65, 0, 0, 0, 0, 0)) none)
        (cond (Nat.beq pc 9) (some (.iload_n 2, 1, 0, 0, 0, 0, 0, 0)) none)))
      (cond (Nat.blt pc 11)
       (cond (Nat.beq pc 10) (some (.iconst 3, 1, 0, 0, 0, 0, 3, 0)) none)
       (cond (Nat.blt pc 14)
        (cond (Nat.beq pc 11) (some (.if_icmp .ge 54, 3, 65, 0, 0, 0, 0, 0)) none)
        (cond (Nat.beq pc 14) (some (.iload_n 2, 1, 0, 0, 0, 0, 0, 0)) none)))))
    (cond (Nat.blt pc 24)
     (cond (Nat.blt pc 19)
      (cond (Nat.blt pc 16)
       (cond (Nat.beq pc 15) (some (.aload_n 0, 1, 0, 0, 0, 0, 0, 0)) none)
       (cond (Nat.beq pc 16) (some (.getfield 9, 3, 4, 0, 2, 342, 0, 0)) none))
      (cond (Nat.blt pc 22)
       (cond (Nat.beq pc 19) (some (.invokevirtual 29, 3, 9, 0, 0, 1140, 0, 0)) none)
       (cond (Nat.blt pc 23)
        (cond (Nat.beq pc 22) (some (.iadd, 1, 0, 0, 0, 0, 0, 0)) none)
        (cond (Nat.beq pc 23) (some (.iconst 1, 1, 0, 0, 0, 0, 1, 0)) none))))
     (cond (Nat.blt pc 29)
      (cond (Nat.blt pc 25)
       (cond (Nat.beq pc 24) (some (.iadd, 1, 0, 0, 0, 0, 0, 0)) none)
       (cond (Nat.blt pc 27)
        (cond (Nat.beq pc 25) (some (.istore 4, 2, 0, 0, 0, 0, 0, 0)) none)
        (cond (Nat.beq pc 27) (some (.iload 4, 2, 0, 0, 0, 0, 0, 0)) none)))
      (cond (Nat.blt pc 30)
       (cond (Nat.beq pc 29) (some (.iload_n 2, 1, 0, 0, 0, 0, 0, 0)) none)
       (cond (Nat.blt pc 33)
        (cond (Nat.beq pc 30) (some (.if_icmp .le 16, 3, 46, 0, 0, 0, 0, 0)) none)
        (cond (Nat.beq pc 33) (some (.iload 4, 2, 0, 0, 0, 0, 0, 0)) none))))))
   (cond (Nat.blt pc 53)
    (cond (Nat.blt pc 46)
     (cond (Nat.blt pc 39)
      (cond (Nat.blt pc 36)
       (cond (Nat.beq pc 35) (some (.iconst 3, 1, 0, 0, 0, 0, 3, 0)) none)
       (cond (Nat.beq pc 36) (some (.if_icmp .gt 10, 3, 46, 0, 0, 0, 0, 0)) none))
      (cond (Nat.blt pc 40)
       (cond (Nat.beq pc 39) (some (.aload_n 0, 1, 0, 0, 0, 0, 0, 0)) none)
       (cond (Nat.blt pc 43)
        (cond (Nat.beq pc 40) (some (.invokevirtual 43, 3, 49, 0, 0, 1150, 0, 0)) none)
        (cond (Nat.beq pc 43) (some (.ifCond .ne 5, 3, 48, 0, 0, 0, 0, 0)) none))))
     (cond (Nat.blt pc 49)
      (cond (Nat.blt pc 47)
       (cond (Nat.beq pc 46) (some (.iconst 0, 1, 0, 0, 0, 0, 0, 0)) none)
       (cond (Nat.blt pc 48)
        (cond (Nat.beq pc 47) (some (.ireturn, 1, 0, 0, 1, 0, 0, 0)) none)
        (cond (Nat.beq pc 48) (some (.aload_n 0, 1, 0, 0, 0, 0, 0, 0)) none)))
      (cond (Nat.blt pc 50)
       (cond (Nat.beq pc 49) (some (.aload_n 1, 1, 0, 0, 0, 0, 0, 0)) none)
       (cond (Nat.blt pc 51)
        (cond (Nat.beq pc 50) (some (.iload_n 2, 1, 0, 0, 0, 0, 0, 0)) none)
        (cond (Nat.beq pc 51) (some (.iload 4, 2, 0, 0, 0, 0, 0, 0)) none)))))
    (cond (Nat.blt pc 66)
     (cond (Nat.blt pc 59)
      (cond (Nat.blt pc 56)
       (cond (Nat.beq pc 53) (some (.invokevirtual 47, 3, 51, 0, 0, 1164, 0, 0)) none)
       (cond (Nat.blt pc 58)
        (cond (Nat.beq pc 56) (some (.iload 4, 2, 0, 0, 0, 0, 0, 0)) none)
        (cond (Nat.beq pc 58) (some (.istore_n 2, 1, 0, 0, 0, 0, 0, 0)) none)))
      (cond (Nat.blt pc 62)
       (cond (Nat.beq pc 59) (some (.iinc 3 1, 3, 0, 0, 0, 0, 1, 0)) none)
       (cond (Nat.blt pc 65)
        (cond (Nat.beq pc 62) (some (.goto (-58), 3, 4, 0, 0, 0, 0, 0)) none)
        (cond (Nat.beq pc 65) (some (.iload_n 2, 1, 0, 0, 0, 0, 0, 0)) none))))
     (cond (Nat.blt pc 71)
      (cond (Nat.blt pc 67)
       (cond (Nat.beq pc 66) (some (.iconst 3, 1, 0, 0, 0, 0, 3, 0)) none)
       (cond (Nat.blt pc 70)
        (cond (Nat.beq pc 67) (some (.if_icmp .ne 7, 3, 74, 0, 0, 0, 0, 0)) none)
        (cond (Nat.beq pc 70) (some (.iconst 1, 1, 0, 0, 0, 0, 1, 0)) none)))
      (cond (Nat.blt pc 74)
       (cond (Nat.beq pc 71) (some (.goto 4, 3, 75, 0, 0, 0, 0, 0)) none)
       (cond (Nat.blt pc 75)
        (cond (Nat.beq pc 74) (some (.iconst 0, 1, 0, 0, 0, 0, 0, 0)) none)
        (cond (Nat.beq pc 75) (some (.ireturn, 1, 0, 0, 1, 0, 0, 0)) none))))))) none
-- PrintHouse$PageReader.readRow ()Z
def zc49 (pc : Nat) : Option z_I := cond (Nat.blt pc 141)
  (cond (Nat.blt pc 68)
   (cond (Nat.blt pc 30)
    (cond (Nat.blt pc 11)
     (cond (Nat.blt pc 4)
      (cond (Nat.blt pc 2)
       (cond (Nat.blt pc 1)
        (cond (Nat.beq pc 0) (some (.iconst 0, 1, 0, 0, 0, 0, 0, 0)) none)
        (cond (Nat.beq pc 1) (some (.istore_n 1, 1, 0, 0, 0, 0, 0, 0)) none))
       (cond (Nat.blt pc 3)
        (cond (Nat.beq pc 2) (some (.iconst 0, 1, 0, 0, 0, 0, 0, 0)) none)
        (cond (Nat.beq pc 3) (some (.istore_n 2, 1, 0, 0, 0, 0, 0, 0)) none)))
      (cond (Nat.blt pc 6)
       (cond (Nat.blt pc 5)
        (cond (Nat.beq pc 4) (some (.iload_n 2, 1, 0, 0, 0, 0, 0, 0)) none)
        (cond (Nat.beq pc 5) (some (.iconst 4, 1, 0, 0, 0, 0, 4, 0)) none))
       (cond (Nat.blt pc 9)
        (cond (Nat.beq pc 6) (some (.if_icmp .ge 124, 3, 130, 0, 0, 0, 0, 0)) none)
        (cond (Nat.blt pc 10)
         (cond (Nat.beq pc 9) (some (.iload_n 1, 1, 0, 0, 0, 0, 0, 0)) none)
         (cond (Nat.beq pc 10) (some (.iconst 4, 1, 0, 0, 0, 0, 4, 0)) none)))))
     (cond (Nat.blt pc 22)
      (cond (Nat.blt pc 15)
       (cond (Nat.blt pc 14)
        (cond (Nat.beq pc 11) (some (.if_icmp .ge 119, 3, 130, 0, 0, 0, 0, 0)) none)
        (cond (Nat.beq pc 14) (some (.aload_n 0, 1, 0, 0, 0, 0, 0, 0)) none))
       (cond (Nat.blt pc 18)
        (cond (Nat.beq pc 15) (some (.getfield 9, 3, 4, 0, 2, 342, 0, 0)) none)
        (cond (Nat.blt pc 21)
         (cond (Nat.beq pc 18) (some (.invokevirtual 29, 3, 9, 0, 0, 1140, 0, 0)) none)
         (cond (Nat.beq pc 21) (some (.istore_n 3, 1, 0, 0, 0, 0, 0, 0)) none))))
      (cond (Nat.blt pc 24)
       (cond (Nat.blt pc 23)
        (cond (Nat.beq pc 22) (some (.iload_n 1, 1, 0, 0, 0, 0, 0, 0)) none)
        (cond (Nat.beq pc 23) (some (.iload_n 3, 1, 0, 0, 0, 0, 0, 0)) none))
       (cond (Nat.blt pc 27)
        (cond (Nat.beq pc 24) (some (.invokestatic 51, 3, 50, 0, 0, 1158, 0, 0)) none)
        (cond (Nat.blt pc 28)
         (cond (Nat.beq pc 27) (some (.iadd, 1, 0, 0, 0, 0, 0, 0)) none)
         (cond (Nat.beq pc 28) (some (.istore 4, 2, 0, 0, 0, 0, 0, 0)) none))))))
    (cond (Nat.blt pc 47)
     (cond (Nat.blt pc 38)
      (cond (Nat.blt pc 34)
       (cond (Nat.blt pc 31)
        (cond (Nat.beq pc 30) (some (.iload_n 3, 1, 0, 0, 0, 0, 0, 0)) none)
        (cond (Nat.beq pc 31) (some (.sipush 128, 3, 0, 0, 0, 0, 128, 0)) none))
       (cond (Nat.blt pc 37)
        (cond (Nat.beq pc 34) (some (.if_icmp .ge 7, 3, 41, 0, 0, 0, 0, 0)) none)
        (cond (Nat.beq pc 37) (some (.iconst 1, 1, 0, 0, 0, 0, 1, 0)) none)))
      (cond (Nat.blt pc 43)
       (cond (Nat.blt pc 41)
        (cond (Nat.beq pc 38) (some (.goto 7, 3, 45, 0, 0, 0, 0, 0)) none)
        (cond (Nat.beq pc 41) (some (.iload 4, 2, 0, 0, 0, 0, 0, 0)) none))
       (cond (Nat.blt pc 44)
        (cond (Nat.beq pc 43) (some (.iload_n 1, 1, 0, 0, 0, 0, 0, 0)) none)
        (cond (Nat.blt pc 45)
         (cond (Nat.beq pc 44) (some (.isub, 1, 0, 0, 0, 0, 0, 0)) none)
         (cond (Nat.beq pc 45) (some (.istore 5, 2, 0, 0, 0, 0, 0, 0)) none)))))
     (cond (Nat.blt pc 56)
      (cond (Nat.blt pc 50)
       (cond (Nat.blt pc 49)
        (cond (Nat.beq pc 47) (some (.iload 4, 2, 0, 0, 0, 0, 0, 0)) none)
        (cond (Nat.beq pc 49) (some (.iload_n 1, 1, 0, 0, 0, 0, 0, 0)) none))
       (cond (Nat.blt pc 53)
        (cond (Nat.beq pc 50) (some (.if_icmp .le 21, 3, 71, 0, 0, 0, 0, 0)) none)
        (cond (Nat.blt pc 55)
         (cond (Nat.beq pc 53) (some (.iload 4, 2, 0, 0, 0, 0, 0, 0)) none)
         (cond (Nat.beq pc 55) (some (.iconst 4, 1, 0, 0, 0, 0, 4, 0)) none))))
      (cond (Nat.blt pc 60)
       (cond (Nat.blt pc 59)
        (cond (Nat.beq pc 56) (some (.if_icmp .gt 15, 3, 71, 0, 0, 0, 0, 0)) none)
        (cond (Nat.beq pc 59) (some (.aload_n 0, 1, 0, 0, 0, 0, 0, 0)) none))
       (cond (Nat.blt pc 63)
        (cond (Nat.beq pc 60) (some (.getfield 9, 3, 4, 0, 2, 342, 0, 0)) none)
        (cond (Nat.blt pc 65)
         (cond (Nat.beq pc 63) (some (.iload 5, 2, 0, 0, 0, 0, 0, 0)) none)
         (cond (Nat.beq pc 65) (some (.invokevirtual 25, 3, 8, 0, 0, 1138, 0, 0)) none)))))))
   (cond (Nat.blt pc 105)
    (cond (Nat.blt pc 84)
     (cond (Nat.blt pc 74)
      (cond (Nat.blt pc 72)
       (cond (Nat.blt pc 71)
        (cond (Nat.beq pc 68) (some (.ifCond .ne 5, 3, 73, 0, 0, 0, 0, 0)) none)
        (cond (Nat.beq pc 71) (some (.iconst 0, 1, 0, 0, 0, 0, 0, 0)) none))
       (cond (Nat.blt pc 73)
        (cond (Nat.beq pc 72) (some (.ireturn, 1, 0, 0, 1, 0, 0, 0)) none)
        (cond (Nat.beq pc 73) (some (.iload_n 1, 1, 0, 0, 0, 0, 0, 0)) none)))
      (cond (Nat.blt pc 78)
       (cond (Nat.blt pc 76)
        (cond (Nat.beq pc 74) (some (.istore 6, 2, 0, 0, 0, 0, 0, 0)) none)
        (cond (Nat.beq pc 76) (some (.iload 6, 2, 0, 0, 0, 0, 0, 0)) none))
       (cond (Nat.blt pc 80)
        (cond (Nat.beq pc 78) (some (.iload 4, 2, 0, 0, 0, 0, 0, 0)) none)
        (cond (Nat.blt pc 83)
         (cond (Nat.beq pc 80) (some (.if_icmp .ge 41, 3, 121, 0, 0, 0, 0, 0)) none)
         (cond (Nat.beq pc 83) (some (.aload_n 0, 1, 0, 0, 0, 0, 0, 0)) none)))))
     (cond (Nat.blt pc 94)
      (cond (Nat.blt pc 89)
       (cond (Nat.blt pc 87)
        (cond (Nat.beq pc 84) (some (.getfield 15, 3, 4, 1, 2, 344, 0, 0)) none)
        (cond (Nat.beq pc 87) (some (.iload 6, 2, 0, 0, 0, 0, 0, 0)) none))
       (cond (Nat.blt pc 91)
        (cond (Nat.beq pc 89) (some (.iload 6, 2, 0, 0, 0, 0, 0, 0)) none)
        (cond (Nat.blt pc 92)
         (cond (Nat.beq pc 91) (some (.iload_n 1, 1, 0, 0, 0, 0, 0, 0)) none)
         (cond (Nat.beq pc 92) (some (.iload 5, 2, 0, 0, 0, 0, 0, 0)) none))))
      (cond (Nat.blt pc 98)
       (cond (Nat.blt pc 95)
        (cond (Nat.beq pc 94) (some (.iadd, 1, 0, 0, 0, 0, 0, 0)) none)
        (cond (Nat.beq pc 95) (some (.if_icmp .ge 13, 3, 108, 0, 0, 0, 0, 0)) none))
       (cond (Nat.blt pc 99)
        (cond (Nat.beq pc 98) (some (.aload_n 0, 1, 0, 0, 0, 0, 0, 0)) none)
        (cond (Nat.blt pc 102)
         (cond (Nat.beq pc 99) (some (.getfield 9, 3, 4, 0, 2, 342, 0, 0)) none)
         (cond (Nat.beq pc 102) (some (.invokevirtual 29, 3, 9, 0, 0, 1140, 0, 0)) none))))))
    (cond (Nat.blt pc 123)
     (cond (Nat.blt pc 113)
      (cond (Nat.blt pc 109)
       (cond (Nat.blt pc 108)
        (cond (Nat.beq pc 105) (some (.goto 9, 3, 114, 0, 0, 0, 0, 0)) none)
        (cond (Nat.beq pc 108) (some (.aload_n 0, 1, 0, 0, 0, 0, 0, 0)) none))
       (cond (Nat.blt pc 112)
        (cond (Nat.beq pc 109) (some (.getfield 15, 3, 4, 1, 2, 344, 0, 0)) none)
        (cond (Nat.beq pc 112) (some (.iload_n 1, 1, 0, 0, 0, 0, 0, 0)) none)))
      (cond (Nat.blt pc 115)
       (cond (Nat.blt pc 114)
        (cond (Nat.beq pc 113) (some (.iaload, 1, 0, 0, 0, 0, 0, 0)) none)
        (cond (Nat.beq pc 114) (some (.iastore, 1, 0, 0, 0, 0, 0, 0)) none))
       (cond (Nat.blt pc 118)
        (cond (Nat.beq pc 115) (some (.iinc 6 1, 3, 0, 0, 0, 0, 1, 0)) none)
        (cond (Nat.blt pc 121)
         (cond (Nat.beq pc 118) (some (.goto (-42), 3, 76, 0, 0, 0, 0, 0)) none)
         (cond (Nat.beq pc 121) (some (.iload 4, 2, 0, 0, 0, 0, 0, 0)) none)))))
     (cond (Nat.blt pc 132)
      (cond (Nat.blt pc 127)
       (cond (Nat.blt pc 124)
        (cond (Nat.beq pc 123) (some (.istore_n 1, 1, 0, 0, 0, 0, 0, 0)) none)
        (cond (Nat.beq pc 124) (some (.iinc 2 1, 3, 0, 0, 0, 0, 1, 0)) none))
       (cond (Nat.blt pc 130)
        (cond (Nat.beq pc 127) (some (.goto (-123), 3, 4, 0, 0, 0, 0, 0)) none)
        (cond (Nat.blt pc 131)
         (cond (Nat.beq pc 130) (some (.iload_n 1, 1, 0, 0, 0, 0, 0, 0)) none)
         (cond (Nat.beq pc 131) (some (.iconst 4, 1, 0, 0, 0, 0, 4, 0)) none))))
      (cond (Nat.blt pc 136)
       (cond (Nat.blt pc 135)
        (cond (Nat.beq pc 132) (some (.if_icmp .ne 7, 3, 139, 0, 0, 0, 0, 0)) none)
        (cond (Nat.beq pc 135) (some (.iconst 1, 1, 0, 0, 0, 0, 1, 0)) none))
       (cond (Nat.blt pc 139)
        (cond (Nat.beq pc 136) (some (.goto 4, 3, 140, 0, 0, 0, 0, 0)) none)
        (cond (Nat.blt pc 140)
         (cond (Nat.beq pc 139) (some (.iconst 0, 1, 0, 0, 0, 0, 0, 0)) none)
         (cond (Nat.beq pc 140) (some (.ireturn, 1, 0, 0, 1, 0, 0, 0)) none)))))))) none
-- PrintHouse$PageReader.runLength (I)I
def zc50 (pc : Nat) : Option z_I := cond (Nat.blt pc 32)
  (cond (Nat.blt pc 17)
   (cond (Nat.blt pc 8)
    (cond (Nat.blt pc 4)
     (cond (Nat.blt pc 1)
      (cond (Nat.beq pc 0) (some (.iload_n 0, 1, 0, 0, 0, 0, 0, 0)) none)
      (cond (Nat.beq pc 1) (some (.ifCond .lt 10, 3, 11, 0, 0, 0, 0, 0)) none))
     (cond (Nat.blt pc 5)
      (cond (Nat.beq pc 4) (some (.iload_n 0, 1, 0, 0, 0, 0, 0, 0)) none)
      (cond (Nat.beq pc 5) (some (.sipush 128, 3, 0, 0, 0, 0, 128, 0)) none)))
    (cond (Nat.blt pc 12)
     (cond (Nat.blt pc 11)
      (cond (Nat.beq pc 8) (some (.if_icmp .ne 5, 3, 13, 0, 0, 0, 0, 0)) none)
      (cond (Nat.beq pc 11) (some (.iconst 0, 1, 0, 0, 0, 0, 0, 0)) none))
     (cond (Nat.blt pc 13)
      (cond (Nat.beq pc 12) (some (.ireturn, 1, 0, 0, 0, 0, 0, 0)) none)
      (cond (Nat.blt pc 14)
       (cond (Nat.beq pc 13) (some (.iload_n 0, 1, 0, 0, 0, 0, 0, 0)) none)
       (cond (Nat.beq pc 14) (some (.sipush 128, 3, 0, 0, 0, 0, 128, 0)) none)))))
   (cond (Nat.blt pc 23)
    (cond (Nat.blt pc 21)
     (cond (Nat.blt pc 20)
      (cond (Nat.beq pc 17) (some (.if_icmp .ge 9, 3, 26, 0, 0, 0, 0, 0)) none)
      (cond (Nat.beq pc 20) (some (.iload_n 0, 1, 0, 0, 0, 0, 0, 0)) none))
     (cond (Nat.blt pc 22)
      (cond (Nat.beq pc 21) (some (.iconst 1, 1, 0, 0, 0, 0, 1, 0)) none)
      (cond (Nat.beq pc 22) (some (.iadd, 1, 0, 0, 0, 0, 0, 0)) none)))
    (cond (Nat.blt pc 29)
     (cond (Nat.blt pc 26)
      (cond (Nat.beq pc 23) (some (.goto 8, 3, 31, 0, 0, 0, 0, 0)) none)
      (cond (Nat.beq pc 26) (some (.sipush 257, 3, 0, 0, 0, 0, 257, 0)) none))
     (cond (Nat.blt pc 30)
      (cond (Nat.beq pc 29) (some (.iload_n 0, 1, 0, 0, 0, 0, 0, 0)) none)
      (cond (Nat.blt pc 31)
       (cond (Nat.beq pc 30) (some (.isub, 1, 0, 0, 0, 0, 0, 0)) none)
       (cond (Nat.beq pc 31) (some (.ireturn, 1, 0, 0, 0, 0, 0, 0)) none)))))) none
-- PrintHouse$PageReader.keepRow (LPrintHouse$Job;II)V
def zc51 (pc : Nat) : Option z_I := cond (Nat.blt pc 51)
  (cond (Nat.blt pc 25)
   (cond (Nat.blt pc 13)
    (cond (Nat.blt pc 6)
     (cond (Nat.blt pc 1)
      (cond (Nat.beq pc 0) (some (.aload_n 1, 1, 0, 0, 0, 0, 0, 0)) none)
      (cond (Nat.blt pc 4)
       (cond (Nat.beq pc 1) (some (.getfield 37, 3, 3, 8, 0, 413, 0, 0)) none)
       (cond (Nat.beq pc 4) (some (.bipush 6, 2, 0, 0, 0, 0, 6, 0)) none)))
     (cond (Nat.blt pc 10)
      (cond (Nat.blt pc 9)
       (cond (Nat.beq pc 6) (some (.if_icmp .lt 4, 3, 10, 0, 0, 0, 0, 0)) none)
       (cond (Nat.beq pc 9) (some (.return_, 1, 0, 0, 0, 0, 0, 0)) none))
      (cond (Nat.blt pc 11)
       (cond (Nat.beq pc 10) (some (.iload_n 2, 1, 0, 0, 0, 0, 0, 0)) none)
       (cond (Nat.beq pc 11) (some (.istore 4, 2, 0, 0, 0, 0, 0, 0)) none))))
    (cond (Nat.blt pc 19)
     (cond (Nat.blt pc 15)
      (cond (Nat.beq pc 13) (some (.iload 4, 2, 0, 0, 0, 0, 0, 0)) none)
      (cond (Nat.blt pc 16)
       (cond (Nat.beq pc 15) (some (.iload_n 3, 1, 0, 0, 0, 0, 0, 0)) none)
       (cond (Nat.beq pc 16) (some (.if_icmp .ge 34, 3, 50, 0, 0, 0, 0, 0)) none)))
     (cond (Nat.blt pc 23)
      (cond (Nat.blt pc 20)
       (cond (Nat.beq pc 19) (some (.aload_n 0, 1, 0, 0, 0, 0, 0, 0)) none)
       (cond (Nat.beq pc 20) (some (.getfield 15, 3, 4, 1, 2, 344, 0, 0)) none))
      (cond (Nat.blt pc 24)
       (cond (Nat.beq pc 23) (some (.iconst 0, 1, 0, 0, 0, 0, 0, 0)) none)
       (cond (Nat.beq pc 24) (some (.aload_n 1, 1, 0, 0, 0, 0, 0, 0)) none)))))
   (cond (Nat.blt pc 38)
    (cond (Nat.blt pc 32)
     (cond (Nat.blt pc 28)
      (cond (Nat.beq pc 25) (some (.getfield 55, 3, 3, 0, 2, 371, 0, 0)) none)
      (cond (Nat.blt pc 29)
       (cond (Nat.beq pc 28) (some (.aload_n 1, 1, 0, 0, 0, 0, 0, 0)) none)
       (cond (Nat.beq pc 29) (some (.getfield 37, 3, 3, 8, 0, 413, 0, 0)) none)))
     (cond (Nat.blt pc 35)
      (cond (Nat.blt pc 34)
       (cond (Nat.beq pc 32) (some (.bipush 12, 2, 0, 0, 0, 0, 12, 0)) none)
       (cond (Nat.beq pc 34) (some (.imul, 1, 0, 0, 0, 0, 0, 0)) none))
      (cond (Nat.blt pc 37)
       (cond (Nat.beq pc 35) (some (.iload 4, 2, 0, 0, 0, 0, 0, 0)) none)
       (cond (Nat.beq pc 37) (some (.iconst 4, 1, 0, 0, 0, 0, 4, 0)) none))))
    (cond (Nat.blt pc 41)
     (cond (Nat.blt pc 39)
      (cond (Nat.beq pc 38) (some (.imul, 1, 0, 0, 0, 0, 0, 0)) none)
      (cond (Nat.blt pc 40)
       (cond (Nat.beq pc 39) (some (.iadd, 1, 0, 0, 0, 0, 0, 0)) none)
       (cond (Nat.beq pc 40) (some (.iconst 4, 1, 0, 0, 0, 0, 4, 0)) none)))
     (cond (Nat.blt pc 47)
      (cond (Nat.blt pc 44)
       (cond (Nat.beq pc 41) (some (.invokestatic 58, 3, 0, 0, 1, 586, 0, 0)) none)
       (cond (Nat.beq pc 44) (some (.iinc 4 1, 3, 0, 0, 0, 0, 1, 0)) none))
      (cond (Nat.blt pc 50)
       (cond (Nat.beq pc 47) (some (.goto (-34), 3, 13, 0, 0, 0, 0, 0)) none)
       (cond (Nat.beq pc 50) (some (.return_, 1, 0, 0, 0, 0, 0, 0)) none)))))) none
-- PrintHouse$Press.send (LPrintHouse$Job;)V
def zc52 (pc : Nat) : Option z_I := cond (Nat.blt pc 101)
  (cond (Nat.blt pc 55)
   (cond (Nat.blt pc 26)
    (cond (Nat.blt pc 12)
     (cond (Nat.blt pc 5)
      (cond (Nat.blt pc 1)
       (cond (Nat.beq pc 0) (some (.aload_n 0, 1, 0, 0, 0, 0, 0, 0)) none)
       (cond (Nat.blt pc 2)
        (cond (Nat.beq pc 1) (some (.aload_n 1, 1, 0, 0, 0, 0, 0, 0)) none)
        (cond (Nat.beq pc 2) (some (.invokevirtual 24, 3, 53, 0, 0, 1470, 0, 0)) none)))
      (cond (Nat.blt pc 6)
       (cond (Nat.beq pc 5) (some (.aload_n 0, 1, 0, 0, 0, 0, 0, 0)) none)
       (cond (Nat.blt pc 9)
        (cond (Nat.beq pc 6) (some (.getfield 14, 3, 7, 0, 2, 572, 0, 0)) none)
        (cond (Nat.beq pc 9) (some (.invokevirtual 28, 3, 0, 0, 0, 1494, 0, 0)) none))))
     (cond (Nat.blt pc 18)
      (cond (Nat.blt pc 13)
       (cond (Nat.beq pc 12) (some (.aload_n 0, 1, 0, 0, 0, 0, 0, 0)) none)
       (cond (Nat.blt pc 16)
        (cond (Nat.beq pc 13) (some (.getfield 14, 3, 7, 0, 2, 572, 0, 0)) none)
        (cond (Nat.beq pc 16) (some (.bipush 83, 2, 0, 0, 0, 0, 83, 0)) none)))
      (cond (Nat.blt pc 22)
       (cond (Nat.blt pc 21)
        (cond (Nat.beq pc 18) (some (.invokevirtual 31, 3, 3, 0, 0, 1496, 0, 0)) none)
        (cond (Nat.beq pc 21) (some (.aload_n 0, 1, 0, 0, 0, 0, 0, 0)) none))
       (cond (Nat.blt pc 25)
        (cond (Nat.beq pc 22) (some (.getfield 14, 3, 7, 0, 2, 572, 0, 0)) none)
        (cond (Nat.beq pc 25) (some (.aload_n 0, 1, 0, 0, 0, 0, 0, 0)) none)))))
    (cond (Nat.blt pc 40)
     (cond (Nat.blt pc 33)
      (cond (Nat.blt pc 29)
       (cond (Nat.beq pc 26) (some (.getfield 34, 3, 7, 6, 0, 588, 0, 0)) none)
       (cond (Nat.blt pc 32)
        (cond (Nat.beq pc 29) (some (.invokevirtual 31, 3, 3, 0, 0, 1496, 0, 0)) none)
        (cond (Nat.beq pc 32) (some (.aload_n 0, 1, 0, 0, 0, 0, 0, 0)) none)))
      (cond (Nat.blt pc 36)
       (cond (Nat.beq pc 33) (some (.getfield 14, 3, 7, 0, 2, 572, 0, 0)) none)
       (cond (Nat.blt pc 37)
        (cond (Nat.beq pc 36) (some (.aload_n 0, 1, 0, 0, 0, 0, 0, 0)) none)
        (cond (Nat.beq pc 37) (some (.getfield 38, 3, 7, 7, 0, 590, 0, 0)) none))))
     (cond (Nat.blt pc 47)
      (cond (Nat.blt pc 43)
       (cond (Nat.beq pc 40) (some (.invokevirtual 31, 3, 3, 0, 0, 1496, 0, 0)) none)
       (cond (Nat.blt pc 44)
        (cond (Nat.beq pc 43) (some (.aload_n 0, 1, 0, 0, 0, 0, 0, 0)) none)
        (cond (Nat.beq pc 44) (some (.getfield 14, 3, 7, 0, 2, 572, 0, 0)) none)))
      (cond (Nat.blt pc 51)
       (cond (Nat.blt pc 48)
        (cond (Nat.beq pc 47) (some (.aload_n 1, 1, 0, 0, 0, 0, 0, 0)) none)
        (cond (Nat.beq pc 48) (some (.invokevirtual 41, 3, 26, 0, 0, 1498, 0, 0)) none))
       (cond (Nat.blt pc 54)
        (cond (Nat.beq pc 51) (some (.invokevirtual 31, 3, 3, 0, 0, 1496, 0, 0)) none)
        (cond (Nat.beq pc 54) (some (.iconst 0, 1, 0, 0, 0, 0, 0, 0)) none))))))
   (cond (Nat.blt pc 80)
    (cond (Nat.blt pc 65)
     (cond (Nat.blt pc 58)
      (cond (Nat.blt pc 56)
       (cond (Nat.beq pc 55) (some (.istore_n 2, 1, 0, 0, 0, 0, 0, 0)) none)
       (cond (Nat.blt pc 57)
        (cond (Nat.beq pc 56) (some (.iload_n 2, 1, 0, 0, 0, 0, 0, 0)) none)
        (cond (Nat.beq pc 57) (some (.aload_n 1, 1, 0, 0, 0, 0, 0, 0)) none)))
      (cond (Nat.blt pc 61)
       (cond (Nat.beq pc 58) (some (.invokevirtual 41, 3, 26, 0, 0, 1498, 0, 0)) none)
       (cond (Nat.blt pc 64)
        (cond (Nat.beq pc 61) (some (.if_icmp .ge 19, 3, 80, 0, 0, 0, 0, 0)) none)
        (cond (Nat.beq pc 64) (some (.aload_n 0, 1, 0, 0, 0, 0, 0, 0)) none))))
     (cond (Nat.blt pc 70)
      (cond (Nat.blt pc 66)
       (cond (Nat.beq pc 65) (some (.aload_n 1, 1, 0, 0, 0, 0, 0, 0)) none)
       (cond (Nat.blt pc 67)
        (cond (Nat.beq pc 66) (some (.iload_n 2, 1, 0, 0, 0, 0, 0, 0)) none)
        (cond (Nat.beq pc 67) (some (.invokevirtual 47, 3, 56, 0, 0, 1506, 0, 0)) none)))
      (cond (Nat.blt pc 74)
       (cond (Nat.blt pc 71)
        (cond (Nat.beq pc 70) (some (.aload_n 0, 1, 0, 0, 0, 0, 0, 0)) none)
        (cond (Nat.beq pc 71) (some (.invokevirtual 51, 3, 59, 0, 0, 1578, 0, 0)) none))
       (cond (Nat.blt pc 77)
        (cond (Nat.beq pc 74) (some (.iinc 2 1, 3, 0, 0, 0, 0, 1, 0)) none)
        (cond (Nat.beq pc 77) (some (.goto (-21), 3, 56, 0, 0, 0, 0, 0)) none)))))
    (cond (Nat.blt pc 90)
     (cond (Nat.blt pc 85)
      (cond (Nat.blt pc 81)
       (cond (Nat.beq pc 80) (some (.aload_n 1, 1, 0, 0, 0, 0, 0, 0)) none)
       (cond (Nat.blt pc 82)
        (cond (Nat.beq pc 81) (some (.dup, 1, 0, 0, 0, 0, 0, 0)) none)
        (cond (Nat.beq pc 82) (some (.getfield 54, 3, 3, 9, 0, 419, 0, 0)) none)))
      (cond (Nat.blt pc 86)
       (cond (Nat.beq pc 85) (some (.iconst 1, 1, 0, 0, 0, 0, 1, 0)) none)
       (cond (Nat.blt pc 87)
        (cond (Nat.beq pc 86) (some (.iadd, 1, 0, 0, 0, 0, 0, 0)) none)
        (cond (Nat.beq pc 87) (some (.putfield 54, 3, 3, 9, 0, 419, 0, 0)) none))))
     (cond (Nat.blt pc 95)
      (cond (Nat.blt pc 91)
       (cond (Nat.beq pc 90) (some (.aload_n 0, 1, 0, 0, 0, 0, 0, 0)) none)
       (cond (Nat.blt pc 92)
        (cond (Nat.beq pc 91) (some (.dup, 1, 0, 0, 0, 0, 0, 0)) none)
        (cond (Nat.beq pc 92) (some (.getfield 57, 3, 7, 2, 0, 578, 0, 0)) none)))
      (cond (Nat.blt pc 97)
       (cond (Nat.blt pc 96)
        (cond (Nat.beq pc 95) (some (.iconst 1, 1, 0, 0, 0, 0, 1, 0)) none)
        (cond (Nat.beq pc 96) (some (.iadd, 1, 0, 0, 0, 0, 0, 0)) none))
       (cond (Nat.blt pc 100)
        (cond (Nat.beq pc 97) (some (.putfield 57, 3, 7, 2, 0, 578, 0, 0)) none)
        (cond (Nat.beq pc 100) (some (.return_, 1, 0, 0, 0, 0, 0, 0)) none))))))) none
-- PrintHouse$Press.layOut (LPrintHouse$Job;)V
def zc53 (pc : Nat) : Option z_I := cond (Nat.blt pc 93)
  (cond (Nat.blt pc 46)
   (cond (Nat.blt pc 22)
    (cond (Nat.blt pc 10)
     (cond (Nat.blt pc 5)
      (cond (Nat.blt pc 1)
       (cond (Nat.beq pc 0) (some (.aload_n 0, 1, 0, 0, 0, 0, 0, 0)) none)
       (cond (Nat.blt pc 2)
        (cond (Nat.beq pc 1) (some (.aload_n 1, 1, 0, 0, 0, 0, 0, 0)) none)
        (cond (Nat.beq pc 2) (some (.getfield 60, 3, 3, 7, 0, 407, 0, 0)) none)))
      (cond (Nat.blt pc 6)
       (cond (Nat.beq pc 5) (some (.iconst 1, 1, 0, 0, 0, 0, 1, 0)) none)
       (cond (Nat.blt pc 9)
        (cond (Nat.beq pc 6) (some (.if_icmp .eq 11, 3, 17, 0, 0, 0, 0, 0)) none)
        (cond (Nat.beq pc 9) (some (.aload_n 1, 1, 0, 0, 0, 0, 0, 0)) none))))
     (cond (Nat.blt pc 17)
      (cond (Nat.blt pc 13)
       (cond (Nat.beq pc 10) (some (.getfield 63, 3, 3, 5, 0, 397, 0, 0)) none)
       (cond (Nat.blt pc 14)
        (cond (Nat.beq pc 13) (some (.iconst 2, 1, 0, 0, 0, 0, 2, 0)) none)
        (cond (Nat.beq pc 14) (some (.if_icmp .ne 7, 3, 21, 0, 0, 0, 0, 0)) none)))
      (cond (Nat.blt pc 18)
       (cond (Nat.beq pc 17) (some (.iconst 1, 1, 0, 0, 0, 0, 1, 0)) none)
       (cond (Nat.blt pc 21)
        (cond (Nat.beq pc 18) (some (.goto 4, 3, 22, 0, 0, 0, 0, 0)) none)
        (cond (Nat.beq pc 21) (some (.iconst 0, 1, 0, 0, 0, 0, 0, 0)) none)))))
    (cond (Nat.blt pc 34)
     (cond (Nat.blt pc 27)
      (cond (Nat.blt pc 25)
       (cond (Nat.beq pc 22) (some (.putfield 66, 3, 7, 3, 1, 582, 0, 0)) none)
       (cond (Nat.blt pc 26)
        (cond (Nat.beq pc 25) (some (.aload_n 0, 1, 0, 0, 0, 0, 0, 0)) none)
        (cond (Nat.beq pc 26) (some (.aload_n 0, 1, 0, 0, 0, 0, 0, 0)) none)))
      (cond (Nat.blt pc 30)
       (cond (Nat.beq pc 27) (some (.getfield 66, 3, 7, 3, 1, 582, 0, 0)) none)
       (cond (Nat.blt pc 33)
        (cond (Nat.beq pc 30) (some (.ifCond .ne 11, 3, 41, 0, 0, 0, 0, 0)) none)
        (cond (Nat.beq pc 33) (some (.aload_n 1, 1, 0, 0, 0, 0, 0, 0)) none))))
     (cond (Nat.blt pc 41)
      (cond (Nat.blt pc 37)
       (cond (Nat.beq pc 34) (some (.getfield 63, 3, 3, 5, 0, 397, 0, 0)) none)
       (cond (Nat.blt pc 38)
        (cond (Nat.beq pc 37) (some (.iconst 4, 1, 0, 0, 0, 0, 4, 0)) none)
        (cond (Nat.beq pc 38) (some (.if_icmp .ne 7, 3, 45, 0, 0, 0, 0, 0)) none)))
      (cond (Nat.blt pc 42)
       (cond (Nat.beq pc 41) (some (.iconst 2, 1, 0, 0, 0, 0, 2, 0)) none)
       (cond (Nat.blt pc 45)
        (cond (Nat.beq pc 42) (some (.goto 4, 3, 46, 0, 0, 0, 0, 0)) none)
        (cond (Nat.beq pc 45) (some (.iconst 1, 1, 0, 0, 0, 0, 1, 0)) none))))))
   (cond (Nat.blt pc 68)
    (cond (Nat.blt pc 58)
     (cond (Nat.blt pc 51)
      (cond (Nat.blt pc 49)
       (cond (Nat.beq pc 46) (some (.putfield 70, 3, 7, 4, 0, 584, 0, 0)) none)
       (cond (Nat.blt pc 50)
        (cond (Nat.beq pc 49) (some (.aload_n 0, 1, 0, 0, 0, 0, 0, 0)) none)
        (cond (Nat.beq pc 50) (some (.aload_n 1, 1, 0, 0, 0, 0, 0, 0)) none)))
      (cond (Nat.blt pc 54)
       (cond (Nat.beq pc 51) (some (.getfield 63, 3, 3, 5, 0, 397, 0, 0)) none)
       (cond (Nat.blt pc 55)
        (cond (Nat.beq pc 54) (some (.iconst 4, 1, 0, 0, 0, 0, 4, 0)) none)
        (cond (Nat.beq pc 55) (some (.if_icmp .ne 7, 3, 62, 0, 0, 0, 0, 0)) none))))
     (cond (Nat.blt pc 63)
      (cond (Nat.blt pc 59)
       (cond (Nat.beq pc 58) (some (.iconst 2, 1, 0, 0, 0, 0, 2, 0)) none)
       (cond (Nat.blt pc 62)
        (cond (Nat.beq pc 59) (some (.goto 4, 3, 63, 0, 0, 0, 0, 0)) none)
        (cond (Nat.beq pc 62) (some (.iconst 1, 1, 0, 0, 0, 0, 1, 0)) none)))
      (cond (Nat.blt pc 66)
       (cond (Nat.beq pc 63) (some (.putfield 73, 3, 7, 5, 0, 586, 0, 0)) none)
       (cond (Nat.blt pc 67)
        (cond (Nat.beq pc 66) (some (.aload_n 0, 1, 0, 0, 0, 0, 0, 0)) none)
        (cond (Nat.beq pc 67) (some (.aload_n 0, 1, 0, 0, 0, 0, 0, 0)) none)))))
    (cond (Nat.blt pc 80)
     (cond (Nat.blt pc 75)
      (cond (Nat.blt pc 71)
       (cond (Nat.beq pc 68) (some (.getfield 70, 3, 7, 4, 0, 584, 0, 0)) none)
       (cond (Nat.blt pc 72)
        (cond (Nat.beq pc 71) (some (.aload_n 0, 1, 0, 0, 0, 0, 0, 0)) none)
        (cond (Nat.beq pc 72) (some (.invokevirtual 76, 3, 54, 0, 0, 1478, 0, 0)) none)))
      (cond (Nat.blt pc 76)
       (cond (Nat.beq pc 75) (some (.imul, 1, 0, 0, 0, 0, 0, 0)) none)
       (cond (Nat.blt pc 79)
        (cond (Nat.beq pc 76) (some (.putfield 34, 3, 7, 6, 0, 588, 0, 0)) none)
        (cond (Nat.beq pc 79) (some (.aload_n 0, 1, 0, 0, 0, 0, 0, 0)) none))))
     (cond (Nat.blt pc 85)
      (cond (Nat.blt pc 81)
       (cond (Nat.beq pc 80) (some (.aload_n 0, 1, 0, 0, 0, 0, 0, 0)) none)
       (cond (Nat.blt pc 84)
        (cond (Nat.beq pc 81) (some (.getfield 73, 3, 7, 5, 0, 586, 0, 0)) none)
        (cond (Nat.beq pc 84) (some (.aload_n 0, 1, 0, 0, 0, 0, 0, 0)) none)))
      (cond (Nat.blt pc 89)
       (cond (Nat.blt pc 88)
        (cond (Nat.beq pc 85) (some (.invokevirtual 79, 3, 55, 0, 0, 1486, 0, 0)) none)
        (cond (Nat.beq pc 88) (some (.imul, 1, 0, 0, 0, 0, 0, 0)) none))
       (cond (Nat.blt pc 92)
        (cond (Nat.beq pc 89) (some (.putfield 38, 3, 7, 7, 0, 590, 0, 0)) none)
        (cond (Nat.beq pc 92) (some (.return_, 1, 0, 0, 0, 0, 0, 0)) none))))))) none
-- PrintHouse$Press.cellWidth ()I
def zc54 (pc : Nat) : Option z_I := cond (Nat.blt pc 13)
  (cond (Nat.blt pc 7)
   (cond (Nat.blt pc 1)
    (cond (Nat.beq pc 0) (some (.aload_n 0, 1, 0, 0, 0, 0, 0, 0)) none)
    (cond (Nat.blt pc 4)
     (cond (Nat.beq pc 1) (some (.getfield 66, 3, 7, 3, 1, 582, 0, 0)) none)
     (cond (Nat.beq pc 4) (some (.ifCond .eq 7, 3, 11, 0, 0, 0, 0, 0)) none)))
   (cond (Nat.blt pc 11)
    (cond (Nat.blt pc 8)
     (cond (Nat.beq pc 7) (some (.iconst 3, 1, 0, 0, 0, 0, 3, 0)) none)
     (cond (Nat.beq pc 8) (some (.goto 4, 3, 12, 0, 0, 0, 0, 0)) none))
    (cond (Nat.blt pc 12)
     (cond (Nat.beq pc 11) (some (.iconst 4, 1, 0, 0, 0, 0, 4, 0)) none)
     (cond (Nat.beq pc 12) (some (.ireturn, 1, 0, 0, 0, 0, 0, 0)) none)))) none
-- PrintHouse$Press.cellHeight ()I
def zc55 (pc : Nat) : Option z_I := cond (Nat.blt pc 13)
  (cond (Nat.blt pc 7)
   (cond (Nat.blt pc 1)
    (cond (Nat.beq pc 0) (some (.aload_n 0, 1, 0, 0, 0, 0, 0, 0)) none)
    (cond (Nat.blt pc 4)
     (cond (Nat.beq pc 1) (some (.getfield 66, 3, 7, 3, 1, 582, 0, 0)) none)
     (cond (Nat.beq pc 4) (some (.ifCond .eq 7, 3, 11, 0, 0, 0, 0, 0)) none)))
   (cond (Nat.blt pc 11)
    (cond (Nat.blt pc 8)
     (cond (Nat.beq pc 7) (some (.iconst 4, 1, 0, 0, 0, 0, 4, 0)) none)
     (cond (Nat.beq pc 8) (some (.goto 4, 3, 12, 0, 0, 0, 0, 0)) none))
    (cond (Nat.blt pc 12)
     (cond (Nat.beq pc 11) (some (.iconst 3, 1, 0, 0, 0, 0, 3, 0)) none)
     (cond (Nat.beq pc 12) (some (.ireturn, 1, 0, 0, 0, 0, 0, 0)) none)))) none
-- PrintHouse$Press.fillSide (LPrintHouse$Job;I)V
def zc56 (pc : Nat) : Option z_I := cond (Nat.blt pc 91)
  (cond (Nat.blt pc 40)
   (cond (Nat.blt pc 20)
    (cond (Nat.blt pc 8)
     (cond (Nat.blt pc 4)
      (cond (Nat.blt pc 1)
       (cond (Nat.beq pc 0) (some (.aload_n 1, 1, 0, 0, 0, 0, 0, 0)) none)
       (cond (Nat.beq pc 1) (some (.invokevirtual 82, 3, 30, 0, 0, 1514, 0, 0)) none))
      (cond (Nat.blt pc 5)
       (cond (Nat.beq pc 4) (some (.istore_n 3, 1, 0, 0, 0, 0, 0, 0)) none)
       (cond (Nat.blt pc 6)
        (cond (Nat.beq pc 5) (some (.iconst 0, 1, 0, 0, 0, 0, 0, 0)) none)
        (cond (Nat.beq pc 6) (some (.istore 4, 2, 0, 0, 0, 0, 0, 0)) none))))
     (cond (Nat.blt pc 14)
      (cond (Nat.blt pc 10)
       (cond (Nat.beq pc 8) (some (.iload 4, 2, 0, 0, 0, 0, 0, 0)) none)
       (cond (Nat.blt pc 11)
        (cond (Nat.beq pc 10) (some (.aload_n 0, 1, 0, 0, 0, 0, 0, 0)) none)
        (cond (Nat.beq pc 11) (some (.getfield 73, 3, 7, 5, 0, 586, 0, 0)) none)))
      (cond (Nat.blt pc 17)
       (cond (Nat.beq pc 14) (some (.if_icmp .ge 52, 3, 66, 0, 0, 0, 0, 0)) none)
       (cond (Nat.blt pc 18)
        (cond (Nat.beq pc 17) (some (.iconst 0, 1, 0, 0, 0, 0, 0, 0)) none)
        (cond (Nat.beq pc 18) (some (.istore 5, 2, 0, 0, 0, 0, 0, 0)) none)))))
    (cond (Nat.blt pc 31)
     (cond (Nat.blt pc 26)
      (cond (Nat.blt pc 22)
       (cond (Nat.beq pc 20) (some (.iload 5, 2, 0, 0, 0, 0, 0, 0)) none)
       (cond (Nat.blt pc 23)
        (cond (Nat.beq pc 22) (some (.aload_n 0, 1, 0, 0, 0, 0, 0, 0)) none)
        (cond (Nat.beq pc 23) (some (.getfield 70, 3, 7, 4, 0, 584, 0, 0)) none)))
      (cond (Nat.blt pc 29)
       (cond (Nat.beq pc 26) (some (.if_icmp .ge 34, 3, 60, 0, 0, 0, 0, 0)) none)
       (cond (Nat.blt pc 30)
        (cond (Nat.beq pc 29) (some (.aload_n 0, 1, 0, 0, 0, 0, 0, 0)) none)
        (cond (Nat.beq pc 30) (some (.aload_n 1, 1, 0, 0, 0, 0, 0, 0)) none))))
     (cond (Nat.blt pc 34)
      (cond (Nat.blt pc 32)
       (cond (Nat.beq pc 31) (some (.aload_n 1, 1, 0, 0, 0, 0, 0, 0)) none)
       (cond (Nat.blt pc 33)
        (cond (Nat.beq pc 32) (some (.iload_n 3, 1, 0, 0, 0, 0, 0, 0)) none)
        (cond (Nat.beq pc 33) (some (.iload_n 2, 1, 0, 0, 0, 0, 0, 0)) none)))
      (cond (Nat.blt pc 36)
       (cond (Nat.beq pc 34) (some (.iload 4, 2, 0, 0, 0, 0, 0, 0)) none)
       (cond (Nat.blt pc 37)
        (cond (Nat.beq pc 36) (some (.aload_n 0, 1, 0, 0, 0, 0, 0, 0)) none)
        (cond (Nat.beq pc 37) (some (.getfield 70, 3, 7, 4, 0, 584, 0, 0)) none))))))
   (cond (Nat.blt pc 67)
    (cond (Nat.blt pc 51)
     (cond (Nat.blt pc 44)
      (cond (Nat.blt pc 41)
       (cond (Nat.beq pc 40) (some (.imul, 1, 0, 0, 0, 0, 0, 0)) none)
       (cond (Nat.blt pc 43)
        (cond (Nat.beq pc 41) (some (.iload 5, 2, 0, 0, 0, 0, 0, 0)) none)
        (cond (Nat.beq pc 43) (some (.iadd, 1, 0, 0, 0, 0, 0, 0)) none)))
      (cond (Nat.blt pc 47)
       (cond (Nat.beq pc 44) (some (.invokevirtual 85, 3, 31, 0, 0, 1538, 0, 0)) none)
       (cond (Nat.blt pc 49)
        (cond (Nat.beq pc 47) (some (.iload 5, 2, 0, 0, 0, 0, 0, 0)) none)
        (cond (Nat.beq pc 49) (some (.iload 4, 2, 0, 0, 0, 0, 0, 0)) none))))
     (cond (Nat.blt pc 60)
      (cond (Nat.blt pc 54)
       (cond (Nat.beq pc 51) (some (.invokevirtual 89, 3, 57, 0, 0, 1546, 0, 0)) none)
       (cond (Nat.blt pc 57)
        (cond (Nat.beq pc 54) (some (.iinc 5 1, 3, 0, 0, 0, 0, 1, 0)) none)
        (cond (Nat.beq pc 57) (some (.goto (-37), 3, 20, 0, 0, 0, 0, 0)) none)))
      (cond (Nat.blt pc 63)
       (cond (Nat.beq pc 60) (some (.iinc 4 1, 3, 0, 0, 0, 0, 1, 0)) none)
       (cond (Nat.blt pc 66)
        (cond (Nat.beq pc 63) (some (.goto (-55), 3, 8, 0, 0, 0, 0, 0)) none)
        (cond (Nat.beq pc 66) (some (.iload_n 2, 1, 0, 0, 0, 0, 0, 0)) none)))))
    (cond (Nat.blt pc 79)
     (cond (Nat.blt pc 72)
      (cond (Nat.blt pc 68)
       (cond (Nat.beq pc 67) (some (.iconst 1, 1, 0, 0, 0, 0, 1, 0)) none)
       (cond (Nat.blt pc 71)
        (cond (Nat.beq pc 68) (some (.if_icmp .ne 22, 3, 90, 0, 0, 0, 0, 0)) none)
        (cond (Nat.beq pc 71) (some (.aload_n 1, 1, 0, 0, 0, 0, 0, 0)) none)))
      (cond (Nat.blt pc 75)
       (cond (Nat.beq pc 72) (some (.getfield 60, 3, 3, 7, 0, 407, 0, 0)) none)
       (cond (Nat.blt pc 78)
        (cond (Nat.beq pc 75) (some (.ifCond .ne 15, 3, 90, 0, 0, 0, 0, 0)) none)
        (cond (Nat.beq pc 78) (some (.aload_n 1, 1, 0, 0, 0, 0, 0, 0)) none))))
     (cond (Nat.blt pc 86)
      (cond (Nat.blt pc 82)
       (cond (Nat.beq pc 79) (some (.getfield 93, 3, 3, 6, 0, 403, 0, 0)) none)
       (cond (Nat.blt pc 83)
        (cond (Nat.beq pc 82) (some (.iconst 2, 1, 0, 0, 0, 0, 2, 0)) none)
        (cond (Nat.beq pc 83) (some (.if_icmp .ne 7, 3, 90, 0, 0, 0, 0, 0)) none)))
      (cond (Nat.blt pc 87)
       (cond (Nat.beq pc 86) (some (.aload_n 0, 1, 0, 0, 0, 0, 0, 0)) none)
       (cond (Nat.blt pc 90)
        (cond (Nat.beq pc 87) (some (.invokevirtual 96, 3, 58, 0, 0, 1570, 0, 0)) none)
        (cond (Nat.beq pc 90) (some (.return_, 1, 0, 0, 0, 0, 0, 0)) none))))))) none
-- PrintHouse$Press.fillCell (LPrintHouse$Job;III)V
def zc57 (pc : Nat) : Option z_I := cond (Nat.blt pc 106)
  (cond (Nat.blt pc 51)
   (cond (Nat.blt pc 22)
    (cond (Nat.blt pc 12)
     (cond (Nat.blt pc 6)
      (cond (Nat.blt pc 2)
       (cond (Nat.beq pc 0) (some (.iload 4, 2, 0, 0, 0, 0, 0, 0)) none)
       (cond (Nat.blt pc 3)
        (cond (Nat.beq pc 2) (some (.aload_n 0, 1, 0, 0, 0, 0, 0, 0)) none)
        (cond (Nat.beq pc 3) (some (.invokevirtual 79, 3, 55, 0, 0, 1486, 0, 0)) none)))
      (cond (Nat.blt pc 8)
       (cond (Nat.blt pc 7)
        (cond (Nat.beq pc 6) (some (.imul, 1, 0, 0, 0, 0, 0, 0)) none)
        (cond (Nat.beq pc 7) (some (.aload_n 0, 1, 0, 0, 0, 0, 0, 0)) none))
       (cond (Nat.blt pc 11)
        (cond (Nat.beq pc 8) (some (.getfield 34, 3, 7, 6, 0, 588, 0, 0)) none)
        (cond (Nat.beq pc 11) (some (.imul, 1, 0, 0, 0, 0, 0, 0)) none))))
     (cond (Nat.blt pc 17)
      (cond (Nat.blt pc 13)
       (cond (Nat.beq pc 12) (some (.iload_n 3, 1, 0, 0, 0, 0, 0, 0)) none)
       (cond (Nat.blt pc 14)
        (cond (Nat.beq pc 13) (some (.aload_n 0, 1, 0, 0, 0, 0, 0, 0)) none)
        (cond (Nat.beq pc 14) (some (.invokevirtual 76, 3, 54, 0, 0, 1478, 0, 0)) none)))
      (cond (Nat.blt pc 19)
       (cond (Nat.blt pc 18)
        (cond (Nat.beq pc 17) (some (.imul, 1, 0, 0, 0, 0, 0, 0)) none)
        (cond (Nat.beq pc 18) (some (.iadd, 1, 0, 0, 0, 0, 0, 0)) none))
       (cond (Nat.blt pc 21)
        (cond (Nat.beq pc 19) (some (.istore 5, 2, 0, 0, 0, 0, 0, 0)) none)
        (cond (Nat.beq pc 21) (some (.iconst 0, 1, 0, 0, 0, 0, 0, 0)) none)))))
    (cond (Nat.blt pc 36)
     (cond (Nat.blt pc 27)
      (cond (Nat.blt pc 24)
       (cond (Nat.beq pc 22) (some (.istore 6, 2, 0, 0, 0, 0, 0, 0)) none)
       (cond (Nat.blt pc 26)
        (cond (Nat.beq pc 24) (some (.iload 6, 2, 0, 0, 0, 0, 0, 0)) none)
        (cond (Nat.beq pc 26) (some (.aload_n 0, 1, 0, 0, 0, 0, 0, 0)) none)))
      (cond (Nat.blt pc 33)
       (cond (Nat.blt pc 30)
        (cond (Nat.beq pc 27) (some (.invokevirtual 79, 3, 55, 0, 0, 1486, 0, 0)) none)
        (cond (Nat.beq pc 30) (some (.if_icmp .ge 75, 3, 105, 0, 0, 0, 0, 0)) none))
       (cond (Nat.blt pc 34)
        (cond (Nat.beq pc 33) (some (.iconst 0, 1, 0, 0, 0, 0, 0, 0)) none)
        (cond (Nat.beq pc 34) (some (.istore 7, 2, 0, 0, 0, 0, 0, 0)) none))))
     (cond (Nat.blt pc 42)
      (cond (Nat.blt pc 38)
       (cond (Nat.beq pc 36) (some (.iload 7, 2, 0, 0, 0, 0, 0, 0)) none)
       (cond (Nat.blt pc 39)
        (cond (Nat.beq pc 38) (some (.aload_n 0, 1, 0, 0, 0, 0, 0, 0)) none)
        (cond (Nat.beq pc 39) (some (.invokevirtual 76, 3, 54, 0, 0, 1478, 0, 0)) none)))
      (cond (Nat.blt pc 46)
       (cond (Nat.blt pc 45)
        (cond (Nat.beq pc 42) (some (.if_icmp .ge 57, 3, 99, 0, 0, 0, 0, 0)) none)
        (cond (Nat.beq pc 45) (some (.aload_n 0, 1, 0, 0, 0, 0, 0, 0)) none))
       (cond (Nat.blt pc 49)
        (cond (Nat.beq pc 46) (some (.getfield 20, 3, 7, 1, 2, 576, 0, 0)) none)
        (cond (Nat.beq pc 49) (some (.iload 5, 2, 0, 0, 0, 0, 0, 0)) none))))))
   (cond (Nat.blt pc 74)
    (cond (Nat.blt pc 62)
     (cond (Nat.blt pc 57)
      (cond (Nat.blt pc 53)
       (cond (Nat.beq pc 51) (some (.iload 6, 2, 0, 0, 0, 0, 0, 0)) none)
       (cond (Nat.blt pc 54)
        (cond (Nat.beq pc 53) (some (.aload_n 0, 1, 0, 0, 0, 0, 0, 0)) none)
        (cond (Nat.beq pc 54) (some (.getfield 34, 3, 7, 6, 0, 588, 0, 0)) none)))
      (cond (Nat.blt pc 59)
       (cond (Nat.blt pc 58)
        (cond (Nat.beq pc 57) (some (.imul, 1, 0, 0, 0, 0, 0, 0)) none)
        (cond (Nat.beq pc 58) (some (.iadd, 1, 0, 0, 0, 0, 0, 0)) none))
       (cond (Nat.blt pc 61)
        (cond (Nat.beq pc 59) (some (.iload 7, 2, 0, 0, 0, 0, 0, 0)) none)
        (cond (Nat.beq pc 61) (some (.iadd, 1, 0, 0, 0, 0, 0, 0)) none))))
     (cond (Nat.blt pc 69)
      (cond (Nat.blt pc 63)
       (cond (Nat.beq pc 62) (some (.aload_n 0, 1, 0, 0, 0, 0, 0, 0)) none)
       (cond (Nat.blt pc 66)
        (cond (Nat.beq pc 63) (some (.getfield 66, 3, 7, 3, 1, 582, 0, 0)) none)
        (cond (Nat.beq pc 66) (some (.ifCond .eq 17, 3, 83, 0, 0, 0, 0, 0)) none)))
      (cond (Nat.blt pc 71)
       (cond (Nat.blt pc 70)
        (cond (Nat.beq pc 69) (some (.aload_n 1, 1, 0, 0, 0, 0, 0, 0)) none)
        (cond (Nat.beq pc 70) (some (.iload_n 2, 1, 0, 0, 0, 0, 0, 0)) none))
       (cond (Nat.blt pc 72)
        (cond (Nat.beq pc 71) (some (.iconst 2, 1, 0, 0, 0, 0, 2, 0)) none)
        (cond (Nat.beq pc 72) (some (.iload 7, 2, 0, 0, 0, 0, 0, 0)) none)))))
    (cond (Nat.blt pc 87)
     (cond (Nat.blt pc 80)
      (cond (Nat.blt pc 75)
       (cond (Nat.beq pc 74) (some (.isub, 1, 0, 0, 0, 0, 0, 0)) none)
       (cond (Nat.blt pc 77)
        (cond (Nat.beq pc 75) (some (.iload 6, 2, 0, 0, 0, 0, 0, 0)) none)
        (cond (Nat.beq pc 77) (some (.invokevirtual 99, 3, 25, 0, 0, 1554, 0, 0)) none)))
      (cond (Nat.blt pc 84)
       (cond (Nat.blt pc 83)
        (cond (Nat.beq pc 80) (some (.goto 12, 3, 92, 0, 0, 0, 0, 0)) none)
        (cond (Nat.beq pc 83) (some (.aload_n 1, 1, 0, 0, 0, 0, 0, 0)) none))
       (cond (Nat.blt pc 85)
        (cond (Nat.beq pc 84) (some (.iload_n 2, 1, 0, 0, 0, 0, 0, 0)) none)
        (cond (Nat.beq pc 85) (some (.iload 6, 2, 0, 0, 0, 0, 0, 0)) none))))
     (cond (Nat.blt pc 96)
      (cond (Nat.blt pc 92)
       (cond (Nat.blt pc 89)
        (cond (Nat.beq pc 87) (some (.iload 7, 2, 0, 0, 0, 0, 0, 0)) none)
        (cond (Nat.beq pc 89) (some (.invokevirtual 99, 3, 25, 0, 0, 1554, 0, 0)) none))
       (cond (Nat.blt pc 93)
        (cond (Nat.beq pc 92) (some (.iastore, 1, 0, 0, 0, 0, 0, 0)) none)
        (cond (Nat.beq pc 93) (some (.iinc 7 1, 3, 0, 0, 0, 0, 1, 0)) none)))
      (cond (Nat.blt pc 102)
       (cond (Nat.blt pc 99)
        (cond (Nat.beq pc 96) (some (.goto (-60), 3, 36, 0, 0, 0, 0, 0)) none)
        (cond (Nat.beq pc 99) (some (.iinc 6 1, 3, 0, 0, 0, 0, 1, 0)) none))
       (cond (Nat.blt pc 105)
        (cond (Nat.beq pc 102) (some (.goto (-78), 3, 24, 0, 0, 0, 0, 0)) none)
        (cond (Nat.beq pc 105) (some (.return_, 1, 0, 0, 0, 0, 0, 0)) none))))))) none
-- PrintHouse$Press.turnSideByHalf ()V
def zc58 (pc : Nat) : Option z_I := cond (Nat.blt pc 70)
  (cond (Nat.blt pc 35)
   (cond (Nat.blt pc 17)
    (cond (Nat.blt pc 9)
     (cond (Nat.blt pc 4)
      (cond (Nat.blt pc 1)
       (cond (Nat.beq pc 0) (some (.aload_n 0, 1, 0, 0, 0, 0, 0, 0)) none)
       (cond (Nat.beq pc 1) (some (.getfield 34, 3, 7, 6, 0, 588, 0, 0)) none))
      (cond (Nat.blt pc 5)
       (cond (Nat.beq pc 4) (some (.aload_n 0, 1, 0, 0, 0, 0, 0, 0)) none)
       (cond (Nat.blt pc 8)
        (cond (Nat.beq pc 5) (some (.getfield 38, 3, 7, 7, 0, 590, 0, 0)) none)
        (cond (Nat.beq pc 8) (some (.imul, 1, 0, 0, 0, 0, 0, 0)) none))))
     (cond (Nat.blt pc 12)
      (cond (Nat.blt pc 10)
       (cond (Nat.beq pc 9) (some (.iconst 1, 1, 0, 0, 0, 0, 1, 0)) none)
       (cond (Nat.blt pc 11)
        (cond (Nat.beq pc 10) (some (.isub, 1, 0, 0, 0, 0, 0, 0)) none)
        (cond (Nat.beq pc 11) (some (.istore_n 1, 1, 0, 0, 0, 0, 0, 0)) none)))
      (cond (Nat.blt pc 13)
       (cond (Nat.beq pc 12) (some (.aload_n 0, 1, 0, 0, 0, 0, 0, 0)) none)
       (cond (Nat.blt pc 16)
        (cond (Nat.beq pc 13) (some (.getfield 34, 3, 7, 6, 0, 588, 0, 0)) none)
        (cond (Nat.beq pc 16) (some (.aload_n 0, 1, 0, 0, 0, 0, 0, 0)) none)))))
    (cond (Nat.blt pc 25)
     (cond (Nat.blt pc 22)
      (cond (Nat.blt pc 20)
       (cond (Nat.beq pc 17) (some (.getfield 38, 3, 7, 7, 0, 590, 0, 0)) none)
       (cond (Nat.blt pc 21)
        (cond (Nat.beq pc 20) (some (.imul, 1, 0, 0, 0, 0, 0, 0)) none)
        (cond (Nat.beq pc 21) (some (.iconst 2, 1, 0, 0, 0, 0, 2, 0)) none)))
      (cond (Nat.blt pc 23)
       (cond (Nat.beq pc 22) (some (.idiv, 1, 0, 0, 0, 0, 0, 0)) none)
       (cond (Nat.blt pc 24)
        (cond (Nat.beq pc 23) (some (.istore_n 2, 1, 0, 0, 0, 0, 0, 0)) none)
        (cond (Nat.beq pc 24) (some (.iconst 0, 1, 0, 0, 0, 0, 0, 0)) none))))
     (cond (Nat.blt pc 28)
      (cond (Nat.blt pc 26)
       (cond (Nat.beq pc 25) (some (.istore_n 3, 1, 0, 0, 0, 0, 0, 0)) none)
       (cond (Nat.blt pc 27)
        (cond (Nat.beq pc 26) (some (.iload_n 3, 1, 0, 0, 0, 0, 0, 0)) none)
        (cond (Nat.beq pc 27) (some (.iload_n 2, 1, 0, 0, 0, 0, 0, 0)) none)))
      (cond (Nat.blt pc 31)
       (cond (Nat.beq pc 28) (some (.if_icmp .ge 41, 3, 69, 0, 0, 0, 0, 0)) none)
       (cond (Nat.blt pc 32)
        (cond (Nat.beq pc 31) (some (.aload_n 0, 1, 0, 0, 0, 0, 0, 0)) none)
        (cond (Nat.beq pc 32) (some (.getfield 20, 3, 7, 1, 2, 576, 0, 0)) none))))))
   (cond (Nat.blt pc 51)
    (cond (Nat.blt pc 43)
     (cond (Nat.blt pc 37)
      (cond (Nat.blt pc 36)
       (cond (Nat.beq pc 35) (some (.iload_n 3, 1, 0, 0, 0, 0, 0, 0)) none)
       (cond (Nat.beq pc 36) (some (.iaload, 1, 0, 0, 0, 0, 0, 0)) none))
      (cond (Nat.blt pc 39)
       (cond (Nat.beq pc 37) (some (.istore 4, 2, 0, 0, 0, 0, 0, 0)) none)
       (cond (Nat.blt pc 40)
        (cond (Nat.beq pc 39) (some (.aload_n 0, 1, 0, 0, 0, 0, 0, 0)) none)
        (cond (Nat.beq pc 40) (some (.getfield 20, 3, 7, 1, 2, 576, 0, 0)) none))))
     (cond (Nat.blt pc 48)
      (cond (Nat.blt pc 44)
       (cond (Nat.beq pc 43) (some (.iload_n 3, 1, 0, 0, 0, 0, 0, 0)) none)
       (cond (Nat.blt pc 45)
        (cond (Nat.beq pc 44) (some (.aload_n 0, 1, 0, 0, 0, 0, 0, 0)) none)
        (cond (Nat.beq pc 45) (some (.getfield 20, 3, 7, 1, 2, 576, 0, 0)) none)))
      (cond (Nat.blt pc 49)
       (cond (Nat.beq pc 48) (some (.iload_n 1, 1, 0, 0, 0, 0, 0, 0)) none)
       (cond (Nat.blt pc 50)
        (cond (Nat.beq pc 49) (some (.iload_n 3, 1, 0, 0, 0, 0, 0, 0)) none)
        (cond (Nat.beq pc 50) (some (.isub, 1, 0, 0, 0, 0, 0, 0)) none)))))
    (cond (Nat.blt pc 59)
     (cond (Nat.blt pc 54)
      (cond (Nat.blt pc 52)
       (cond (Nat.beq pc 51) (some (.iaload, 1, 0, 0, 0, 0, 0, 0)) none)
       (cond (Nat.blt pc 53)
        (cond (Nat.beq pc 52) (some (.iastore, 1, 0, 0, 0, 0, 0, 0)) none)
        (cond (Nat.beq pc 53) (some (.aload_n 0, 1, 0, 0, 0, 0, 0, 0)) none)))
      (cond (Nat.blt pc 57)
       (cond (Nat.beq pc 54) (some (.getfield 20, 3, 7, 1, 2, 576, 0, 0)) none)
       (cond (Nat.blt pc 58)
        (cond (Nat.beq pc 57) (some (.iload_n 1, 1, 0, 0, 0, 0, 0, 0)) none)
        (cond (Nat.beq pc 58) (some (.iload_n 3, 1, 0, 0, 0, 0, 0, 0)) none))))
     (cond (Nat.blt pc 63)
      (cond (Nat.blt pc 60)
       (cond (Nat.beq pc 59) (some (.isub, 1, 0, 0, 0, 0, 0, 0)) none)
       (cond (Nat.blt pc 62)
        (cond (Nat.beq pc 60) (some (.iload 4, 2, 0, 0, 0, 0, 0, 0)) none)
        (cond (Nat.beq pc 62) (some (.iastore, 1, 0, 0, 0, 0, 0, 0)) none)))
      (cond (Nat.blt pc 66)
       (cond (Nat.beq pc 63) (some (.iinc 3 1, 3, 0, 0, 0, 0, 1, 0)) none)
       (cond (Nat.blt pc 69)
        (cond (Nat.beq pc 66) (some (.goto (-40), 3, 26, 0, 0, 0, 0, 0)) none)
        (cond (Nat.beq pc 69) (some (.return_, 1, 0, 0, 0, 0, 0, 0)) none))))))) none
-- PrintHouse$Press.writeSide ()V
def zc59 (pc : Nat) : Option z_I := cond (Nat.blt pc 57)
  (cond (Nat.blt pc 27)
   (cond (Nat.blt pc 12)
    (cond (Nat.blt pc 4)
     (cond (Nat.blt pc 2)
      (cond (Nat.blt pc 1)
       (cond (Nat.beq pc 0) (some (.iconst 0, 1, 0, 0, 0, 0, 0, 0)) none)
       (cond (Nat.beq pc 1) (some (.istore_n 1, 1, 0, 0, 0, 0, 0, 0)) none))
      (cond (Nat.blt pc 3)
       (cond (Nat.beq pc 2) (some (.iconst 0, 1, 0, 0, 0, 0, 0, 0)) none)
       (cond (Nat.beq pc 3) (some (.istore_n 2, 1, 0, 0, 0, 0, 0, 0)) none)))
     (cond (Nat.blt pc 6)
      (cond (Nat.blt pc 5)
       (cond (Nat.beq pc 4) (some (.iload_n 2, 1, 0, 0, 0, 0, 0, 0)) none)
       (cond (Nat.beq pc 5) (some (.aload_n 0, 1, 0, 0, 0, 0, 0, 0)) none))
      (cond (Nat.blt pc 9)
       (cond (Nat.beq pc 6) (some (.getfield 38, 3, 7, 7, 0, 590, 0, 0)) none)
       (cond (Nat.beq pc 9) (some (.if_icmp .ge 47, 3, 56, 0, 0, 0, 0, 0)) none))))
    (cond (Nat.blt pc 20)
     (cond (Nat.blt pc 14)
      (cond (Nat.blt pc 13)
       (cond (Nat.beq pc 12) (some (.iload_n 1, 1, 0, 0, 0, 0, 0, 0)) none)
       (cond (Nat.beq pc 13) (some (.aload_n 0, 1, 0, 0, 0, 0, 0, 0)) none))
      (cond (Nat.blt pc 17)
       (cond (Nat.beq pc 14) (some (.getfield 38, 3, 7, 7, 0, 590, 0, 0)) none)
       (cond (Nat.beq pc 17) (some (.if_icmp .ge 39, 3, 56, 0, 0, 0, 0, 0)) none)))
     (cond (Nat.blt pc 22)
      (cond (Nat.blt pc 21)
       (cond (Nat.beq pc 20) (some (.aload_n 0, 1, 0, 0, 0, 0, 0, 0)) none)
       (cond (Nat.beq pc 21) (some (.iload_n 1, 1, 0, 0, 0, 0, 0, 0)) none))
      (cond (Nat.blt pc 25)
       (cond (Nat.beq pc 22) (some (.invokevirtual 102, 3, 60, 0, 0, 1586, 0, 0)) none)
       (cond (Nat.blt pc 26)
        (cond (Nat.beq pc 25) (some (.istore_n 3, 1, 0, 0, 0, 0, 0, 0)) none)
        (cond (Nat.beq pc 26) (some (.aload_n 0, 1, 0, 0, 0, 0, 0, 0)) none))))))
   (cond (Nat.blt pc 42)
    (cond (Nat.blt pc 33)
     (cond (Nat.blt pc 31)
      (cond (Nat.blt pc 30)
       (cond (Nat.beq pc 27) (some (.getfield 14, 3, 7, 0, 2, 572, 0, 0)) none)
       (cond (Nat.beq pc 30) (some (.iload_n 3, 1, 0, 0, 0, 0, 0, 0)) none))
      (cond (Nat.blt pc 32)
       (cond (Nat.beq pc 31) (some (.iconst 1, 1, 0, 0, 0, 0, 1, 0)) none)
       (cond (Nat.beq pc 32) (some (.isub, 1, 0, 0, 0, 0, 0, 0)) none)))
     (cond (Nat.blt pc 37)
      (cond (Nat.blt pc 36)
       (cond (Nat.beq pc 33) (some (.invokevirtual 31, 3, 3, 0, 0, 1496, 0, 0)) none)
       (cond (Nat.beq pc 36) (some (.aload_n 0, 1, 0, 0, 0, 0, 0, 0)) none))
      (cond (Nat.blt pc 38)
       (cond (Nat.beq pc 37) (some (.iload_n 1, 1, 0, 0, 0, 0, 0, 0)) none)
       (cond (Nat.blt pc 39)
        (cond (Nat.beq pc 38) (some (.aload_n 0, 1, 0, 0, 0, 0, 0, 0)) none)
        (cond (Nat.beq pc 39) (some (.getfield 34, 3, 7, 6, 0, 588, 0, 0)) none)))))
    (cond (Nat.blt pc 48)
     (cond (Nat.blt pc 46)
      (cond (Nat.blt pc 43)
       (cond (Nat.beq pc 42) (some (.imul, 1, 0, 0, 0, 0, 0, 0)) none)
       (cond (Nat.beq pc 43) (some (.invokevirtual 106, 3, 62, 0, 0, 1602, 0, 0)) none))
      (cond (Nat.blt pc 47)
       (cond (Nat.beq pc 46) (some (.iload_n 1, 1, 0, 0, 0, 0, 0, 0)) none)
       (cond (Nat.beq pc 47) (some (.iload_n 3, 1, 0, 0, 0, 0, 0, 0)) none)))
     (cond (Nat.blt pc 50)
      (cond (Nat.blt pc 49)
       (cond (Nat.beq pc 48) (some (.iadd, 1, 0, 0, 0, 0, 0, 0)) none)
       (cond (Nat.beq pc 49) (some (.istore_n 1, 1, 0, 0, 0, 0, 0, 0)) none))
      (cond (Nat.blt pc 53)
       (cond (Nat.beq pc 50) (some (.iinc 2 1, 3, 0, 0, 0, 0, 1, 0)) none)
       (cond (Nat.blt pc 56)
        (cond (Nat.beq pc 53) (some (.goto (-49), 3, 4, 0, 0, 0, 0, 0)) none)
        (cond (Nat.beq pc 56) (some (.return_, 1, 0, 0, 0, 0, 0, 0)) none))))))) none
-- PrintHouse$Press.equalRows (I)I
def zc60 (pc : Nat) : Option z_I := cond (Nat.blt pc 34)
  (cond (Nat.blt pc 14)
   (cond (Nat.blt pc 5)
    (cond (Nat.blt pc 2)
     (cond (Nat.blt pc 1)
      (cond (Nat.beq pc 0) (some (.iconst 1, 1, 0, 0, 0, 0, 1, 0)) none)
      (cond (Nat.beq pc 1) (some (.istore_n 2, 1, 0, 0, 0, 0, 0, 0)) none))
     (cond (Nat.blt pc 3)
      (cond (Nat.beq pc 2) (some (.iload_n 1, 1, 0, 0, 0, 0, 0, 0)) none)
      (cond (Nat.blt pc 4)
       (cond (Nat.beq pc 3) (some (.iconst 1, 1, 0, 0, 0, 0, 1, 0)) none)
       (cond (Nat.beq pc 4) (some (.iadd, 1, 0, 0, 0, 0, 0, 0)) none))))
    (cond (Nat.blt pc 7)
     (cond (Nat.blt pc 6)
      (cond (Nat.beq pc 5) (some (.istore_n 3, 1, 0, 0, 0, 0, 0, 0)) none)
      (cond (Nat.beq pc 6) (some (.iload_n 3, 1, 0, 0, 0, 0, 0, 0)) none))
     (cond (Nat.blt pc 8)
      (cond (Nat.beq pc 7) (some (.aload_n 0, 1, 0, 0, 0, 0, 0, 0)) none)
      (cond (Nat.blt pc 11)
       (cond (Nat.beq pc 8) (some (.getfield 38, 3, 7, 7, 0, 590, 0, 0)) none)
       (cond (Nat.beq pc 11) (some (.if_icmp .ge 21, 3, 32, 0, 0, 0, 0, 0)) none)))))
   (cond (Nat.blt pc 23)
    (cond (Nat.blt pc 16)
     (cond (Nat.blt pc 15)
      (cond (Nat.beq pc 14) (some (.aload_n 0, 1, 0, 0, 0, 0, 0, 0)) none)
      (cond (Nat.beq pc 15) (some (.iload_n 1, 1, 0, 0, 0, 0, 0, 0)) none))
     (cond (Nat.blt pc 17)
      (cond (Nat.beq pc 16) (some (.iload_n 3, 1, 0, 0, 0, 0, 0, 0)) none)
      (cond (Nat.blt pc 20)
       (cond (Nat.beq pc 17) (some (.invokevirtual 109, 3, 61, 0, 0, 1594, 0, 0)) none)
       (cond (Nat.beq pc 20) (some (.ifCond .eq 12, 3, 32, 0, 0, 0, 0, 0)) none))))
    (cond (Nat.blt pc 29)
     (cond (Nat.blt pc 26)
      (cond (Nat.beq pc 23) (some (.iinc 2 1, 3, 0, 0, 0, 0, 1, 0)) none)
      (cond (Nat.beq pc 26) (some (.iinc 3 1, 3, 0, 0, 0, 0, 1, 0)) none))
     (cond (Nat.blt pc 32)
      (cond (Nat.beq pc 29) (some (.goto (-23), 3, 6, 0, 0, 0, 0, 0)) none)
      (cond (Nat.blt pc 33)
       (cond (Nat.beq pc 32) (some (.iload_n 2, 1, 0, 0, 0, 0, 0, 0)) none)
       (cond (Nat.beq pc 33) (some (.ireturn, 1, 0, 0, 0, 0, 0, 0)) none)))))) none
-- PrintHouse$Press.areRowsEqual (II)Z
def zc61 (pc : Nat) : Option z_I := cond (Nat.blt pc 49)
  (cond (Nat.blt pc 23)
   (cond (Nat.blt pc 11)
    (cond (Nat.blt pc 3)
     (cond (Nat.blt pc 1)
      (cond (Nat.beq pc 0) (some (.iconst 0, 1, 0, 0, 0, 0, 0, 0)) none)
      (cond (Nat.blt pc 2)
       (cond (Nat.beq pc 1) (some (.istore_n 3, 1, 0, 0, 0, 0, 0, 0)) none)
       (cond (Nat.beq pc 2) (some (.iload_n 3, 1, 0, 0, 0, 0, 0, 0)) none)))
     (cond (Nat.blt pc 7)
      (cond (Nat.blt pc 4)
       (cond (Nat.beq pc 3) (some (.aload_n 0, 1, 0, 0, 0, 0, 0, 0)) none)
       (cond (Nat.beq pc 4) (some (.getfield 34, 3, 7, 6, 0, 588, 0, 0)) none))
      (cond (Nat.blt pc 10)
       (cond (Nat.beq pc 7) (some (.if_icmp .ge 40, 3, 47, 0, 0, 0, 0, 0)) none)
       (cond (Nat.beq pc 10) (some (.aload_n 0, 1, 0, 0, 0, 0, 0, 0)) none))))
    (cond (Nat.blt pc 19)
     (cond (Nat.blt pc 15)
      (cond (Nat.blt pc 14)
       (cond (Nat.beq pc 11) (some (.getfield 20, 3, 7, 1, 2, 576, 0, 0)) none)
       (cond (Nat.beq pc 14) (some (.iload_n 1, 1, 0, 0, 0, 0, 0, 0)) none))
      (cond (Nat.blt pc 16)
       (cond (Nat.beq pc 15) (some (.aload_n 0, 1, 0, 0, 0, 0, 0, 0)) none)
       (cond (Nat.beq pc 16) (some (.getfield 34, 3, 7, 6, 0, 588, 0, 0)) none)))
     (cond (Nat.blt pc 21)
      (cond (Nat.blt pc 20)
       (cond (Nat.beq pc 19) (some (.imul, 1, 0, 0, 0, 0, 0, 0)) none)
       (cond (Nat.beq pc 20) (some (.iload_n 3, 1, 0, 0, 0, 0, 0, 0)) none))
      (cond (Nat.blt pc 22)
       (cond (Nat.beq pc 21) (some (.iadd, 1, 0, 0, 0, 0, 0, 0)) none)
       (cond (Nat.beq pc 22) (some (.iaload, 1, 0, 0, 0, 0, 0, 0)) none)))))
   (cond (Nat.blt pc 35)
    (cond (Nat.blt pc 29)
     (cond (Nat.blt pc 27)
      (cond (Nat.blt pc 24)
       (cond (Nat.beq pc 23) (some (.aload_n 0, 1, 0, 0, 0, 0, 0, 0)) none)
       (cond (Nat.beq pc 24) (some (.getfield 20, 3, 7, 1, 2, 576, 0, 0)) none))
      (cond (Nat.blt pc 28)
       (cond (Nat.beq pc 27) (some (.iload_n 2, 1, 0, 0, 0, 0, 0, 0)) none)
       (cond (Nat.beq pc 28) (some (.aload_n 0, 1, 0, 0, 0, 0, 0, 0)) none)))
     (cond (Nat.blt pc 33)
      (cond (Nat.blt pc 32)
       (cond (Nat.beq pc 29) (some (.getfield 34, 3, 7, 6, 0, 588, 0, 0)) none)
       (cond (Nat.beq pc 32) (some (.imul, 1, 0, 0, 0, 0, 0, 0)) none))
      (cond (Nat.blt pc 34)
       (cond (Nat.beq pc 33) (some (.iload_n 3, 1, 0, 0, 0, 0, 0, 0)) none)
       (cond (Nat.beq pc 34) (some (.iadd, 1, 0, 0, 0, 0, 0, 0)) none))))
    (cond (Nat.blt pc 41)
     (cond (Nat.blt pc 39)
      (cond (Nat.blt pc 36)
       (cond (Nat.beq pc 35) (some (.iaload, 1, 0, 0, 0, 0, 0, 0)) none)
       (cond (Nat.beq pc 36) (some (.if_icmp .eq 5, 3, 41, 0, 0, 0, 0, 0)) none))
      (cond (Nat.blt pc 40)
       (cond (Nat.beq pc 39) (some (.iconst 0, 1, 0, 0, 0, 0, 0, 0)) none)
       (cond (Nat.beq pc 40) (some (.ireturn, 1, 0, 0, 1, 0, 0, 0)) none)))
     (cond (Nat.blt pc 47)
      (cond (Nat.blt pc 44)
       (cond (Nat.beq pc 41) (some (.iinc 3 1, 3, 0, 0, 0, 0, 1, 0)) none)
       (cond (Nat.beq pc 44) (some (.goto (-42), 3, 2, 0, 0, 0, 0, 0)) none))
      (cond (Nat.blt pc 48)
       (cond (Nat.beq pc 47) (some (.iconst 1, 1, 0, 0, 0, 0, 1, 0)) none)
       (cond (Nat.beq pc 48) (some (.ireturn, 1, 0, 0, 1, 0, 0, 0)) none)))))) none
-- PrintHouse$Press.writeRow (I)V
def zc62 (pc : Nat) : Option z_I := cond (Nat.blt pc 96)
  (cond (Nat.blt pc 46)
   (cond (Nat.blt pc 22)
    (cond (Nat.blt pc 9)
     (cond (Nat.blt pc 5)
      (cond (Nat.blt pc 1)
       (cond (Nat.beq pc 0) (some (.iload_n 1, 1, 0, 0, 0, 0, 0, 0)) none)
       (cond (Nat.blt pc 2)
        (cond (Nat.beq pc 1) (some (.aload_n 0, 1, 0, 0, 0, 0, 0, 0)) none)
        (cond (Nat.beq pc 2) (some (.getfield 34, 3, 7, 6, 0, 588, 0, 0)) none)))
      (cond (Nat.blt pc 7)
       (cond (Nat.blt pc 6)
        (cond (Nat.beq pc 5) (some (.iadd, 1, 0, 0, 0, 0, 0, 0)) none)
        (cond (Nat.beq pc 6) (some (.istore_n 2, 1, 0, 0, 0, 0, 0, 0)) none))
       (cond (Nat.blt pc 8)
        (cond (Nat.beq pc 7) (some (.iload_n 1, 1, 0, 0, 0, 0, 0, 0)) none)
        (cond (Nat.beq pc 8) (some (.istore_n 3, 1, 0, 0, 0, 0, 0, 0)) none))))
     (cond (Nat.blt pc 14)
      (cond (Nat.blt pc 10)
       (cond (Nat.beq pc 9) (some (.iconst 0, 1, 0, 0, 0, 0, 0, 0)) none)
       (cond (Nat.blt pc 12)
        (cond (Nat.beq pc 10) (some (.istore 4, 2, 0, 0, 0, 0, 0, 0)) none)
        (cond (Nat.beq pc 12) (some (.iload 4, 2, 0, 0, 0, 0, 0, 0)) none)))
      (cond (Nat.blt pc 18)
       (cond (Nat.blt pc 15)
        (cond (Nat.beq pc 14) (some (.aload_n 0, 1, 0, 0, 0, 0, 0, 0)) none)
        (cond (Nat.beq pc 15) (some (.getfield 34, 3, 7, 6, 0, 588, 0, 0)) none))
       (cond (Nat.blt pc 21)
        (cond (Nat.beq pc 18) (some (.if_icmp .ge 77, 3, 95, 0, 0, 0, 0, 0)) none)
        (cond (Nat.beq pc 21) (some (.iload_n 3, 1, 0, 0, 0, 0, 0, 0)) none)))))
    (cond (Nat.blt pc 34)
     (cond (Nat.blt pc 27)
      (cond (Nat.blt pc 23)
       (cond (Nat.beq pc 22) (some (.iload_n 2, 1, 0, 0, 0, 0, 0, 0)) none)
       (cond (Nat.blt pc 26)
        (cond (Nat.beq pc 23) (some (.if_icmp .ge 72, 3, 95, 0, 0, 0, 0, 0)) none)
        (cond (Nat.beq pc 26) (some (.aload_n 0, 1, 0, 0, 0, 0, 0, 0)) none)))
      (cond (Nat.blt pc 29)
       (cond (Nat.blt pc 28)
        (cond (Nat.beq pc 27) (some (.iload_n 3, 1, 0, 0, 0, 0, 0, 0)) none)
        (cond (Nat.beq pc 28) (some (.iload_n 2, 1, 0, 0, 0, 0, 0, 0)) none))
       (cond (Nat.blt pc 32)
        (cond (Nat.beq pc 29) (some (.invokevirtual 113, 3, 63, 0, 0, 1610, 0, 0)) none)
        (cond (Nat.beq pc 32) (some (.istore 5, 2, 0, 0, 0, 0, 0, 0)) none))))
     (cond (Nat.blt pc 38)
      (cond (Nat.blt pc 36)
       (cond (Nat.beq pc 34) (some (.iload 5, 2, 0, 0, 0, 0, 0, 0)) none)
       (cond (Nat.blt pc 37)
        (cond (Nat.beq pc 36) (some (.iload_n 3, 1, 0, 0, 0, 0, 0, 0)) none)
        (cond (Nat.beq pc 37) (some (.isub, 1, 0, 0, 0, 0, 0, 0)) none)))
      (cond (Nat.blt pc 42)
       (cond (Nat.blt pc 39)
        (cond (Nat.beq pc 38) (some (.iconst 1, 1, 0, 0, 0, 0, 1, 0)) none)
        (cond (Nat.beq pc 39) (some (.if_icmp .le 32, 3, 71, 0, 0, 0, 0, 0)) none))
       (cond (Nat.blt pc 43)
        (cond (Nat.beq pc 42) (some (.aload_n 0, 1, 0, 0, 0, 0, 0, 0)) none)
        (cond (Nat.beq pc 43) (some (.getfield 14, 3, 7, 0, 2, 572, 0, 0)) none))))))
   (cond (Nat.blt pc 71)
    (cond (Nat.blt pc 56)
     (cond (Nat.blt pc 50)
      (cond (Nat.blt pc 48)
       (cond (Nat.beq pc 46) (some (.iload 5, 2, 0, 0, 0, 0, 0, 0)) none)
       (cond (Nat.blt pc 49)
        (cond (Nat.beq pc 48) (some (.iload_n 3, 1, 0, 0, 0, 0, 0, 0)) none)
        (cond (Nat.beq pc 49) (some (.isub, 1, 0, 0, 0, 0, 0, 0)) none)))
      (cond (Nat.blt pc 52)
       (cond (Nat.blt pc 51)
        (cond (Nat.beq pc 50) (some (.iconst 1, 1, 0, 0, 0, 0, 1, 0)) none)
        (cond (Nat.beq pc 51) (some (.isub, 1, 0, 0, 0, 0, 0, 0)) none))
       (cond (Nat.blt pc 55)
        (cond (Nat.beq pc 52) (some (.invokevirtual 31, 3, 3, 0, 0, 1496, 0, 0)) none)
        (cond (Nat.beq pc 55) (some (.aload_n 0, 1, 0, 0, 0, 0, 0, 0)) none))))
     (cond (Nat.blt pc 63)
      (cond (Nat.blt pc 59)
       (cond (Nat.beq pc 56) (some (.getfield 14, 3, 7, 0, 2, 572, 0, 0)) none)
       (cond (Nat.blt pc 60)
        (cond (Nat.beq pc 59) (some (.aload_n 0, 1, 0, 0, 0, 0, 0, 0)) none)
        (cond (Nat.beq pc 60) (some (.getfield 20, 3, 7, 1, 2, 576, 0, 0)) none)))
      (cond (Nat.blt pc 65)
       (cond (Nat.blt pc 64)
        (cond (Nat.beq pc 63) (some (.iload_n 3, 1, 0, 0, 0, 0, 0, 0)) none)
        (cond (Nat.beq pc 64) (some (.iaload, 1, 0, 0, 0, 0, 0, 0)) none))
       (cond (Nat.blt pc 68)
        (cond (Nat.beq pc 65) (some (.invokevirtual 31, 3, 3, 0, 0, 1496, 0, 0)) none)
        (cond (Nat.beq pc 68) (some (.goto 18, 3, 86, 0, 0, 0, 0, 0)) none)))))
    (cond (Nat.blt pc 81)
     (cond (Nat.blt pc 74)
      (cond (Nat.blt pc 72)
       (cond (Nat.beq pc 71) (some (.aload_n 0, 1, 0, 0, 0, 0, 0, 0)) none)
       (cond (Nat.blt pc 73)
        (cond (Nat.beq pc 72) (some (.iload_n 3, 1, 0, 0, 0, 0, 0, 0)) none)
        (cond (Nat.beq pc 73) (some (.iload_n 2, 1, 0, 0, 0, 0, 0, 0)) none)))
      (cond (Nat.blt pc 79)
       (cond (Nat.blt pc 77)
        (cond (Nat.beq pc 74) (some (.invokevirtual 117, 3, 64, 0, 0, 1618, 0, 0)) none)
        (cond (Nat.beq pc 77) (some (.istore 5, 2, 0, 0, 0, 0, 0, 0)) none))
       (cond (Nat.blt pc 80)
        (cond (Nat.beq pc 79) (some (.aload_n 0, 1, 0, 0, 0, 0, 0, 0)) none)
        (cond (Nat.beq pc 80) (some (.iload_n 3, 1, 0, 0, 0, 0, 0, 0)) none))))
     (cond (Nat.blt pc 88)
      (cond (Nat.blt pc 83)
       (cond (Nat.beq pc 81) (some (.iload 5, 2, 0, 0, 0, 0, 0, 0)) none)
       (cond (Nat.blt pc 86)
        (cond (Nat.beq pc 83) (some (.invokevirtual 120, 3, 65, 0, 0, 1626, 0, 0)) none)
        (cond (Nat.beq pc 86) (some (.iload 5, 2, 0, 0, 0, 0, 0, 0)) none)))
      (cond (Nat.blt pc 92)
       (cond (Nat.blt pc 89)
        (cond (Nat.beq pc 88) (some (.istore_n 3, 1, 0, 0, 0, 0, 0, 0)) none)
        (cond (Nat.beq pc 89) (some (.iinc 4 1, 3, 0, 0, 0, 0, 1, 0)) none))
       (cond (Nat.blt pc 95)
        (cond (Nat.beq pc 92) (some (.goto (-80), 3, 12, 0, 0, 0, 0, 0)) none)
        (cond (Nat.beq pc 95) (some (.return_, 1, 0, 0, 0, 0, 0, 0)) none))))))) none
-- PrintHouse$Press.endOfEqual (II)I
def zc63 (pc : Nat) : Option z_I := cond (Nat.blt pc 42)
  (cond (Nat.blt pc 16)
   (cond (Nat.blt pc 6)
    (cond (Nat.blt pc 3)
     (cond (Nat.blt pc 1)
      (cond (Nat.beq pc 0) (some (.iload_n 1, 1, 0, 0, 0, 0, 0, 0)) none)
      (cond (Nat.blt pc 2)
       (cond (Nat.beq pc 1) (some (.iconst 1, 1, 0, 0, 0, 0, 1, 0)) none)
       (cond (Nat.beq pc 2) (some (.iadd, 1, 0, 0, 0, 0, 0, 0)) none)))
     (cond (Nat.blt pc 4)
      (cond (Nat.beq pc 3) (some (.istore_n 3, 1, 0, 0, 0, 0, 0, 0)) none)
      (cond (Nat.blt pc 5)
       (cond (Nat.beq pc 4) (some (.iload_n 1, 1, 0, 0, 0, 0, 0, 0)) none)
       (cond (Nat.beq pc 5) (some (.iconst 1, 1, 0, 0, 0, 0, 1, 0)) none))))
    (cond (Nat.blt pc 11)
     (cond (Nat.blt pc 7)
      (cond (Nat.beq pc 6) (some (.iadd, 1, 0, 0, 0, 0, 0, 0)) none)
      (cond (Nat.blt pc 9)
       (cond (Nat.beq pc 7) (some (.istore 4, 2, 0, 0, 0, 0, 0, 0)) none)
       (cond (Nat.beq pc 9) (some (.iload 4, 2, 0, 0, 0, 0, 0, 0)) none)))
     (cond (Nat.blt pc 12)
      (cond (Nat.beq pc 11) (some (.iload_n 2, 1, 0, 0, 0, 0, 0, 0)) none)
      (cond (Nat.blt pc 15)
       (cond (Nat.beq pc 12) (some (.if_icmp .ge 28, 3, 40, 0, 0, 0, 0, 0)) none)
       (cond (Nat.beq pc 15) (some (.aload_n 0, 1, 0, 0, 0, 0, 0, 0)) none)))))
   (cond (Nat.blt pc 27)
    (cond (Nat.blt pc 22)
     (cond (Nat.blt pc 19)
      (cond (Nat.beq pc 16) (some (.getfield 20, 3, 7, 1, 2, 576, 0, 0)) none)
      (cond (Nat.blt pc 21)
       (cond (Nat.beq pc 19) (some (.iload 4, 2, 0, 0, 0, 0, 0, 0)) none)
       (cond (Nat.beq pc 21) (some (.iaload, 1, 0, 0, 0, 0, 0, 0)) none)))
     (cond (Nat.blt pc 23)
      (cond (Nat.beq pc 22) (some (.aload_n 0, 1, 0, 0, 0, 0, 0, 0)) none)
      (cond (Nat.blt pc 26)
       (cond (Nat.beq pc 23) (some (.getfield 20, 3, 7, 1, 2, 576, 0, 0)) none)
       (cond (Nat.beq pc 26) (some (.iload_n 1, 1, 0, 0, 0, 0, 0, 0)) none))))
    (cond (Nat.blt pc 34)
     (cond (Nat.blt pc 28)
      (cond (Nat.beq pc 27) (some (.iaload, 1, 0, 0, 0, 0, 0, 0)) none)
      (cond (Nat.blt pc 31)
       (cond (Nat.beq pc 28) (some (.if_icmp .ne 12, 3, 40, 0, 0, 0, 0, 0)) none)
       (cond (Nat.beq pc 31) (some (.iinc 3 1, 3, 0, 0, 0, 0, 1, 0)) none)))
     (cond (Nat.blt pc 40)
      (cond (Nat.blt pc 37)
       (cond (Nat.beq pc 34) (some (.iinc 4 1, 3, 0, 0, 0, 0, 1, 0)) none)
       (cond (Nat.beq pc 37) (some (.goto (-28), 3, 9, 0, 0, 0, 0, 0)) none))
      (cond (Nat.blt pc 41)
       (cond (Nat.beq pc 40) (some (.iload_n 3, 1, 0, 0, 0, 0, 0, 0)) none)
       (cond (Nat.beq pc 41) (some (.ireturn, 1, 0, 0, 0, 0, 0, 0)) none)))))) none
-- PrintHouse$Press.endOfUnlike (II)I
def zc64 (pc : Nat) : Option z_I := cond (Nat.blt pc 38)
  (cond (Nat.blt pc 17)
   (cond (Nat.blt pc 6)
    (cond (Nat.blt pc 3)
     (cond (Nat.blt pc 1)
      (cond (Nat.beq pc 0) (some (.iload_n 1, 1, 0, 0, 0, 0, 0, 0)) none)
      (cond (Nat.blt pc 2)
       (cond (Nat.beq pc 1) (some (.iconst 1, 1, 0, 0, 0, 0, 1, 0)) none)
       (cond (Nat.beq pc 2) (some (.iadd, 1, 0, 0, 0, 0, 0, 0)) none)))
     (cond (Nat.blt pc 4)
      (cond (Nat.beq pc 3) (some (.istore_n 3, 1, 0, 0, 0, 0, 0, 0)) none)
      (cond (Nat.blt pc 5)
       (cond (Nat.beq pc 4) (some (.iload_n 3, 1, 0, 0, 0, 0, 0, 0)) none)
       (cond (Nat.beq pc 5) (some (.iconst 1, 1, 0, 0, 0, 0, 1, 0)) none))))
    (cond (Nat.blt pc 11)
     (cond (Nat.blt pc 7)
      (cond (Nat.beq pc 6) (some (.iadd, 1, 0, 0, 0, 0, 0, 0)) none)
      (cond (Nat.blt pc 8)
       (cond (Nat.beq pc 7) (some (.iload_n 2, 1, 0, 0, 0, 0, 0, 0)) none)
       (cond (Nat.beq pc 8) (some (.if_icmp .ge 28, 3, 36, 0, 0, 0, 0, 0)) none)))
     (cond (Nat.blt pc 15)
      (cond (Nat.blt pc 12)
       (cond (Nat.beq pc 11) (some (.aload_n 0, 1, 0, 0, 0, 0, 0, 0)) none)
       (cond (Nat.beq pc 12) (some (.getfield 20, 3, 7, 1, 2, 576, 0, 0)) none))
      (cond (Nat.blt pc 16)
       (cond (Nat.beq pc 15) (some (.iload_n 3, 1, 0, 0, 0, 0, 0, 0)) none)
       (cond (Nat.beq pc 16) (some (.iaload, 1, 0, 0, 0, 0, 0, 0)) none)))))
   (cond (Nat.blt pc 25)
    (cond (Nat.blt pc 22)
     (cond (Nat.blt pc 18)
      (cond (Nat.beq pc 17) (some (.aload_n 0, 1, 0, 0, 0, 0, 0, 0)) none)
      (cond (Nat.blt pc 21)
       (cond (Nat.beq pc 18) (some (.getfield 20, 3, 7, 1, 2, 576, 0, 0)) none)
       (cond (Nat.beq pc 21) (some (.iload_n 3, 1, 0, 0, 0, 0, 0, 0)) none)))
     (cond (Nat.blt pc 23)
      (cond (Nat.beq pc 22) (some (.iconst 1, 1, 0, 0, 0, 0, 1, 0)) none)
      (cond (Nat.blt pc 24)
       (cond (Nat.beq pc 23) (some (.iadd, 1, 0, 0, 0, 0, 0, 0)) none)
       (cond (Nat.beq pc 24) (some (.iaload, 1, 0, 0, 0, 0, 0, 0)) none))))
    (cond (Nat.blt pc 30)
     (cond (Nat.blt pc 28)
      (cond (Nat.beq pc 25) (some (.if_icmp .ne 5, 3, 30, 0, 0, 0, 0, 0)) none)
      (cond (Nat.blt pc 29)
       (cond (Nat.beq pc 28) (some (.iload_n 3, 1, 0, 0, 0, 0, 0, 0)) none)
       (cond (Nat.beq pc 29) (some (.ireturn, 1, 0, 0, 0, 0, 0, 0)) none)))
     (cond (Nat.blt pc 36)
      (cond (Nat.blt pc 33)
       (cond (Nat.beq pc 30) (some (.iinc 3 1, 3, 0, 0, 0, 0, 1, 0)) none)
       (cond (Nat.beq pc 33) (some (.goto (-29), 3, 4, 0, 0, 0, 0, 0)) none))
      (cond (Nat.blt pc 37)
       (cond (Nat.beq pc 36) (some (.iload_n 2, 1, 0, 0, 0, 0, 0, 0)) none)
       (cond (Nat.beq pc 37) (some (.ireturn, 1, 0, 0, 0, 0, 0, 0)) none)))))) none
-- PrintHouse$Press.writeUnlike (II)V
def zc65 (pc : Nat) : Option z_I := cond (Nat.blt pc 55)
  (cond (Nat.blt pc 25)
   (cond (Nat.blt pc 9)
    (cond (Nat.blt pc 3)
     (cond (Nat.blt pc 1)
      (cond (Nat.beq pc 0) (some (.iload_n 2, 1, 0, 0, 0, 0, 0, 0)) none)
      (cond (Nat.blt pc 2)
       (cond (Nat.beq pc 1) (some (.iload_n 1, 1, 0, 0, 0, 0, 0, 0)) none)
       (cond (Nat.beq pc 2) (some (.isub, 1, 0, 0, 0, 0, 0, 0)) none)))
     (cond (Nat.blt pc 5)
      (cond (Nat.blt pc 4)
       (cond (Nat.beq pc 3) (some (.istore_n 3, 1, 0, 0, 0, 0, 0, 0)) none)
       (cond (Nat.beq pc 4) (some (.aload_n 0, 1, 0, 0, 0, 0, 0, 0)) none))
      (cond (Nat.blt pc 8)
       (cond (Nat.beq pc 5) (some (.getfield 14, 3, 7, 0, 2, 572, 0, 0)) none)
       (cond (Nat.beq pc 8) (some (.iload_n 3, 1, 0, 0, 0, 0, 0, 0)) none))))
    (cond (Nat.blt pc 17)
     (cond (Nat.blt pc 13)
      (cond (Nat.blt pc 10)
       (cond (Nat.beq pc 9) (some (.iconst 1, 1, 0, 0, 0, 0, 1, 0)) none)
       (cond (Nat.beq pc 10) (some (.if_icmp .ne 7, 3, 17, 0, 0, 0, 0, 0)) none))
      (cond (Nat.blt pc 14)
       (cond (Nat.beq pc 13) (some (.iconst 0, 1, 0, 0, 0, 0, 0, 0)) none)
       (cond (Nat.beq pc 14) (some (.goto 8, 3, 22, 0, 0, 0, 0, 0)) none)))
     (cond (Nat.blt pc 21)
      (cond (Nat.blt pc 20)
       (cond (Nat.beq pc 17) (some (.sipush 257, 3, 0, 0, 0, 0, 257, 0)) none)
       (cond (Nat.beq pc 20) (some (.iload_n 3, 1, 0, 0, 0, 0, 0, 0)) none))
      (cond (Nat.blt pc 22)
       (cond (Nat.beq pc 21) (some (.isub, 1, 0, 0, 0, 0, 0, 0)) none)
       (cond (Nat.beq pc 22) (some (.invokevirtual 31, 3, 3, 0, 0, 1496, 0, 0)) none)))))
   (cond (Nat.blt pc 38)
    (cond (Nat.blt pc 30)
     (cond (Nat.blt pc 26)
      (cond (Nat.beq pc 25) (some (.iload_n 1, 1, 0, 0, 0, 0, 0, 0)) none)
      (cond (Nat.blt pc 28)
       (cond (Nat.beq pc 26) (some (.istore 4, 2, 0, 0, 0, 0, 0, 0)) none)
       (cond (Nat.beq pc 28) (some (.iload 4, 2, 0, 0, 0, 0, 0, 0)) none)))
     (cond (Nat.blt pc 34)
      (cond (Nat.blt pc 31)
       (cond (Nat.beq pc 30) (some (.iload_n 2, 1, 0, 0, 0, 0, 0, 0)) none)
       (cond (Nat.beq pc 31) (some (.if_icmp .ge 23, 3, 54, 0, 0, 0, 0, 0)) none))
      (cond (Nat.blt pc 35)
       (cond (Nat.beq pc 34) (some (.aload_n 0, 1, 0, 0, 0, 0, 0, 0)) none)
       (cond (Nat.beq pc 35) (some (.getfield 14, 3, 7, 0, 2, 572, 0, 0)) none))))
    (cond (Nat.blt pc 45)
     (cond (Nat.blt pc 42)
      (cond (Nat.blt pc 39)
       (cond (Nat.beq pc 38) (some (.aload_n 0, 1, 0, 0, 0, 0, 0, 0)) none)
       (cond (Nat.beq pc 39) (some (.getfield 20, 3, 7, 1, 2, 576, 0, 0)) none))
      (cond (Nat.blt pc 44)
       (cond (Nat.beq pc 42) (some (.iload 4, 2, 0, 0, 0, 0, 0, 0)) none)
       (cond (Nat.beq pc 44) (some (.iaload, 1, 0, 0, 0, 0, 0, 0)) none)))
     (cond (Nat.blt pc 51)
      (cond (Nat.blt pc 48)
       (cond (Nat.beq pc 45) (some (.invokevirtual 31, 3, 3, 0, 0, 1496, 0, 0)) none)
       (cond (Nat.beq pc 48) (some (.iinc 4 1, 3, 0, 0, 0, 0, 1, 0)) none))
      (cond (Nat.blt pc 54)
       (cond (Nat.beq pc 51) (some (.goto (-23), 3, 28, 0, 0, 0, 0, 0)) none)
       (cond (Nat.beq pc 54) (some (.return_, 1, 0, 0, 0, 0, 0, 0)) none)))))) none
-- PrintHouse$Spool.find (I)LPrintHouse$Job;
def zc66 (pc : Nat) : Option z_I := cond (Nat.blt pc 38)
  (cond (Nat.blt pc 19)
   (cond (Nat.blt pc 7)
    (cond (Nat.blt pc 2)
     (cond (Nat.blt pc 1)
      (cond (Nat.beq pc 0) (some (.iconst 0, 1, 0, 0, 0, 0, 0, 0)) none)
      (cond (Nat.beq pc 1) (some (.istore_n 2, 1, 0, 0, 0, 0, 0, 0)) none))
     (cond (Nat.blt pc 3)
      (cond (Nat.beq pc 2) (some (.iload_n 2, 1, 0, 0, 0, 0, 0, 0)) none)
      (cond (Nat.blt pc 4)
       (cond (Nat.beq pc 3) (some (.aload_n 0, 1, 0, 0, 0, 0, 0, 0)) none)
       (cond (Nat.beq pc 4) (some (.getfield 26, 3, 6, 2, 0, 530, 0, 0)) none))))
    (cond (Nat.blt pc 14)
     (cond (Nat.blt pc 10)
      (cond (Nat.beq pc 7) (some (.if_icmp .ge 29, 3, 36, 0, 0, 0, 0, 0)) none)
      (cond (Nat.blt pc 11)
       (cond (Nat.beq pc 10) (some (.aload_n 0, 1, 0, 0, 0, 0, 0, 0)) none)
       (cond (Nat.beq pc 11) (some (.getfield 17, 3, 6, 1, 2, 528, 0, 0)) none)))
     (cond (Nat.blt pc 15)
      (cond (Nat.beq pc 14) (some (.iload_n 2, 1, 0, 0, 0, 0, 0, 0)) none)
      (cond (Nat.blt pc 16)
       (cond (Nat.beq pc 15) (some (.aaload, 1, 0, 0, 0, 0, 0, 0)) none)
       (cond (Nat.beq pc 16) (some (.getfield 29, 3, 3, 1, 0, 375, 0, 0)) none)))))
   (cond (Nat.blt pc 28)
    (cond (Nat.blt pc 23)
     (cond (Nat.blt pc 20)
      (cond (Nat.beq pc 19) (some (.iload_n 1, 1, 0, 0, 0, 0, 0, 0)) none)
      (cond (Nat.beq pc 20) (some (.if_icmp .ne 10, 3, 30, 0, 0, 0, 0, 0)) none))
     (cond (Nat.blt pc 24)
      (cond (Nat.beq pc 23) (some (.aload_n 0, 1, 0, 0, 0, 0, 0, 0)) none)
      (cond (Nat.blt pc 27)
       (cond (Nat.beq pc 24) (some (.getfield 17, 3, 6, 1, 2, 528, 0, 0)) none)
       (cond (Nat.beq pc 27) (some (.iload_n 2, 1, 0, 0, 0, 0, 0, 0)) none))))
    (cond (Nat.blt pc 33)
     (cond (Nat.blt pc 29)
      (cond (Nat.beq pc 28) (some (.aaload, 1, 0, 0, 0, 0, 0, 0)) none)
      (cond (Nat.blt pc 30)
       (cond (Nat.beq pc 29) (some (.areturn, 1, 0, 0, 0, 0, 0, 0)) none)
       (cond (Nat.beq pc 30) (some (.iinc 2 1, 3, 0, 0, 0, 0, 1, 0)) none)))
     (cond (Nat.blt pc 36)
      (cond (Nat.beq pc 33) (some (.goto (-31), 3, 2, 0, 0, 0, 0, 0)) none)
      (cond (Nat.blt pc 37)
       (cond (Nat.beq pc 36) (some (.aconst_null, 1, 0, 0, 0, 0, 0, 0)) none)
       (cond (Nat.beq pc 37) (some (.areturn, 1, 0, 0, 0, 0, 0, 0)) none)))))) none
-- PrintHouse$Spool.newest ()LPrintHouse$Job;
def zc67 (pc : Nat) : Option z_I := cond (Nat.blt pc 23)
  (cond (Nat.blt pc 12)
   (cond (Nat.blt pc 7)
    (cond (Nat.blt pc 1)
     (cond (Nat.beq pc 0) (some (.aload_n 0, 1, 0, 0, 0, 0, 0, 0)) none)
     (cond (Nat.blt pc 4)
      (cond (Nat.beq pc 1) (some (.getfield 26, 3, 6, 2, 0, 530, 0, 0)) none)
      (cond (Nat.beq pc 4) (some (.ifCond .le 17, 3, 21, 0, 0, 0, 0, 0)) none)))
    (cond (Nat.blt pc 8)
     (cond (Nat.beq pc 7) (some (.aload_n 0, 1, 0, 0, 0, 0, 0, 0)) none)
     (cond (Nat.blt pc 11)
      (cond (Nat.beq pc 8) (some (.getfield 17, 3, 6, 1, 2, 528, 0, 0)) none)
      (cond (Nat.beq pc 11) (some (.aload_n 0, 1, 0, 0, 0, 0, 0, 0)) none))))
   (cond (Nat.blt pc 17)
    (cond (Nat.blt pc 15)
     (cond (Nat.beq pc 12) (some (.getfield 26, 3, 6, 2, 0, 530, 0, 0)) none)
     (cond (Nat.blt pc 16)
      (cond (Nat.beq pc 15) (some (.iconst 1, 1, 0, 0, 0, 0, 1, 0)) none)
      (cond (Nat.beq pc 16) (some (.isub, 1, 0, 0, 0, 0, 0, 0)) none)))
    (cond (Nat.blt pc 21)
     (cond (Nat.blt pc 18)
      (cond (Nat.beq pc 17) (some (.aaload, 1, 0, 0, 0, 0, 0, 0)) none)
      (cond (Nat.beq pc 18) (some (.goto 4, 3, 22, 0, 0, 0, 0, 0)) none))
     (cond (Nat.blt pc 22)
      (cond (Nat.beq pc 21) (some (.aconst_null, 1, 0, 0, 0, 0, 0, 0)) none)
      (cond (Nat.beq pc 22) (some (.areturn, 1, 0, 0, 0, 0, 0, 0)) none))))) none
-- PrintHouse$Spool.liveBlocks ()I
def zc68 (pc : Nat) : Option z_I := cond (Nat.blt pc 44)
  (cond (Nat.blt pc 21)
   (cond (Nat.blt pc 6)
    (cond (Nat.blt pc 3)
     (cond (Nat.blt pc 1)
      (cond (Nat.beq pc 0) (some (.iconst 0, 1, 0, 0, 0, 0, 0, 0)) none)
      (cond (Nat.blt pc 2)
       (cond (Nat.beq pc 1) (some (.istore_n 1, 1, 0, 0, 0, 0, 0, 0)) none)
       (cond (Nat.beq pc 2) (some (.iconst 0, 1, 0, 0, 0, 0, 0, 0)) none)))
     (cond (Nat.blt pc 4)
      (cond (Nat.beq pc 3) (some (.istore_n 2, 1, 0, 0, 0, 0, 0, 0)) none)
      (cond (Nat.blt pc 5)
       (cond (Nat.beq pc 4) (some (.iload_n 2, 1, 0, 0, 0, 0, 0, 0)) none)
       (cond (Nat.beq pc 5) (some (.aload_n 0, 1, 0, 0, 0, 0, 0, 0)) none))))
    (cond (Nat.blt pc 13)
     (cond (Nat.blt pc 9)
      (cond (Nat.beq pc 6) (some (.getfield 26, 3, 6, 2, 0, 530, 0, 0)) none)
      (cond (Nat.blt pc 12)
       (cond (Nat.beq pc 9) (some (.if_icmp .ge 33, 3, 42, 0, 0, 0, 0, 0)) none)
       (cond (Nat.beq pc 12) (some (.aload_n 0, 1, 0, 0, 0, 0, 0, 0)) none)))
     (cond (Nat.blt pc 17)
      (cond (Nat.blt pc 16)
       (cond (Nat.beq pc 13) (some (.getfield 17, 3, 6, 1, 2, 528, 0, 0)) none)
       (cond (Nat.beq pc 16) (some (.iload_n 2, 1, 0, 0, 0, 0, 0, 0)) none))
      (cond (Nat.blt pc 18)
       (cond (Nat.beq pc 17) (some (.aaload, 1, 0, 0, 0, 0, 0, 0)) none)
       (cond (Nat.beq pc 18) (some (.invokevirtual 32, 3, 22, 0, 0, 1186, 0, 0)) none)))))
   (cond (Nat.blt pc 31)
    (cond (Nat.blt pc 26)
     (cond (Nat.blt pc 24)
      (cond (Nat.beq pc 21) (some (.ifCond .ne 15, 3, 36, 0, 0, 0, 0, 0)) none)
      (cond (Nat.blt pc 25)
       (cond (Nat.beq pc 24) (some (.iload_n 1, 1, 0, 0, 0, 0, 0, 0)) none)
       (cond (Nat.beq pc 25) (some (.aload_n 0, 1, 0, 0, 0, 0, 0, 0)) none)))
     (cond (Nat.blt pc 29)
      (cond (Nat.beq pc 26) (some (.getfield 17, 3, 6, 1, 2, 528, 0, 0)) none)
      (cond (Nat.blt pc 30)
       (cond (Nat.beq pc 29) (some (.iload_n 2, 1, 0, 0, 0, 0, 0, 0)) none)
       (cond (Nat.beq pc 30) (some (.aaload, 1, 0, 0, 0, 0, 0, 0)) none))))
    (cond (Nat.blt pc 36)
     (cond (Nat.blt pc 34)
      (cond (Nat.beq pc 31) (some (.invokevirtual 36, 3, 23, 0, 0, 1194, 0, 0)) none)
      (cond (Nat.blt pc 35)
       (cond (Nat.beq pc 34) (some (.iadd, 1, 0, 0, 0, 0, 0, 0)) none)
       (cond (Nat.beq pc 35) (some (.istore_n 1, 1, 0, 0, 0, 0, 0, 0)) none)))
     (cond (Nat.blt pc 42)
      (cond (Nat.blt pc 39)
       (cond (Nat.beq pc 36) (some (.iinc 2 1, 3, 0, 0, 0, 0, 1, 0)) none)
       (cond (Nat.beq pc 39) (some (.goto (-35), 3, 4, 0, 0, 0, 0, 0)) none))
      (cond (Nat.blt pc 43)
       (cond (Nat.beq pc 42) (some (.iload_n 1, 1, 0, 0, 0, 0, 0, 0)) none)
       (cond (Nat.beq pc 43) (some (.ireturn, 1, 0, 0, 0, 0, 0, 0)) none)))))) none
-- PrintHouse$Spool.processing ()LPrintHouse$Job;
def zc69 (pc : Nat) : Option z_I := cond (Nat.blt pc 38)
  (cond (Nat.blt pc 19)
   (cond (Nat.blt pc 7)
    (cond (Nat.blt pc 2)
     (cond (Nat.blt pc 1)
      (cond (Nat.beq pc 0) (some (.iconst 0, 1, 0, 0, 0, 0, 0, 0)) none)
      (cond (Nat.beq pc 1) (some (.istore_n 1, 1, 0, 0, 0, 0, 0, 0)) none))
     (cond (Nat.blt pc 3)
      (cond (Nat.beq pc 2) (some (.iload_n 1, 1, 0, 0, 0, 0, 0, 0)) none)
      (cond (Nat.blt pc 4)
       (cond (Nat.beq pc 3) (some (.aload_n 0, 1, 0, 0, 0, 0, 0, 0)) none)
       (cond (Nat.beq pc 4) (some (.getfield 26, 3, 6, 2, 0, 530, 0, 0)) none))))
    (cond (Nat.blt pc 14)
     (cond (Nat.blt pc 10)
      (cond (Nat.beq pc 7) (some (.if_icmp .ge 29, 3, 36, 0, 0, 0, 0, 0)) none)
      (cond (Nat.blt pc 11)
       (cond (Nat.beq pc 10) (some (.aload_n 0, 1, 0, 0, 0, 0, 0, 0)) none)
       (cond (Nat.beq pc 11) (some (.getfield 17, 3, 6, 1, 2, 528, 0, 0)) none)))
     (cond (Nat.blt pc 15)
      (cond (Nat.beq pc 14) (some (.iload_n 1, 1, 0, 0, 0, 0, 0, 0)) none)
      (cond (Nat.blt pc 16)
       (cond (Nat.beq pc 15) (some (.aaload, 1, 0, 0, 0, 0, 0, 0)) none)
       (cond (Nat.beq pc 16) (some (.getfield 40, 3, 3, 2, 0, 381, 0, 0)) none)))))
   (cond (Nat.blt pc 28)
    (cond (Nat.blt pc 23)
     (cond (Nat.blt pc 20)
      (cond (Nat.beq pc 19) (some (.iconst 5, 1, 0, 0, 0, 0, 5, 0)) none)
      (cond (Nat.beq pc 20) (some (.if_icmp .ne 10, 3, 30, 0, 0, 0, 0, 0)) none))
     (cond (Nat.blt pc 24)
      (cond (Nat.beq pc 23) (some (.aload_n 0, 1, 0, 0, 0, 0, 0, 0)) none)
      (cond (Nat.blt pc 27)
       (cond (Nat.beq pc 24) (some (.getfield 17, 3, 6, 1, 2, 528, 0, 0)) none)
       (cond (Nat.beq pc 27) (some (.iload_n 1, 1, 0, 0, 0, 0, 0, 0)) none))))
    (cond (Nat.blt pc 33)
     (cond (Nat.blt pc 29)
      (cond (Nat.beq pc 28) (some (.aaload, 1, 0, 0, 0, 0, 0, 0)) none)
      (cond (Nat.blt pc 30)
       (cond (Nat.beq pc 29) (some (.areturn, 1, 0, 0, 0, 0, 0, 0)) none)
       (cond (Nat.beq pc 30) (some (.iinc 1 1, 3, 0, 0, 0, 0, 1, 0)) none)))
     (cond (Nat.blt pc 36)
      (cond (Nat.beq pc 33) (some (.goto (-31), 3, 2, 0, 0, 0, 0, 0)) none)
      (cond (Nat.blt pc 37)
       (cond (Nat.beq pc 36) (some (.aconst_null, 1, 0, 0, 0, 0, 0, 0)) none)
       (cond (Nat.beq pc 37) (some (.areturn, 1, 0, 0, 0, 0, 0, 0)) none)))))) none
end
section
-- PrintHouse$Spool.firstPending ()LPrintHouse$Job;
def zc70 (pc : Nat) : Option z_I := cond (Nat.blt pc 57)
  (cond (Nat.blt pc 26)
   (cond (Nat.blt pc 12)
    (cond (Nat.blt pc 4)
     (cond (Nat.blt pc 2)
      (cond (Nat.blt pc 1)
       (cond (Nat.beq pc 0) (some (.aconst_null, 1, 0, 0, 0, 0, 0, 0)) none)
       (cond (Nat.beq pc 1) (some (.astore_n 1, 1, 0, 0, 0, 0, 0, 0)) none))
      (cond (Nat.blt pc 3)
       (cond (Nat.beq pc 2) (some (.iconst 0, 1, 0, 0, 0, 0, 0, 0)) none)
       (cond (Nat.beq pc 3) (some (.istore_n 2, 1, 0, 0, 0, 0, 0, 0)) none)))
     (cond (Nat.blt pc 6)
      (cond (Nat.blt pc 5)
       (cond (Nat.beq pc 4) (some (.iload_n 2, 1, 0, 0, 0, 0, 0, 0)) none)
       (cond (Nat.beq pc 5) (some (.aload_n 0, 1, 0, 0, 0, 0, 0, 0)) none))
      (cond (Nat.blt pc 9)
       (cond (Nat.beq pc 6) (some (.getfield 26, 3, 6, 2, 0, 530, 0, 0)) none)
       (cond (Nat.beq pc 9) (some (.if_icmp .ge 46, 3, 55, 0, 0, 0, 0, 0)) none))))
    (cond (Nat.blt pc 18)
     (cond (Nat.blt pc 16)
      (cond (Nat.blt pc 13)
       (cond (Nat.beq pc 12) (some (.aload_n 0, 1, 0, 0, 0, 0, 0, 0)) none)
       (cond (Nat.beq pc 13) (some (.getfield 17, 3, 6, 1, 2, 528, 0, 0)) none))
      (cond (Nat.blt pc 17)
       (cond (Nat.beq pc 16) (some (.iload_n 2, 1, 0, 0, 0, 0, 0, 0)) none)
       (cond (Nat.beq pc 17) (some (.aaload, 1, 0, 0, 0, 0, 0, 0)) none)))
     (cond (Nat.blt pc 22)
      (cond (Nat.blt pc 21)
       (cond (Nat.beq pc 18) (some (.getfield 40, 3, 3, 2, 0, 381, 0, 0)) none)
       (cond (Nat.beq pc 21) (some (.iconst 3, 1, 0, 0, 0, 0, 3, 0)) none))
      (cond (Nat.blt pc 25)
       (cond (Nat.beq pc 22) (some (.if_icmp .ne 27, 3, 49, 0, 0, 0, 0, 0)) none)
       (cond (Nat.beq pc 25) (some (.aload_n 1, 1, 0, 0, 0, 0, 0, 0)) none)))))
   (cond (Nat.blt pc 42)
    (cond (Nat.blt pc 34)
     (cond (Nat.blt pc 30)
      (cond (Nat.blt pc 29)
       (cond (Nat.beq pc 26) (some (.ifnull 16, 3, 42, 0, 0, 0, 0, 0)) none)
       (cond (Nat.beq pc 29) (some (.aload_n 0, 1, 0, 0, 0, 0, 0, 0)) none))
      (cond (Nat.blt pc 33)
       (cond (Nat.beq pc 30) (some (.getfield 17, 3, 6, 1, 2, 528, 0, 0)) none)
       (cond (Nat.beq pc 33) (some (.iload_n 2, 1, 0, 0, 0, 0, 0, 0)) none)))
     (cond (Nat.blt pc 36)
      (cond (Nat.blt pc 35)
       (cond (Nat.beq pc 34) (some (.aaload, 1, 0, 0, 0, 0, 0, 0)) none)
       (cond (Nat.beq pc 35) (some (.aload_n 1, 1, 0, 0, 0, 0, 0, 0)) none))
      (cond (Nat.blt pc 39)
       (cond (Nat.beq pc 36) (some (.invokestatic 43, 3, 72, 0, 0, 1370, 0, 0)) none)
       (cond (Nat.beq pc 39) (some (.ifCond .eq 10, 3, 49, 0, 0, 0, 0, 0)) none))))
    (cond (Nat.blt pc 48)
     (cond (Nat.blt pc 46)
      (cond (Nat.blt pc 43)
       (cond (Nat.beq pc 42) (some (.aload_n 0, 1, 0, 0, 0, 0, 0, 0)) none)
       (cond (Nat.beq pc 43) (some (.getfield 17, 3, 6, 1, 2, 528, 0, 0)) none))
      (cond (Nat.blt pc 47)
       (cond (Nat.beq pc 46) (some (.iload_n 2, 1, 0, 0, 0, 0, 0, 0)) none)
       (cond (Nat.beq pc 47) (some (.aaload, 1, 0, 0, 0, 0, 0, 0)) none)))
     (cond (Nat.blt pc 52)
      (cond (Nat.blt pc 49)
       (cond (Nat.beq pc 48) (some (.astore_n 1, 1, 0, 0, 0, 0, 0, 0)) none)
       (cond (Nat.beq pc 49) (some (.iinc 2 1, 3, 0, 0, 0, 0, 1, 0)) none))
      (cond (Nat.blt pc 55)
       (cond (Nat.beq pc 52) (some (.goto (-48), 3, 4, 0, 0, 0, 0, 0)) none)
       (cond (Nat.blt pc 56)
        (cond (Nat.beq pc 55) (some (.aload_n 1, 1, 0, 0, 0, 0, 0, 0)) none)
        (cond (Nat.beq pc 56) (some (.areturn, 1, 0, 0, 0, 0, 0, 0)) none))))))) none
-- PrintHouse$Spool.following (LPrintHouse$Job;)LPrintHouse$Job;
def zc71 (pc : Nat) : Option z_I := cond (Nat.blt pc 77)
  (cond (Nat.blt pc 35)
   (cond (Nat.blt pc 16)
    (cond (Nat.blt pc 5)
     (cond (Nat.blt pc 2)
      (cond (Nat.blt pc 1)
       (cond (Nat.beq pc 0) (some (.aconst_null, 1, 0, 0, 0, 0, 0, 0)) none)
       (cond (Nat.beq pc 1) (some (.astore_n 2, 1, 0, 0, 0, 0, 0, 0)) none))
      (cond (Nat.blt pc 3)
       (cond (Nat.beq pc 2) (some (.iconst 0, 1, 0, 0, 0, 0, 0, 0)) none)
       (cond (Nat.blt pc 4)
        (cond (Nat.beq pc 3) (some (.istore_n 3, 1, 0, 0, 0, 0, 0, 0)) none)
        (cond (Nat.beq pc 4) (some (.iload_n 3, 1, 0, 0, 0, 0, 0, 0)) none))))
     (cond (Nat.blt pc 9)
      (cond (Nat.blt pc 6)
       (cond (Nat.beq pc 5) (some (.aload_n 0, 1, 0, 0, 0, 0, 0, 0)) none)
       (cond (Nat.beq pc 6) (some (.getfield 26, 3, 6, 2, 0, 530, 0, 0)) none))
      (cond (Nat.blt pc 12)
       (cond (Nat.beq pc 9) (some (.if_icmp .ge 66, 3, 75, 0, 0, 0, 0, 0)) none)
       (cond (Nat.blt pc 13)
        (cond (Nat.beq pc 12) (some (.aload_n 0, 1, 0, 0, 0, 0, 0, 0)) none)
        (cond (Nat.beq pc 13) (some (.getfield 17, 3, 6, 1, 2, 528, 0, 0)) none)))))
    (cond (Nat.blt pc 25)
     (cond (Nat.blt pc 18)
      (cond (Nat.blt pc 17)
       (cond (Nat.beq pc 16) (some (.iload_n 3, 1, 0, 0, 0, 0, 0, 0)) none)
       (cond (Nat.beq pc 17) (some (.aaload, 1, 0, 0, 0, 0, 0, 0)) none))
      (cond (Nat.blt pc 20)
       (cond (Nat.beq pc 18) (some (.astore 4, 2, 0, 0, 0, 0, 0, 0)) none)
       (cond (Nat.blt pc 22)
        (cond (Nat.beq pc 20) (some (.aload 4, 2, 0, 0, 0, 0, 0, 0)) none)
        (cond (Nat.beq pc 22) (some (.invokevirtual 32, 3, 22, 0, 0, 1186, 0, 0)) none))))
     (cond (Nat.blt pc 29)
      (cond (Nat.blt pc 28)
       (cond (Nat.beq pc 25) (some (.ifCond .ne 20, 3, 45, 0, 0, 0, 0, 0)) none)
       (cond (Nat.beq pc 28) (some (.aload_n 1, 1, 0, 0, 0, 0, 0, 0)) none))
      (cond (Nat.blt pc 32)
       (cond (Nat.beq pc 29) (some (.ifnull 12, 3, 41, 0, 0, 0, 0, 0)) none)
       (cond (Nat.blt pc 33)
        (cond (Nat.beq pc 32) (some (.aload_n 1, 1, 0, 0, 0, 0, 0, 0)) none)
        (cond (Nat.beq pc 33) (some (.aload 4, 2, 0, 0, 0, 0, 0, 0)) none))))))
   (cond (Nat.blt pc 57)
    (cond (Nat.blt pc 46)
     (cond (Nat.blt pc 41)
      (cond (Nat.blt pc 38)
       (cond (Nat.beq pc 35) (some (.invokestatic 43, 3, 72, 0, 0, 1370, 0, 0)) none)
       (cond (Nat.beq pc 38) (some (.ifCond .eq 7, 3, 45, 0, 0, 0, 0, 0)) none))
      (cond (Nat.blt pc 42)
       (cond (Nat.beq pc 41) (some (.iconst 1, 1, 0, 0, 0, 0, 1, 0)) none)
       (cond (Nat.blt pc 45)
        (cond (Nat.beq pc 42) (some (.goto 4, 3, 46, 0, 0, 0, 0, 0)) none)
        (cond (Nat.beq pc 45) (some (.iconst 0, 1, 0, 0, 0, 0, 0, 0)) none))))
     (cond (Nat.blt pc 50)
      (cond (Nat.blt pc 48)
       (cond (Nat.beq pc 46) (some (.istore 5, 2, 0, 0, 0, 0, 0, 0)) none)
       (cond (Nat.beq pc 48) (some (.iload 5, 2, 0, 0, 0, 0, 0, 0)) none))
      (cond (Nat.blt pc 53)
       (cond (Nat.beq pc 50) (some (.ifCond .eq 19, 3, 69, 0, 0, 0, 0, 0)) none)
       (cond (Nat.blt pc 54)
        (cond (Nat.beq pc 53) (some (.aload_n 2, 1, 0, 0, 0, 0, 0, 0)) none)
        (cond (Nat.beq pc 54) (some (.ifnull 12, 3, 66, 0, 0, 0, 0, 0)) none)))))
    (cond (Nat.blt pc 68)
     (cond (Nat.blt pc 60)
      (cond (Nat.blt pc 59)
       (cond (Nat.beq pc 57) (some (.aload 4, 2, 0, 0, 0, 0, 0, 0)) none)
       (cond (Nat.beq pc 59) (some (.aload_n 2, 1, 0, 0, 0, 0, 0, 0)) none))
      (cond (Nat.blt pc 63)
       (cond (Nat.beq pc 60) (some (.invokestatic 43, 3, 72, 0, 0, 1370, 0, 0)) none)
       (cond (Nat.blt pc 66)
        (cond (Nat.beq pc 63) (some (.ifCond .eq 6, 3, 69, 0, 0, 0, 0, 0)) none)
        (cond (Nat.beq pc 66) (some (.aload 4, 2, 0, 0, 0, 0, 0, 0)) none))))
     (cond (Nat.blt pc 72)
      (cond (Nat.blt pc 69)
       (cond (Nat.beq pc 68) (some (.astore_n 2, 1, 0, 0, 0, 0, 0, 0)) none)
       (cond (Nat.beq pc 69) (some (.iinc 3 1, 3, 0, 0, 0, 0, 1, 0)) none))
      (cond (Nat.blt pc 75)
       (cond (Nat.beq pc 72) (some (.goto (-68), 3, 4, 0, 0, 0, 0, 0)) none)
       (cond (Nat.blt pc 76)
        (cond (Nat.beq pc 75) (some (.aload_n 2, 1, 0, 0, 0, 0, 0, 0)) none)
        (cond (Nat.beq pc 76) (some (.areturn, 1, 0, 0, 0, 0, 0, 0)) none))))))) none
-- PrintHouse$Spool.isBefore (LPrintHouse$Job;LPrintHouse$Job;)Z
def zc72 (pc : Nat) : Option z_I := cond (Nat.blt pc 88)
  (cond (Nat.blt pc 43)
   (cond (Nat.blt pc 21)
    (cond (Nat.blt pc 9)
     (cond (Nat.blt pc 4)
      (cond (Nat.blt pc 1)
       (cond (Nat.beq pc 0) (some (.aload_n 0, 1, 0, 0, 0, 0, 0, 0)) none)
       (cond (Nat.beq pc 1) (some (.getfield 40, 3, 3, 2, 0, 381, 0, 0)) none))
      (cond (Nat.blt pc 5)
       (cond (Nat.beq pc 4) (some (.iconst 5, 1, 0, 0, 0, 0, 5, 0)) none)
       (cond (Nat.blt pc 8)
        (cond (Nat.beq pc 5) (some (.if_icmp .ne 7, 3, 12, 0, 0, 0, 0, 0)) none)
        (cond (Nat.beq pc 8) (some (.iconst 1, 1, 0, 0, 0, 0, 1, 0)) none))))
     (cond (Nat.blt pc 14)
      (cond (Nat.blt pc 12)
       (cond (Nat.beq pc 9) (some (.goto 4, 3, 13, 0, 0, 0, 0, 0)) none)
       (cond (Nat.blt pc 13)
        (cond (Nat.beq pc 12) (some (.iconst 0, 1, 0, 0, 0, 0, 0, 0)) none)
        (cond (Nat.beq pc 13) (some (.aload_n 1, 1, 0, 0, 0, 0, 0, 0)) none)))
      (cond (Nat.blt pc 17)
       (cond (Nat.beq pc 14) (some (.getfield 40, 3, 3, 2, 0, 381, 0, 0)) none)
       (cond (Nat.blt pc 18)
        (cond (Nat.beq pc 17) (some (.iconst 5, 1, 0, 0, 0, 0, 5, 0)) none)
        (cond (Nat.beq pc 18) (some (.if_icmp .ne 7, 3, 25, 0, 0, 0, 0, 0)) none)))))
    (cond (Nat.blt pc 33)
     (cond (Nat.blt pc 26)
      (cond (Nat.blt pc 22)
       (cond (Nat.beq pc 21) (some (.iconst 1, 1, 0, 0, 0, 0, 1, 0)) none)
       (cond (Nat.blt pc 25)
        (cond (Nat.beq pc 22) (some (.goto 4, 3, 26, 0, 0, 0, 0, 0)) none)
        (cond (Nat.beq pc 25) (some (.iconst 0, 1, 0, 0, 0, 0, 0, 0)) none)))
      (cond (Nat.blt pc 29)
       (cond (Nat.beq pc 26) (some (.if_icmp .eq 17, 3, 43, 0, 0, 0, 0, 0)) none)
       (cond (Nat.blt pc 30)
        (cond (Nat.beq pc 29) (some (.aload_n 0, 1, 0, 0, 0, 0, 0, 0)) none)
        (cond (Nat.beq pc 30) (some (.getfield 40, 3, 3, 2, 0, 381, 0, 0)) none))))
     (cond (Nat.blt pc 38)
      (cond (Nat.blt pc 34)
       (cond (Nat.beq pc 33) (some (.iconst 5, 1, 0, 0, 0, 0, 5, 0)) none)
       (cond (Nat.blt pc 37)
        (cond (Nat.beq pc 34) (some (.if_icmp .ne 7, 3, 41, 0, 0, 0, 0, 0)) none)
        (cond (Nat.beq pc 37) (some (.iconst 1, 1, 0, 0, 0, 0, 1, 0)) none)))
      (cond (Nat.blt pc 41)
       (cond (Nat.beq pc 38) (some (.goto 4, 3, 42, 0, 0, 0, 0, 0)) none)
       (cond (Nat.blt pc 42)
        (cond (Nat.beq pc 41) (some (.iconst 0, 1, 0, 0, 0, 0, 0, 0)) none)
        (cond (Nat.beq pc 42) (some (.ireturn, 1, 0, 0, 1, 0, 0, 0)) none))))))
   (cond (Nat.blt pc 66)
    (cond (Nat.blt pc 54)
     (cond (Nat.blt pc 47)
      (cond (Nat.blt pc 44)
       (cond (Nat.beq pc 43) (some (.aload_n 0, 1, 0, 0, 0, 0, 0, 0)) none)
       (cond (Nat.beq pc 44) (some (.getfield 47, 3, 3, 4, 0, 391, 0, 0)) none))
      (cond (Nat.blt pc 48)
       (cond (Nat.beq pc 47) (some (.aload_n 1, 1, 0, 0, 0, 0, 0, 0)) none)
       (cond (Nat.blt pc 51)
        (cond (Nat.beq pc 48) (some (.getfield 47, 3, 3, 4, 0, 391, 0, 0)) none)
        (cond (Nat.beq pc 51) (some (.if_icmp .eq 20, 3, 71, 0, 0, 0, 0, 0)) none))))
     (cond (Nat.blt pc 59)
      (cond (Nat.blt pc 55)
       (cond (Nat.beq pc 54) (some (.aload_n 0, 1, 0, 0, 0, 0, 0, 0)) none)
       (cond (Nat.blt pc 58)
        (cond (Nat.beq pc 55) (some (.getfield 47, 3, 3, 4, 0, 391, 0, 0)) none)
        (cond (Nat.beq pc 58) (some (.aload_n 1, 1, 0, 0, 0, 0, 0, 0)) none)))
      (cond (Nat.blt pc 62)
       (cond (Nat.beq pc 59) (some (.getfield 47, 3, 3, 4, 0, 391, 0, 0)) none)
       (cond (Nat.blt pc 65)
        (cond (Nat.beq pc 62) (some (.if_icmp .le 7, 3, 69, 0, 0, 0, 0, 0)) none)
        (cond (Nat.beq pc 65) (some (.iconst 1, 1, 0, 0, 0, 0, 1, 0)) none)))))
    (cond (Nat.blt pc 76)
     (cond (Nat.blt pc 71)
      (cond (Nat.blt pc 69)
       (cond (Nat.beq pc 66) (some (.goto 4, 3, 70, 0, 0, 0, 0, 0)) none)
       (cond (Nat.blt pc 70)
        (cond (Nat.beq pc 69) (some (.iconst 0, 1, 0, 0, 0, 0, 0, 0)) none)
        (cond (Nat.beq pc 70) (some (.ireturn, 1, 0, 0, 1, 0, 0, 0)) none)))
      (cond (Nat.blt pc 72)
       (cond (Nat.beq pc 71) (some (.aload_n 0, 1, 0, 0, 0, 0, 0, 0)) none)
       (cond (Nat.blt pc 75)
        (cond (Nat.beq pc 72) (some (.getfield 29, 3, 3, 1, 0, 375, 0, 0)) none)
        (cond (Nat.beq pc 75) (some (.aload_n 1, 1, 0, 0, 0, 0, 0, 0)) none))))
     (cond (Nat.blt pc 83)
      (cond (Nat.blt pc 79)
       (cond (Nat.beq pc 76) (some (.getfield 29, 3, 3, 1, 0, 375, 0, 0)) none)
       (cond (Nat.blt pc 82)
        (cond (Nat.beq pc 79) (some (.if_icmp .ge 7, 3, 86, 0, 0, 0, 0, 0)) none)
        (cond (Nat.beq pc 82) (some (.iconst 1, 1, 0, 0, 0, 0, 1, 0)) none)))
      (cond (Nat.blt pc 86)
       (cond (Nat.beq pc 83) (some (.goto 4, 3, 87, 0, 0, 0, 0, 0)) none)
       (cond (Nat.blt pc 87)
        (cond (Nat.beq pc 86) (some (.iconst 0, 1, 0, 0, 0, 0, 0, 0)) none)
        (cond (Nat.beq pc 87) (some (.ireturn, 1, 0, 0, 1, 0, 0, 0)) none))))))) none
-- PrintHouse$Spool.admit (LPrintHouse$Job;)Z
def zc73 (pc : Nat) : Option z_I := cond (Nat.blt pc 73)
  (cond (Nat.blt pc 39)
   (cond (Nat.blt pc 19)
    (cond (Nat.blt pc 11)
     (cond (Nat.blt pc 2)
      (cond (Nat.blt pc 1)
       (cond (Nat.beq pc 0) (some (.aload_n 0, 1, 0, 0, 0, 0, 0, 0)) none)
       (cond (Nat.beq pc 1) (some (.aload_n 1, 1, 0, 0, 0, 0, 0, 0)) none))
      (cond (Nat.blt pc 5)
       (cond (Nat.beq pc 2) (some (.invokevirtual 36, 3, 23, 0, 0, 1194, 0, 0)) none)
       (cond (Nat.blt pc 8)
        (cond (Nat.beq pc 5) (some (.invokevirtual 50, 3, 75, 0, 0, 1278, 0, 0)) none)
        (cond (Nat.beq pc 8) (some (.ifCond .ne 5, 3, 13, 0, 0, 0, 0, 0)) none))))
     (cond (Nat.blt pc 13)
      (cond (Nat.blt pc 12)
       (cond (Nat.beq pc 11) (some (.iconst 0, 1, 0, 0, 0, 0, 0, 0)) none)
       (cond (Nat.beq pc 12) (some (.ireturn, 1, 0, 0, 1, 0, 0, 0)) none))
      (cond (Nat.blt pc 14)
       (cond (Nat.beq pc 13) (some (.aload_n 0, 1, 0, 0, 0, 0, 0, 0)) none)
       (cond (Nat.blt pc 17)
        (cond (Nat.beq pc 14) (some (.getfield 26, 3, 6, 2, 0, 530, 0, 0)) none)
        (cond (Nat.beq pc 17) (some (.bipush 20, 2, 0, 0, 0, 0, 20, 0)) none)))))
    (cond (Nat.blt pc 30)
     (cond (Nat.blt pc 23)
      (cond (Nat.blt pc 22)
       (cond (Nat.beq pc 19) (some (.if_icmp .ge 52, 3, 71, 0, 0, 0, 0, 0)) none)
       (cond (Nat.beq pc 22) (some (.aload_n 0, 1, 0, 0, 0, 0, 0, 0)) none))
      (cond (Nat.blt pc 26)
       (cond (Nat.beq pc 23) (some (.getfield 17, 3, 6, 1, 2, 528, 0, 0)) none)
       (cond (Nat.blt pc 27)
        (cond (Nat.beq pc 26) (some (.aload_n 0, 1, 0, 0, 0, 0, 0, 0)) none)
        (cond (Nat.beq pc 27) (some (.getfield 26, 3, 6, 2, 0, 530, 0, 0)) none))))
     (cond (Nat.blt pc 32)
      (cond (Nat.blt pc 31)
       (cond (Nat.beq pc 30) (some (.aaload, 1, 0, 0, 0, 0, 0, 0)) none)
       (cond (Nat.beq pc 31) (some (.aload_n 1, 1, 0, 0, 0, 0, 0, 0)) none))
      (cond (Nat.blt pc 35)
       (cond (Nat.beq pc 32) (some (.invokevirtual 54, 3, 17, 0, 0, 1312, 0, 0)) none)
       (cond (Nat.blt pc 36)
        (cond (Nat.beq pc 35) (some (.aload_n 0, 1, 0, 0, 0, 0, 0, 0)) none)
        (cond (Nat.beq pc 36) (some (.getfield 17, 3, 6, 1, 2, 528, 0, 0)) none))))))
   (cond (Nat.blt pc 57)
    (cond (Nat.blt pc 48)
     (cond (Nat.blt pc 43)
      (cond (Nat.blt pc 40)
       (cond (Nat.beq pc 39) (some (.aload_n 0, 1, 0, 0, 0, 0, 0, 0)) none)
       (cond (Nat.beq pc 40) (some (.getfield 26, 3, 6, 2, 0, 530, 0, 0)) none))
      (cond (Nat.blt pc 44)
       (cond (Nat.beq pc 43) (some (.aaload, 1, 0, 0, 0, 0, 0, 0)) none)
       (cond (Nat.blt pc 45)
        (cond (Nat.beq pc 44) (some (.aload_n 0, 1, 0, 0, 0, 0, 0, 0)) none)
        (cond (Nat.beq pc 45) (some (.getfield 22, 3, 6, 3, 0, 534, 0, 0)) none))))
     (cond (Nat.blt pc 52)
      (cond (Nat.blt pc 51)
       (cond (Nat.beq pc 48) (some (.putfield 29, 3, 3, 1, 0, 375, 0, 0)) none)
       (cond (Nat.beq pc 51) (some (.aload_n 0, 1, 0, 0, 0, 0, 0, 0)) none))
      (cond (Nat.blt pc 53)
       (cond (Nat.beq pc 52) (some (.dup, 1, 0, 0, 0, 0, 0, 0)) none)
       (cond (Nat.blt pc 56)
        (cond (Nat.beq pc 53) (some (.getfield 26, 3, 6, 2, 0, 530, 0, 0)) none)
        (cond (Nat.beq pc 56) (some (.iconst 1, 1, 0, 0, 0, 0, 1, 0)) none)))))
    (cond (Nat.blt pc 66)
     (cond (Nat.blt pc 61)
      (cond (Nat.blt pc 58)
       (cond (Nat.beq pc 57) (some (.iadd, 1, 0, 0, 0, 0, 0, 0)) none)
       (cond (Nat.beq pc 58) (some (.putfield 26, 3, 6, 2, 0, 530, 0, 0)) none))
      (cond (Nat.blt pc 62)
       (cond (Nat.beq pc 61) (some (.aload_n 0, 1, 0, 0, 0, 0, 0, 0)) none)
       (cond (Nat.blt pc 63)
        (cond (Nat.beq pc 62) (some (.dup, 1, 0, 0, 0, 0, 0, 0)) none)
        (cond (Nat.beq pc 63) (some (.getfield 22, 3, 6, 3, 0, 534, 0, 0)) none))))
     (cond (Nat.blt pc 68)
      (cond (Nat.blt pc 67)
       (cond (Nat.beq pc 66) (some (.iconst 1, 1, 0, 0, 0, 0, 1, 0)) none)
       (cond (Nat.beq pc 67) (some (.iadd, 1, 0, 0, 0, 0, 0, 0)) none))
      (cond (Nat.blt pc 71)
       (cond (Nat.beq pc 68) (some (.putfield 22, 3, 6, 3, 0, 534, 0, 0)) none)
       (cond (Nat.blt pc 72)
        (cond (Nat.beq pc 71) (some (.iconst 1, 1, 0, 0, 0, 0, 1, 0)) none)
        (cond (Nat.beq pc 72) (some (.ireturn, 1, 0, 0, 1, 0, 0, 0)) none))))))) none
-- PrintHouse$Spool.changeState (LPrintHouse$Job;I)Z
def zc74 (pc : Nat) : Option z_I := cond (Nat.blt pc 17)
  (cond (Nat.blt pc 9)
   (cond (Nat.blt pc 2)
    (cond (Nat.blt pc 1)
     (cond (Nat.beq pc 0) (some (.aload_n 0, 1, 0, 0, 0, 0, 0, 0)) none)
     (cond (Nat.beq pc 1) (some (.iconst 1, 1, 0, 0, 0, 0, 1, 0)) none))
    (cond (Nat.blt pc 5)
     (cond (Nat.beq pc 2) (some (.invokevirtual 50, 3, 75, 0, 0, 1278, 0, 0)) none)
     (cond (Nat.blt pc 8)
      (cond (Nat.beq pc 5) (some (.ifCond .ne 5, 3, 10, 0, 0, 0, 0, 0)) none)
      (cond (Nat.beq pc 8) (some (.iconst 0, 1, 0, 0, 0, 0, 0, 0)) none))))
   (cond (Nat.blt pc 12)
    (cond (Nat.blt pc 10)
     (cond (Nat.beq pc 9) (some (.ireturn, 1, 0, 0, 1, 0, 0, 0)) none)
     (cond (Nat.blt pc 11)
      (cond (Nat.beq pc 10) (some (.aload_n 1, 1, 0, 0, 0, 0, 0, 0)) none)
      (cond (Nat.beq pc 11) (some (.iload_n 2, 1, 0, 0, 0, 0, 0, 0)) none)))
    (cond (Nat.blt pc 15)
     (cond (Nat.beq pc 12) (some (.putfield 40, 3, 3, 2, 0, 381, 0, 0)) none)
     (cond (Nat.blt pc 16)
      (cond (Nat.beq pc 15) (some (.iconst 1, 1, 0, 0, 0, 0, 1, 0)) none)
      (cond (Nat.beq pc 16) (some (.ireturn, 1, 0, 0, 1, 0, 0, 0)) none))))) none
-- PrintHouse$Spool.isLogged (I)Z
def zc75 (pc : Nat) : Option z_I := cond (Nat.blt pc 51)
  (cond (Nat.blt pc 27)
   (cond (Nat.blt pc 14)
    (cond (Nat.blt pc 7)
     (cond (Nat.blt pc 1)
      (cond (Nat.beq pc 0) (some (.aload_n 0, 1, 0, 0, 0, 0, 0, 0)) none)
      (cond (Nat.blt pc 4)
       (cond (Nat.beq pc 1) (some (.getfield 9, 3, 6, 0, 2, 526, 0, 0)) none)
       (cond (Nat.beq pc 4) (some (.getfield 58, 3, 5, 1, 0, 483, 0, 0)) none)))
     (cond (Nat.blt pc 9)
      (cond (Nat.blt pc 8)
       (cond (Nat.beq pc 7) (some (.iload_n 1, 1, 0, 0, 0, 0, 0, 0)) none)
       (cond (Nat.beq pc 8) (some (.iadd, 1, 0, 0, 0, 0, 0, 0)) none))
      (cond (Nat.blt pc 11)
       (cond (Nat.beq pc 9) (some (.bipush 40, 2, 0, 0, 0, 0, 40, 0)) none)
       (cond (Nat.beq pc 11) (some (.if_icmp .le 12, 3, 23, 0, 0, 0, 0, 0)) none))))
    (cond (Nat.blt pc 21)
     (cond (Nat.blt pc 15)
      (cond (Nat.beq pc 14) (some (.aload_n 0, 1, 0, 0, 0, 0, 0, 0)) none)
      (cond (Nat.blt pc 18)
       (cond (Nat.beq pc 15) (some (.invokevirtual 63, 3, 76, 0, 0, 1286, 0, 0)) none)
       (cond (Nat.beq pc 18) (some (.ifCond .ne 5, 3, 23, 0, 0, 0, 0, 0)) none)))
     (cond (Nat.blt pc 23)
      (cond (Nat.blt pc 22)
       (cond (Nat.beq pc 21) (some (.iconst 0, 1, 0, 0, 0, 0, 0, 0)) none)
       (cond (Nat.beq pc 22) (some (.ireturn, 1, 0, 0, 1, 0, 0, 0)) none))
      (cond (Nat.blt pc 24)
       (cond (Nat.beq pc 23) (some (.aload_n 0, 1, 0, 0, 0, 0, 0, 0)) none)
       (cond (Nat.beq pc 24) (some (.getfield 9, 3, 6, 0, 2, 526, 0, 0)) none)))))
   (cond (Nat.blt pc 40)
    (cond (Nat.blt pc 34)
     (cond (Nat.blt pc 28)
      (cond (Nat.beq pc 27) (some (.iload_n 1, 1, 0, 0, 0, 0, 0, 0)) none)
      (cond (Nat.blt pc 31)
       (cond (Nat.beq pc 28) (some (.invokevirtual 66, 3, 15, 0, 0, 1296, 0, 0)) none)
       (cond (Nat.beq pc 31) (some (.ifCond .ne 5, 3, 36, 0, 0, 0, 0, 0)) none)))
     (cond (Nat.blt pc 36)
      (cond (Nat.blt pc 35)
       (cond (Nat.beq pc 34) (some (.iconst 0, 1, 0, 0, 0, 0, 0, 0)) none)
       (cond (Nat.beq pc 35) (some (.ireturn, 1, 0, 0, 1, 0, 0, 0)) none))
      (cond (Nat.blt pc 37)
       (cond (Nat.beq pc 36) (some (.aload_n 0, 1, 0, 0, 0, 0, 0, 0)) none)
       (cond (Nat.beq pc 37) (some (.getfield 9, 3, 6, 0, 2, 526, 0, 0)) none))))
    (cond (Nat.blt pc 45)
     (cond (Nat.blt pc 41)
      (cond (Nat.beq pc 40) (some (.dup, 1, 0, 0, 0, 0, 0, 0)) none)
      (cond (Nat.blt pc 44)
       (cond (Nat.beq pc 41) (some (.getfield 58, 3, 5, 1, 0, 483, 0, 0)) none)
       (cond (Nat.beq pc 44) (some (.iload_n 1, 1, 0, 0, 0, 0, 0, 0)) none)))
     (cond (Nat.blt pc 49)
      (cond (Nat.blt pc 46)
       (cond (Nat.beq pc 45) (some (.iadd, 1, 0, 0, 0, 0, 0, 0)) none)
       (cond (Nat.beq pc 46) (some (.putfield 58, 3, 5, 1, 0, 483, 0, 0)) none))
      (cond (Nat.blt pc 50)
       (cond (Nat.beq pc 49) (some (.iconst 1, 1, 0, 0, 0, 0, 1, 0)) none)
       (cond (Nat.beq pc 50) (some (.ireturn, 1, 0, 0, 1, 0, 0, 0)) none)))))) none
-- PrintHouse$Spool.isLogRenewed ()Z
def zc76 (pc : Nat) : Option z_I := cond (Nat.blt pc 34)
  (cond (Nat.blt pc 18)
   (cond (Nat.blt pc 9)
    (cond (Nat.blt pc 4)
     (cond (Nat.blt pc 1)
      (cond (Nat.beq pc 0) (some (.aload_n 0, 1, 0, 0, 0, 0, 0, 0)) none)
      (cond (Nat.beq pc 1) (some (.invokevirtual 69, 3, 68, 0, 0, 1294, 0, 0)) none))
     (cond (Nat.blt pc 5)
      (cond (Nat.beq pc 4) (some (.istore_n 1, 1, 0, 0, 0, 0, 0, 0)) none)
      (cond (Nat.blt pc 6)
       (cond (Nat.beq pc 5) (some (.aload_n 0, 1, 0, 0, 0, 0, 0, 0)) none)
       (cond (Nat.beq pc 6) (some (.getfield 9, 3, 6, 0, 2, 526, 0, 0)) none))))
    (cond (Nat.blt pc 11)
     (cond (Nat.blt pc 10)
      (cond (Nat.beq pc 9) (some (.iload_n 1, 1, 0, 0, 0, 0, 0, 0)) none)
      (cond (Nat.beq pc 10) (some (.iconst 1, 1, 0, 0, 0, 0, 1, 0)) none))
     (cond (Nat.blt pc 12)
      (cond (Nat.beq pc 11) (some (.iadd, 1, 0, 0, 0, 0, 0, 0)) none)
      (cond (Nat.blt pc 15)
       (cond (Nat.beq pc 12) (some (.invokevirtual 66, 3, 15, 0, 0, 1296, 0, 0)) none)
       (cond (Nat.beq pc 15) (some (.ifCond .ne 5, 3, 20, 0, 0, 0, 0, 0)) none)))))
   (cond (Nat.blt pc 25)
    (cond (Nat.blt pc 20)
     (cond (Nat.blt pc 19)
      (cond (Nat.beq pc 18) (some (.iconst 0, 1, 0, 0, 0, 0, 0, 0)) none)
      (cond (Nat.beq pc 19) (some (.ireturn, 1, 0, 0, 1, 0, 0, 0)) none))
     (cond (Nat.blt pc 21)
      (cond (Nat.beq pc 20) (some (.aload_n 0, 1, 0, 0, 0, 0, 0, 0)) none)
      (cond (Nat.blt pc 24)
       (cond (Nat.beq pc 21) (some (.getfield 9, 3, 6, 0, 2, 526, 0, 0)) none)
       (cond (Nat.beq pc 24) (some (.iload_n 1, 1, 0, 0, 0, 0, 0, 0)) none))))
    (cond (Nat.blt pc 29)
     (cond (Nat.blt pc 28)
      (cond (Nat.beq pc 25) (some (.putfield 58, 3, 5, 1, 0, 483, 0, 0)) none)
      (cond (Nat.beq pc 28) (some (.aload_n 0, 1, 0, 0, 0, 0, 0, 0)) none))
     (cond (Nat.blt pc 32)
      (cond (Nat.beq pc 29) (some (.invokevirtual 72, 3, 77, 0, 0, 1304, 0, 0)) none)
      (cond (Nat.blt pc 33)
       (cond (Nat.beq pc 32) (some (.iconst 1, 1, 0, 0, 0, 0, 1, 0)) none)
       (cond (Nat.beq pc 33) (some (.ireturn, 1, 0, 0, 1, 0, 0, 0)) none)))))) none
-- PrintHouse$Spool.forgetEnded ()V
def zc77 (pc : Nat) : Option z_I := cond (Nat.blt pc 60)
  (cond (Nat.blt pc 30)
   (cond (Nat.blt pc 13)
    (cond (Nat.blt pc 4)
     (cond (Nat.blt pc 2)
      (cond (Nat.blt pc 1)
       (cond (Nat.beq pc 0) (some (.iconst 0, 1, 0, 0, 0, 0, 0, 0)) none)
       (cond (Nat.beq pc 1) (some (.istore_n 1, 1, 0, 0, 0, 0, 0, 0)) none))
      (cond (Nat.blt pc 3)
       (cond (Nat.beq pc 2) (some (.iconst 0, 1, 0, 0, 0, 0, 0, 0)) none)
       (cond (Nat.beq pc 3) (some (.istore_n 2, 1, 0, 0, 0, 0, 0, 0)) none)))
     (cond (Nat.blt pc 6)
      (cond (Nat.blt pc 5)
       (cond (Nat.beq pc 4) (some (.iload_n 2, 1, 0, 0, 0, 0, 0, 0)) none)
       (cond (Nat.beq pc 5) (some (.aload_n 0, 1, 0, 0, 0, 0, 0, 0)) none))
      (cond (Nat.blt pc 9)
       (cond (Nat.beq pc 6) (some (.getfield 26, 3, 6, 2, 0, 530, 0, 0)) none)
       (cond (Nat.blt pc 12)
        (cond (Nat.beq pc 9) (some (.if_icmp .ge 45, 3, 54, 0, 0, 0, 0, 0)) none)
        (cond (Nat.beq pc 12) (some (.aload_n 0, 1, 0, 0, 0, 0, 0, 0)) none)))))
    (cond (Nat.blt pc 19)
     (cond (Nat.blt pc 17)
      (cond (Nat.blt pc 16)
       (cond (Nat.beq pc 13) (some (.getfield 17, 3, 6, 1, 2, 528, 0, 0)) none)
       (cond (Nat.beq pc 16) (some (.iload_n 2, 1, 0, 0, 0, 0, 0, 0)) none))
      (cond (Nat.blt pc 18)
       (cond (Nat.beq pc 17) (some (.aaload, 1, 0, 0, 0, 0, 0, 0)) none)
       (cond (Nat.beq pc 18) (some (.astore_n 3, 1, 0, 0, 0, 0, 0, 0)) none)))
     (cond (Nat.blt pc 23)
      (cond (Nat.blt pc 20)
       (cond (Nat.beq pc 19) (some (.aload_n 3, 1, 0, 0, 0, 0, 0, 0)) none)
       (cond (Nat.beq pc 20) (some (.invokevirtual 32, 3, 22, 0, 0, 1186, 0, 0)) none))
      (cond (Nat.blt pc 26)
       (cond (Nat.beq pc 23) (some (.ifCond .ne 25, 3, 48, 0, 0, 0, 0, 0)) none)
       (cond (Nat.blt pc 27)
        (cond (Nat.beq pc 26) (some (.aload_n 0, 1, 0, 0, 0, 0, 0, 0)) none)
        (cond (Nat.beq pc 27) (some (.getfield 17, 3, 6, 1, 2, 528, 0, 0)) none))))))
   (cond (Nat.blt pc 43)
    (cond (Nat.blt pc 36)
     (cond (Nat.blt pc 32)
      (cond (Nat.blt pc 31)
       (cond (Nat.beq pc 30) (some (.iload_n 2, 1, 0, 0, 0, 0, 0, 0)) none)
       (cond (Nat.beq pc 31) (some (.aload_n 0, 1, 0, 0, 0, 0, 0, 0)) none))
      (cond (Nat.blt pc 35)
       (cond (Nat.beq pc 32) (some (.getfield 17, 3, 6, 1, 2, 528, 0, 0)) none)
       (cond (Nat.beq pc 35) (some (.iload_n 1, 1, 0, 0, 0, 0, 0, 0)) none)))
     (cond (Nat.blt pc 38)
      (cond (Nat.blt pc 37)
       (cond (Nat.beq pc 36) (some (.aaload, 1, 0, 0, 0, 0, 0, 0)) none)
       (cond (Nat.beq pc 37) (some (.aastore, 1, 3, 0, 0, 0, 0, 0)) none))
      (cond (Nat.blt pc 39)
       (cond (Nat.beq pc 38) (some (.aload_n 0, 1, 0, 0, 0, 0, 0, 0)) none)
       (cond (Nat.blt pc 42)
        (cond (Nat.beq pc 39) (some (.getfield 17, 3, 6, 1, 2, 528, 0, 0)) none)
        (cond (Nat.beq pc 42) (some (.iload_n 1, 1, 0, 0, 0, 0, 0, 0)) none)))))
    (cond (Nat.blt pc 51)
     (cond (Nat.blt pc 45)
      (cond (Nat.blt pc 44)
       (cond (Nat.beq pc 43) (some (.aload_n 3, 1, 0, 0, 0, 0, 0, 0)) none)
       (cond (Nat.beq pc 44) (some (.aastore, 1, 3, 0, 0, 0, 0, 0)) none))
      (cond (Nat.blt pc 48)
       (cond (Nat.beq pc 45) (some (.iinc 1 1, 3, 0, 0, 0, 0, 1, 0)) none)
       (cond (Nat.beq pc 48) (some (.iinc 2 1, 3, 0, 0, 0, 0, 1, 0)) none)))
     (cond (Nat.blt pc 55)
      (cond (Nat.blt pc 54)
       (cond (Nat.beq pc 51) (some (.goto (-47), 3, 4, 0, 0, 0, 0, 0)) none)
       (cond (Nat.beq pc 54) (some (.aload_n 0, 1, 0, 0, 0, 0, 0, 0)) none))
      (cond (Nat.blt pc 56)
       (cond (Nat.beq pc 55) (some (.iload_n 1, 1, 0, 0, 0, 0, 0, 0)) none)
       (cond (Nat.blt pc 59)
        (cond (Nat.beq pc 56) (some (.putfield 26, 3, 6, 2, 0, 530, 0, 0)) none)
        (cond (Nat.beq pc 59) (some (.return_, 1, 0, 0, 0, 0, 0, 0)) none))))))) none
-- PrintHouse$Spool.beginPassesAnew ()V
def zc78 (pc : Nat) : Option z_I := cond (Nat.blt pc 41)
  (cond (Nat.blt pc 19)
   (cond (Nat.blt pc 7)
    (cond (Nat.blt pc 2)
     (cond (Nat.blt pc 1)
      (cond (Nat.beq pc 0) (some (.iconst 0, 1, 0, 0, 0, 0, 0, 0)) none)
      (cond (Nat.beq pc 1) (some (.istore_n 1, 1, 0, 0, 0, 0, 0, 0)) none))
     (cond (Nat.blt pc 3)
      (cond (Nat.beq pc 2) (some (.iload_n 1, 1, 0, 0, 0, 0, 0, 0)) none)
      (cond (Nat.blt pc 4)
       (cond (Nat.beq pc 3) (some (.aload_n 0, 1, 0, 0, 0, 0, 0, 0)) none)
       (cond (Nat.beq pc 4) (some (.getfield 26, 3, 6, 2, 0, 530, 0, 0)) none))))
    (cond (Nat.blt pc 14)
     (cond (Nat.blt pc 10)
      (cond (Nat.beq pc 7) (some (.if_icmp .ge 33, 3, 40, 0, 0, 0, 0, 0)) none)
      (cond (Nat.blt pc 11)
       (cond (Nat.beq pc 10) (some (.aload_n 0, 1, 0, 0, 0, 0, 0, 0)) none)
       (cond (Nat.beq pc 11) (some (.getfield 17, 3, 6, 1, 2, 528, 0, 0)) none)))
     (cond (Nat.blt pc 15)
      (cond (Nat.beq pc 14) (some (.iload_n 1, 1, 0, 0, 0, 0, 0, 0)) none)
      (cond (Nat.blt pc 16)
       (cond (Nat.beq pc 15) (some (.aaload, 1, 0, 0, 0, 0, 0, 0)) none)
       (cond (Nat.beq pc 16) (some (.getfield 40, 3, 3, 2, 0, 381, 0, 0)) none)))))
   (cond (Nat.blt pc 29)
    (cond (Nat.blt pc 24)
     (cond (Nat.blt pc 21)
      (cond (Nat.beq pc 19) (some (.bipush 9, 2, 0, 0, 0, 0, 9, 0)) none)
      (cond (Nat.beq pc 21) (some (.if_icmp .eq 13, 3, 34, 0, 0, 0, 0, 0)) none))
     (cond (Nat.blt pc 25)
      (cond (Nat.beq pc 24) (some (.aload_n 0, 1, 0, 0, 0, 0, 0, 0)) none)
      (cond (Nat.blt pc 28)
       (cond (Nat.beq pc 25) (some (.getfield 17, 3, 6, 1, 2, 528, 0, 0)) none)
       (cond (Nat.beq pc 28) (some (.iload_n 1, 1, 0, 0, 0, 0, 0, 0)) none))))
    (cond (Nat.blt pc 34)
     (cond (Nat.blt pc 30)
      (cond (Nat.beq pc 29) (some (.aaload, 1, 0, 0, 0, 0, 0, 0)) none)
      (cond (Nat.blt pc 31)
       (cond (Nat.beq pc 30) (some (.iconst 0, 1, 0, 0, 0, 0, 0, 0)) none)
       (cond (Nat.beq pc 31) (some (.putfield 75, 3, 3, 9, 0, 423, 0, 0)) none)))
     (cond (Nat.blt pc 37)
      (cond (Nat.beq pc 34) (some (.iinc 1 1, 3, 0, 0, 0, 0, 1, 0)) none)
      (cond (Nat.blt pc 40)
       (cond (Nat.beq pc 37) (some (.goto (-35), 3, 2, 0, 0, 0, 0, 0)) none)
       (cond (Nat.beq pc 40) (some (.return_, 1, 0, 0, 0, 0, 0, 0)) none)))))) none
-- PrintHouse.put (JI)Z
def zc79 (pc : Nat) : Option z_I := cond (Nat.blt pc 39)
  (cond (Nat.blt pc 20)
   (cond (Nat.blt pc 8)
    (cond (Nat.blt pc 2)
     (cond (Nat.blt pc 1)
      (cond (Nat.beq pc 0) (some (.iload_n 3, 1, 0, 0, 0, 0, 0, 0)) none)
      (cond (Nat.beq pc 1) (some (.iconst 1, 1, 0, 0, 0, 0, 1, 0)) none))
     (cond (Nat.blt pc 5)
      (cond (Nat.beq pc 2) (some (.if_icmp .lt 24, 3, 26, 0, 0, 0, 0, 0)) none)
      (cond (Nat.blt pc 6)
       (cond (Nat.beq pc 5) (some (.iload_n 3, 1, 0, 0, 0, 0, 0, 0)) none)
       (cond (Nat.beq pc 6) (some (.bipush 8, 2, 0, 0, 0, 0, 8, 0)) none))))
    (cond (Nat.blt pc 15)
     (cond (Nat.blt pc 11)
      (cond (Nat.beq pc 8) (some (.if_icmp .gt 18, 3, 26, 0, 0, 0, 0, 0)) none)
      (cond (Nat.blt pc 12)
       (cond (Nat.beq pc 11) (some (.aload_n 0, 1, 0, 0, 0, 0, 0, 0)) none)
       (cond (Nat.beq pc 12) (some (.getfield 14, 3, 0, 0, 2, 626, 0, 0)) none)))
     (cond (Nat.blt pc 18)
      (cond (Nat.beq pc 15) (some (.invokevirtual 67, 3, 1, 0, 0, 684, 0, 0)) none)
      (cond (Nat.blt pc 19)
       (cond (Nat.beq pc 18) (some (.iload_n 3, 1, 0, 0, 0, 0, 0, 0)) none)
       (cond (Nat.beq pc 19) (some (.iadd, 1, 0, 0, 0, 0, 0, 0)) none)))))
   (cond (Nat.blt pc 29)
    (cond (Nat.blt pc 26)
     (cond (Nat.blt pc 23)
      (cond (Nat.beq pc 20) (some (.sipush 240, 3, 0, 0, 0, 0, 240, 0)) none)
      (cond (Nat.beq pc 23) (some (.if_icmp .le 5, 3, 28, 0, 0, 0, 0, 0)) none))
     (cond (Nat.blt pc 27)
      (cond (Nat.beq pc 26) (some (.iconst 0, 1, 0, 0, 0, 0, 0, 0)) none)
      (cond (Nat.blt pc 28)
       (cond (Nat.beq pc 27) (some (.ireturn, 1, 0, 0, 1, 0, 0, 0)) none)
       (cond (Nat.beq pc 28) (some (.aload_n 0, 1, 0, 0, 0, 0, 0, 0)) none))))
    (cond (Nat.blt pc 34)
     (cond (Nat.blt pc 32)
      (cond (Nat.beq pc 29) (some (.getfield 14, 3, 0, 0, 2, 626, 0, 0)) none)
      (cond (Nat.blt pc 33)
       (cond (Nat.beq pc 32) (some (.lload_n 1, 1, 0, 0, 0, 0, 0, 0)) none)
       (cond (Nat.beq pc 33) (some (.iload_n 3, 1, 0, 0, 0, 0, 0, 0)) none)))
     (cond (Nat.blt pc 37)
      (cond (Nat.beq pc 34) (some (.invokevirtual 71, 3, 4, 0, 0, 692, 0, 0)) none)
      (cond (Nat.blt pc 38)
       (cond (Nat.beq pc 37) (some (.iconst 1, 1, 0, 0, 0, 0, 1, 0)) none)
       (cond (Nat.beq pc 38) (some (.ireturn, 1, 0, 0, 1, 0, 0, 0)) none)))))) none
-- PrintHouse.request ()I
def zc80 (pc : Nat) : Option z_I := cond (Nat.blt pc 62)
  (cond (Nat.blt pc 32)
   (cond (Nat.blt pc 16)
    (cond (Nat.blt pc 8)
     (cond (Nat.blt pc 4)
      (cond (Nat.blt pc 1)
       (cond (Nat.beq pc 0) (some (.aload_n 0, 1, 0, 0, 0, 0, 0, 0)) none)
       (cond (Nat.beq pc 1) (some (.invokevirtual 75, 3, 89, 0, 0, 788, 0, 0)) none))
      (cond (Nat.blt pc 5)
       (cond (Nat.beq pc 4) (some (.aload_n 0, 1, 0, 0, 0, 0, 0, 0)) none)
       (cond (Nat.beq pc 5) (some (.getfield 23, 3, 0, 1, 2, 628, 0, 0)) none)))
     (cond (Nat.blt pc 12)
      (cond (Nat.blt pc 11)
       (cond (Nat.beq pc 8) (some (.invokevirtual 78, 3, 33, 0, 0, 930, 0, 0)) none)
       (cond (Nat.beq pc 11) (some (.aload_n 0, 1, 0, 0, 0, 0, 0, 0)) none))
      (cond (Nat.blt pc 15)
       (cond (Nat.beq pc 12) (some (.invokevirtual 81, 3, 91, 0, 0, 1038, 0, 0)) none)
       (cond (Nat.beq pc 15) (some (.istore_n 1, 1, 0, 0, 0, 0, 0, 0)) none))))
    (cond (Nat.blt pc 24)
     (cond (Nat.blt pc 20)
      (cond (Nat.blt pc 17)
       (cond (Nat.beq pc 16) (some (.iload_n 1, 1, 0, 0, 0, 0, 0, 0)) none)
       (cond (Nat.beq pc 17) (some (.ifCond .ne 10, 3, 27, 0, 0, 0, 0, 0)) none))
      (cond (Nat.blt pc 21)
       (cond (Nat.beq pc 20) (some (.aload_n 0, 1, 0, 0, 0, 0, 0, 0)) none)
       (cond (Nat.beq pc 21) (some (.invokevirtual 84, 3, 95, 0, 0, 1262, 0, 0)) none)))
     (cond (Nat.blt pc 28)
      (cond (Nat.blt pc 27)
       (cond (Nat.beq pc 24) (some (.ifCond .eq 7, 3, 31, 0, 0, 0, 0, 0)) none)
       (cond (Nat.beq pc 27) (some (.iconst 1, 1, 0, 0, 0, 0, 1, 0)) none))
      (cond (Nat.blt pc 31)
       (cond (Nat.beq pc 28) (some (.goto 4, 3, 32, 0, 0, 0, 0, 0)) none)
       (cond (Nat.beq pc 31) (some (.iconst 0, 1, 0, 0, 0, 0, 0, 0)) none)))))
   (cond (Nat.blt pc 46)
    (cond (Nat.blt pc 38)
     (cond (Nat.blt pc 34)
      (cond (Nat.blt pc 33)
       (cond (Nat.beq pc 32) (some (.istore_n 2, 1, 0, 0, 0, 0, 0, 0)) none)
       (cond (Nat.beq pc 33) (some (.iload_n 2, 1, 0, 0, 0, 0, 0, 0)) none))
      (cond (Nat.blt pc 37)
       (cond (Nat.beq pc 34) (some (.ifCond .eq 8, 3, 42, 0, 0, 0, 0, 0)) none)
       (cond (Nat.beq pc 37) (some (.aload_n 0, 1, 0, 0, 0, 0, 0, 0)) none)))
     (cond (Nat.blt pc 42)
      (cond (Nat.blt pc 39)
       (cond (Nat.beq pc 38) (some (.iload_n 1, 1, 0, 0, 0, 0, 0, 0)) none)
       (cond (Nat.beq pc 39) (some (.invokevirtual 88, 3, 97, 0, 0, 1336, 0, 0)) none))
      (cond (Nat.blt pc 43)
       (cond (Nat.beq pc 42) (some (.aload_n 0, 1, 0, 0, 0, 0, 0, 0)) none)
       (cond (Nat.beq pc 43) (some (.getfield 14, 3, 0, 0, 2, 626, 0, 0)) none))))
    (cond (Nat.blt pc 54)
     (cond (Nat.blt pc 50)
      (cond (Nat.blt pc 49)
       (cond (Nat.beq pc 46) (some (.invokevirtual 91, 3, 0, 0, 0, 1344, 0, 0)) none)
       (cond (Nat.beq pc 49) (some (.iload_n 2, 1, 0, 0, 0, 0, 0, 0)) none))
      (cond (Nat.blt pc 53)
       (cond (Nat.beq pc 50) (some (.ifCond .eq 7, 3, 57, 0, 0, 0, 0, 0)) none)
       (cond (Nat.beq pc 53) (some (.iload_n 1, 1, 0, 0, 0, 0, 0, 0)) none)))
     (cond (Nat.blt pc 58)
      (cond (Nat.blt pc 57)
       (cond (Nat.beq pc 54) (some (.goto 7, 3, 61, 0, 0, 0, 0, 0)) none)
       (cond (Nat.beq pc 57) (some (.aload_n 0, 1, 0, 0, 0, 0, 0, 0)) none))
      (cond (Nat.blt pc 61)
       (cond (Nat.beq pc 58) (some (.invokevirtual 94, 3, 90, 0, 0, 1424, 0, 0)) none)
       (cond (Nat.beq pc 61) (some (.ireturn, 1, 0, 0, 0, 0, 0, 0)) none)))))) none
-- PrintHouse.reply (I)I
def zc81 (pc : Nat) : Option z_I := cond (Nat.blt pc 9)
  (cond (Nat.blt pc 4)
   (cond (Nat.blt pc 1)
    (cond (Nat.beq pc 0) (some (.aload_n 0, 1, 0, 0, 0, 0, 0, 0)) none)
    (cond (Nat.beq pc 1) (some (.getfield 57, 3, 0, 6, 2, 638, 0, 0)) none))
   (cond (Nat.blt pc 5)
    (cond (Nat.beq pc 4) (some (.iload_n 1, 1, 0, 0, 0, 0, 0, 0)) none)
    (cond (Nat.blt pc 8)
     (cond (Nat.beq pc 5) (some (.invokevirtual 97, 3, 2, 0, 0, 716, 0, 0)) none)
     (cond (Nat.beq pc 8) (some (.ireturn, 1, 0, 0, 0, 0, 0, 0)) none)))) none
-- PrintHouse.tick ()I
def zc82 (pc : Nat) : Option z_I := cond (Nat.blt pc 89)
  (cond (Nat.blt pc 43)
   (cond (Nat.blt pc 23)
    (cond (Nat.blt pc 11)
     (cond (Nat.blt pc 4)
      (cond (Nat.blt pc 1)
       (cond (Nat.beq pc 0) (some (.aload_n 0, 1, 0, 0, 0, 0, 0, 0)) none)
       (cond (Nat.beq pc 1) (some (.invokevirtual 75, 3, 89, 0, 0, 788, 0, 0)) none))
      (cond (Nat.blt pc 5)
       (cond (Nat.beq pc 4) (some (.aload_n 0, 1, 0, 0, 0, 0, 0, 0)) none)
       (cond (Nat.blt pc 8)
        (cond (Nat.beq pc 5) (some (.getfield 53, 3, 0, 5, 2, 636, 0, 0)) none)
        (cond (Nat.beq pc 8) (some (.invokevirtual 101, 3, 69, 0, 0, 1446, 0, 0)) none))))
     (cond (Nat.blt pc 16)
      (cond (Nat.blt pc 12)
       (cond (Nat.beq pc 11) (some (.astore_n 1, 1, 0, 0, 0, 0, 0, 0)) none)
       (cond (Nat.blt pc 13)
        (cond (Nat.beq pc 12) (some (.aload_n 1, 1, 0, 0, 0, 0, 0, 0)) none)
        (cond (Nat.beq pc 13) (some (.ifnonnull 34, 3, 47, 0, 0, 0, 0, 0)) none)))
      (cond (Nat.blt pc 17)
       (cond (Nat.beq pc 16) (some (.aload_n 0, 1, 0, 0, 0, 0, 0, 0)) none)
       (cond (Nat.blt pc 20)
        (cond (Nat.beq pc 17) (some (.getfield 53, 3, 0, 5, 2, 636, 0, 0)) none)
        (cond (Nat.beq pc 20) (some (.invokevirtual 105, 3, 70, 0, 0, 1454, 0, 0)) none)))))
    (cond (Nat.blt pc 31)
     (cond (Nat.blt pc 28)
      (cond (Nat.blt pc 24)
       (cond (Nat.beq pc 23) (some (.astore_n 1, 1, 0, 0, 0, 0, 0, 0)) none)
       (cond (Nat.blt pc 25)
        (cond (Nat.beq pc 24) (some (.aload_n 1, 1, 0, 0, 0, 0, 0, 0)) none)
        (cond (Nat.beq pc 25) (some (.ifnonnull 5, 3, 30, 0, 0, 0, 0, 0)) none)))
      (cond (Nat.blt pc 29)
       (cond (Nat.beq pc 28) (some (.iconst 0, 1, 0, 0, 0, 0, 0, 0)) none)
       (cond (Nat.blt pc 30)
        (cond (Nat.beq pc 29) (some (.ireturn, 1, 0, 0, 0, 0, 0, 0)) none)
        (cond (Nat.beq pc 30) (some (.aload_n 0, 1, 0, 0, 0, 0, 0, 0)) none))))
     (cond (Nat.blt pc 36)
      (cond (Nat.blt pc 34)
       (cond (Nat.beq pc 31) (some (.getfield 53, 3, 0, 5, 2, 636, 0, 0)) none)
       (cond (Nat.blt pc 35)
        (cond (Nat.beq pc 34) (some (.aload_n 1, 1, 0, 0, 0, 0, 0, 0)) none)
        (cond (Nat.beq pc 35) (some (.iconst 5, 1, 0, 0, 0, 0, 5, 0)) none)))
      (cond (Nat.blt pc 39)
       (cond (Nat.beq pc 36) (some (.invokevirtual 108, 3, 74, 0, 0, 1328, 0, 0)) none)
       (cond (Nat.blt pc 42)
        (cond (Nat.beq pc 39) (some (.ifCond .ne 8, 3, 47, 0, 0, 0, 0, 0)) none)
        (cond (Nat.beq pc 42) (some (.aload_n 0, 1, 0, 0, 0, 0, 0, 0)) none))))))
   (cond (Nat.blt pc 66)
    (cond (Nat.blt pc 52)
     (cond (Nat.blt pc 47)
      (cond (Nat.blt pc 46)
       (cond (Nat.beq pc 43) (some (.invokevirtual 94, 3, 90, 0, 0, 1424, 0, 0)) none)
       (cond (Nat.beq pc 46) (some (.ireturn, 1, 0, 0, 0, 0, 0, 0)) none))
      (cond (Nat.blt pc 48)
       (cond (Nat.beq pc 47) (some (.aload_n 0, 1, 0, 0, 0, 0, 0, 0)) none)
       (cond (Nat.blt pc 51)
        (cond (Nat.beq pc 48) (some (.getfield 63, 3, 0, 7, 2, 640, 0, 0)) none)
        (cond (Nat.beq pc 51) (some (.aload_n 1, 1, 0, 0, 0, 0, 0, 0)) none))))
     (cond (Nat.blt pc 59)
      (cond (Nat.blt pc 55)
       (cond (Nat.beq pc 52) (some (.invokevirtual 112, 3, 52, 0, 0, 1462, 0, 0)) none)
       (cond (Nat.blt pc 56)
        (cond (Nat.beq pc 55) (some (.aload_n 1, 1, 0, 0, 0, 0, 0, 0)) none)
        (cond (Nat.beq pc 56) (some (.getfield 116, 3, 3, 9, 0, 421, 0, 0)) none)))
      (cond (Nat.blt pc 60)
       (cond (Nat.beq pc 59) (some (.aload_n 1, 1, 0, 0, 0, 0, 0, 0)) none)
       (cond (Nat.blt pc 63)
        (cond (Nat.beq pc 60) (some (.invokevirtual 120, 3, 29, 0, 0, 1634, 0, 0)) none)
        (cond (Nat.beq pc 63) (some (.if_icmp .lt 21, 3, 84, 0, 0, 0, 0, 0)) none)))))
    (cond (Nat.blt pc 79)
     (cond (Nat.blt pc 71)
      (cond (Nat.blt pc 67)
       (cond (Nat.beq pc 66) (some (.aload_n 0, 1, 0, 0, 0, 0, 0, 0)) none)
       (cond (Nat.blt pc 70)
        (cond (Nat.beq pc 67) (some (.getfield 53, 3, 0, 5, 2, 636, 0, 0)) none)
        (cond (Nat.beq pc 70) (some (.aload_n 1, 1, 0, 0, 0, 0, 0, 0)) none)))
      (cond (Nat.blt pc 73)
       (cond (Nat.beq pc 71) (some (.bipush 9, 2, 0, 0, 0, 0, 9, 0)) none)
       (cond (Nat.blt pc 76)
        (cond (Nat.beq pc 73) (some (.invokevirtual 108, 3, 74, 0, 0, 1328, 0, 0)) none)
        (cond (Nat.beq pc 76) (some (.ifCond .ne 8, 3, 84, 0, 0, 0, 0, 0)) none))))
     (cond (Nat.blt pc 84)
      (cond (Nat.blt pc 80)
       (cond (Nat.beq pc 79) (some (.aload_n 0, 1, 0, 0, 0, 0, 0, 0)) none)
       (cond (Nat.blt pc 83)
        (cond (Nat.beq pc 80) (some (.invokevirtual 94, 3, 90, 0, 0, 1424, 0, 0)) none)
        (cond (Nat.beq pc 83) (some (.ireturn, 1, 0, 0, 0, 0, 0, 0)) none)))
      (cond (Nat.blt pc 85)
       (cond (Nat.beq pc 84) (some (.aload_n 1, 1, 0, 0, 0, 0, 0, 0)) none)
       (cond (Nat.blt pc 88)
        (cond (Nat.beq pc 85) (some (.getfield 123, 3, 3, 1, 0, 377, 0, 0)) none)
        (cond (Nat.beq pc 88) (some (.ireturn, 1, 0, 0, 0, 0, 0, 0)) none))))))) none
-- PrintHouse.sheet (I)I
def zc83 (pc : Nat) : Option z_I := cond (Nat.blt pc 12)
  (cond (Nat.blt pc 7)
   (cond (Nat.blt pc 1)
    (cond (Nat.beq pc 0) (some (.aload_n 0, 1, 0, 0, 0, 0, 0, 0)) none)
    (cond (Nat.blt pc 4)
     (cond (Nat.beq pc 1) (some (.getfield 63, 3, 0, 7, 2, 640, 0, 0)) none)
     (cond (Nat.beq pc 4) (some (.getfield 126, 3, 7, 0, 2, 575, 0, 0)) none)))
   (cond (Nat.blt pc 8)
    (cond (Nat.beq pc 7) (some (.iload_n 1, 1, 0, 0, 0, 0, 0, 0)) none)
    (cond (Nat.blt pc 11)
     (cond (Nat.beq pc 8) (some (.invokevirtual 97, 3, 2, 0, 0, 716, 0, 0)) none)
     (cond (Nat.beq pc 11) (some (.ireturn, 1, 0, 0, 0, 0, 0, 0)) none)))) none
-- PrintHouse.stop (I)Z
def zc84 (pc : Nat) : Option z_I := cond (Nat.blt pc 20)
  (cond (Nat.blt pc 10)
   (cond (Nat.blt pc 5)
    (cond (Nat.blt pc 1)
     (cond (Nat.beq pc 0) (some (.aload_n 0, 1, 0, 0, 0, 0, 0, 0)) none)
     (cond (Nat.blt pc 4)
      (cond (Nat.beq pc 1) (some (.invokevirtual 75, 3, 89, 0, 0, 788, 0, 0)) none)
      (cond (Nat.beq pc 4) (some (.iload_n 1, 1, 0, 0, 0, 0, 0, 0)) none)))
    (cond (Nat.blt pc 8)
     (cond (Nat.beq pc 5) (some (.ifCond .ge 5, 3, 10, 0, 0, 0, 0, 0)) none)
     (cond (Nat.blt pc 9)
      (cond (Nat.beq pc 8) (some (.iconst 0, 1, 0, 0, 0, 0, 0, 0)) none)
      (cond (Nat.beq pc 9) (some (.ireturn, 1, 0, 0, 1, 0, 0, 0)) none))))
   (cond (Nat.blt pc 15)
    (cond (Nat.blt pc 11)
     (cond (Nat.beq pc 10) (some (.aload_n 0, 1, 0, 0, 0, 0, 0, 0)) none)
     (cond (Nat.blt pc 14)
      (cond (Nat.beq pc 11) (some (.getfield 44, 3, 0, 4, 2, 634, 0, 0)) none)
      (cond (Nat.beq pc 14) (some (.iload_n 1, 1, 0, 0, 0, 0, 0, 0)) none)))
    (cond (Nat.blt pc 18)
     (cond (Nat.beq pc 15) (some (.invokevirtual 129, 3, 13, 0, 0, 1656, 0, 0)) none)
     (cond (Nat.blt pc 19)
      (cond (Nat.beq pc 18) (some (.iconst 1, 1, 0, 0, 0, 0, 1, 0)) none)
      (cond (Nat.beq pc 19) (some (.ireturn, 1, 0, 0, 1, 0, 0, 0)) none))))) none
-- PrintHouse.restart ()Z
def zc85 (pc : Nat) : Option z_I := cond (Nat.blt pc 28)
  (cond (Nat.blt pc 13)
   (cond (Nat.blt pc 7)
    (cond (Nat.blt pc 1)
     (cond (Nat.beq pc 0) (some (.aload_n 0, 1, 0, 0, 0, 0, 0, 0)) none)
     (cond (Nat.blt pc 4)
      (cond (Nat.beq pc 1) (some (.getfield 44, 3, 0, 4, 2, 634, 0, 0)) none)
      (cond (Nat.beq pc 4) (some (.invokevirtual 132, 3, 12, 0, 0, 740, 0, 0)) none)))
    (cond (Nat.blt pc 11)
     (cond (Nat.blt pc 10)
      (cond (Nat.beq pc 7) (some (.ifCond .eq 5, 3, 12, 0, 0, 0, 0, 0)) none)
      (cond (Nat.beq pc 10) (some (.iconst 0, 1, 0, 0, 0, 0, 0, 0)) none))
     (cond (Nat.blt pc 12)
      (cond (Nat.beq pc 11) (some (.ireturn, 1, 0, 0, 1, 0, 0, 0)) none)
      (cond (Nat.beq pc 12) (some (.aload_n 0, 1, 0, 0, 0, 0, 0, 0)) none))))
   (cond (Nat.blt pc 20)
    (cond (Nat.blt pc 16)
     (cond (Nat.beq pc 13) (some (.getfield 53, 3, 0, 5, 2, 636, 0, 0)) none)
     (cond (Nat.blt pc 19)
      (cond (Nat.beq pc 16) (some (.invokevirtual 135, 3, 78, 0, 0, 748, 0, 0)) none)
      (cond (Nat.beq pc 19) (some (.aload_n 0, 1, 0, 0, 0, 0, 0, 0)) none)))
    (cond (Nat.blt pc 26)
     (cond (Nat.blt pc 23)
      (cond (Nat.beq pc 20) (some (.getfield 44, 3, 0, 4, 2, 634, 0, 0)) none)
      (cond (Nat.beq pc 23) (some (.invokevirtual 138, 3, 14, 0, 0, 756, 0, 0)) none))
     (cond (Nat.blt pc 27)
      (cond (Nat.beq pc 26) (some (.iconst 1, 1, 0, 0, 0, 0, 1, 0)) none)
      (cond (Nat.beq pc 27) (some (.ireturn, 1, 0, 0, 1, 0, 0, 0)) none))))) none
-- PrintHouse.job (II)I
def zc86 (pc : Nat) : Option z_I := cond (Nat.blt pc 43)
  (cond (Nat.blt pc 17)
   (cond (Nat.blt pc 8)
    (cond (Nat.blt pc 4)
     (cond (Nat.blt pc 1)
      (cond (Nat.beq pc 0) (some (.aload_n 0, 1, 0, 0, 0, 0, 0, 0)) none)
      (cond (Nat.beq pc 1) (some (.invokevirtual 75, 3, 89, 0, 0, 788, 0, 0)) none))
     (cond (Nat.blt pc 5)
      (cond (Nat.beq pc 4) (some (.aload_n 0, 1, 0, 0, 0, 0, 0, 0)) none)
      (cond (Nat.beq pc 5) (some (.getfield 53, 3, 0, 5, 2, 636, 0, 0)) none)))
    (cond (Nat.blt pc 12)
     (cond (Nat.blt pc 9)
      (cond (Nat.beq pc 8) (some (.iload_n 1, 1, 0, 0, 0, 0, 0, 0)) none)
      (cond (Nat.beq pc 9) (some (.invokevirtual 141, 3, 66, 0, 0, 1246, 0, 0)) none))
     (cond (Nat.blt pc 13)
      (cond (Nat.beq pc 12) (some (.astore_n 3, 1, 0, 0, 0, 0, 0, 0)) none)
      (cond (Nat.blt pc 14)
       (cond (Nat.beq pc 13) (some (.aload_n 3, 1, 0, 0, 0, 0, 0, 0)) none)
       (cond (Nat.beq pc 14) (some (.ifnull 13, 3, 27, 0, 0, 0, 0, 0)) none)))))
   (cond (Nat.blt pc 30)
    (cond (Nat.blt pc 21)
     (cond (Nat.blt pc 18)
      (cond (Nat.beq pc 17) (some (.iload_n 2, 1, 0, 0, 0, 0, 0, 0)) none)
      (cond (Nat.beq pc 18) (some (.ifCond .lt 9, 3, 27, 0, 0, 0, 0, 0)) none))
     (cond (Nat.blt pc 22)
      (cond (Nat.beq pc 21) (some (.iload_n 2, 1, 0, 0, 0, 0, 0, 0)) none)
      (cond (Nat.blt pc 24)
       (cond (Nat.beq pc 22) (some (.bipush 8, 2, 0, 0, 0, 0, 8, 0)) none)
       (cond (Nat.beq pc 24) (some (.if_icmp .le 13, 3, 37, 0, 0, 0, 0, 0)) none))))
    (cond (Nat.blt pc 38)
     (cond (Nat.blt pc 37)
      (cond (Nat.beq pc 30) (some (.dup, 1, 0, 0, 0, 0, 0, 0)) none)
      (cond (Nat.beq pc 37) (some (.aload_n 3, 1, 0, 0, 0, 0, 0, 0)) none))
     (cond (Nat.blt pc 39)
      (cond (Nat.beq pc 38) (some (.iload_n 2, 1, 0, 0, 0, 0, 0, 0)) none)
      (cond (Nat.blt pc 42)
       (cond (Nat.beq pc 39) (some (.invokevirtual 152, 3, 32, 0, 0, 1712, 0, 0)) none)
       (cond (Nat.beq pc 42) (some (.ireturn, 1, 0, 0, 0, 0, 0, 0)) none)))))) none
-- PrintHouse.pixel (III)I
def zc87 (pc : Nat) : Option z_I := cond (Nat.blt pc 61)
  (cond (Nat.blt pc 29)
   (cond (Nat.blt pc 14)
    (cond (Nat.blt pc 5)
     (cond (Nat.blt pc 1)
      (cond (Nat.beq pc 0) (some (.aload_n 0, 1, 0, 0, 0, 0, 0, 0)) none)
      (cond (Nat.blt pc 4)
       (cond (Nat.beq pc 1) (some (.invokevirtual 75, 3, 89, 0, 0, 788, 0, 0)) none)
       (cond (Nat.beq pc 4) (some (.aload_n 0, 1, 0, 0, 0, 0, 0, 0)) none)))
     (cond (Nat.blt pc 9)
      (cond (Nat.blt pc 8)
       (cond (Nat.beq pc 5) (some (.getfield 53, 3, 0, 5, 2, 636, 0, 0)) none)
       (cond (Nat.beq pc 8) (some (.iload_n 1, 1, 0, 0, 0, 0, 0, 0)) none))
      (cond (Nat.blt pc 12)
       (cond (Nat.beq pc 9) (some (.invokevirtual 141, 3, 66, 0, 0, 1246, 0, 0)) none)
       (cond (Nat.beq pc 12) (some (.astore 4, 2, 0, 0, 0, 0, 0, 0)) none))))
    (cond (Nat.blt pc 21)
     (cond (Nat.blt pc 16)
      (cond (Nat.beq pc 14) (some (.aload 4, 2, 0, 0, 0, 0, 0, 0)) none)
      (cond (Nat.blt pc 19)
       (cond (Nat.beq pc 16) (some (.ifnull 22, 3, 38, 0, 0, 0, 0, 0)) none)
       (cond (Nat.beq pc 19) (some (.aload 4, 2, 0, 0, 0, 0, 0, 0)) none)))
     (cond (Nat.blt pc 25)
      (cond (Nat.blt pc 22)
       (cond (Nat.beq pc 21) (some (.iload_n 2, 1, 0, 0, 0, 0, 0, 0)) none)
       (cond (Nat.beq pc 22) (some (.invokevirtual 155, 3, 24, 0, 0, 1736, 0, 0)) none))
      (cond (Nat.blt pc 28)
       (cond (Nat.beq pc 25) (some (.ifCond .eq 13, 3, 38, 0, 0, 0, 0, 0)) none)
       (cond (Nat.beq pc 28) (some (.iload_n 3, 1, 0, 0, 0, 0, 0, 0)) none)))))
   (cond (Nat.blt pc 53)
    (cond (Nat.blt pc 35)
     (cond (Nat.blt pc 32)
      (cond (Nat.beq pc 29) (some (.ifCond .lt 9, 3, 38, 0, 0, 0, 0, 0)) none)
      (cond (Nat.blt pc 33)
       (cond (Nat.beq pc 32) (some (.iload_n 3, 1, 0, 0, 0, 0, 0, 0)) none)
       (cond (Nat.beq pc 33) (some (.bipush 12, 2, 0, 0, 0, 0, 12, 0)) none)))
     (cond (Nat.blt pc 48)
      (cond (Nat.blt pc 41)
       (cond (Nat.beq pc 35) (some (.if_icmp .lt 13, 3, 48, 0, 0, 0, 0, 0)) none)
       (cond (Nat.beq pc 41) (some (.dup, 1, 0, 0, 0, 0, 0, 0)) none))
      (cond (Nat.blt pc 50)
       (cond (Nat.beq pc 48) (some (.aload 4, 2, 0, 0, 0, 0, 0, 0)) none)
       (cond (Nat.beq pc 50) (some (.getfield 161, 3, 3, 0, 2, 373, 0, 0)) none))))
    (cond (Nat.blt pc 57)
     (cond (Nat.blt pc 54)
      (cond (Nat.beq pc 53) (some (.iload_n 2, 1, 0, 0, 0, 0, 0, 0)) none)
      (cond (Nat.blt pc 56)
       (cond (Nat.beq pc 54) (some (.bipush 12, 2, 0, 0, 0, 0, 12, 0)) none)
       (cond (Nat.beq pc 56) (some (.imul, 1, 0, 0, 0, 0, 0, 0)) none)))
     (cond (Nat.blt pc 59)
      (cond (Nat.blt pc 58)
       (cond (Nat.beq pc 57) (some (.iload_n 3, 1, 0, 0, 0, 0, 0, 0)) none)
       (cond (Nat.beq pc 58) (some (.iadd, 1, 0, 0, 0, 0, 0, 0)) none))
      (cond (Nat.blt pc 60)
       (cond (Nat.beq pc 59) (some (.iaload, 1, 0, 0, 0, 0, 0, 0)) none)
       (cond (Nat.beq pc 60) (some (.ireturn, 1, 0, 0, 0, 0, 0, 0)) none)))))) none
-- PrintHouse.count (I)I
def zc88 (pc : Nat) : Option z_I := cond (Nat.blt pc 110)
  (cond (Nat.blt pc 76)
   (cond (Nat.blt pc 59)
    (cond (Nat.blt pc 48)
     (cond (Nat.blt pc 44)
      (cond (Nat.blt pc 1)
       (cond (Nat.beq pc 0) (some (.iload_n 1, 1, 0, 0, 0, 0, 0, 0)) none)
       (cond (Nat.beq pc 1) (some (.tableswitch 107 0 6 #[43, 51, 59, 67, 75, 83, 99], 43, 0, 0, 0, 0, 0, 0)) none))
      (cond (Nat.blt pc 45)
       (cond (Nat.beq pc 44) (some (.aload_n 0, 1, 0, 0, 0, 0, 0, 0)) none)
       (cond (Nat.beq pc 45) (some (.getfield 44, 3, 0, 4, 2, 634, 0, 0)) none)))
     (cond (Nat.blt pc 52)
      (cond (Nat.blt pc 51)
       (cond (Nat.beq pc 48) (some (.getfield 165, 3, 5, 0, 0, 481, 0, 0)) none)
       (cond (Nat.beq pc 51) (some (.ireturn, 1, 0, 0, 0, 0, 0, 0)) none))
      (cond (Nat.blt pc 53)
       (cond (Nat.beq pc 52) (some (.aload_n 0, 1, 0, 0, 0, 0, 0, 0)) none)
       (cond (Nat.blt pc 56)
        (cond (Nat.beq pc 53) (some (.getfield 44, 3, 0, 4, 2, 634, 0, 0)) none)
        (cond (Nat.beq pc 56) (some (.getfield 168, 3, 5, 1, 0, 485, 0, 0)) none)))))
    (cond (Nat.blt pc 67)
     (cond (Nat.blt pc 61)
      (cond (Nat.blt pc 60)
       (cond (Nat.beq pc 59) (some (.ireturn, 1, 0, 0, 0, 0, 0, 0)) none)
       (cond (Nat.beq pc 60) (some (.aload_n 0, 1, 0, 0, 0, 0, 0, 0)) none))
      (cond (Nat.blt pc 64)
       (cond (Nat.beq pc 61) (some (.getfield 63, 3, 0, 7, 2, 640, 0, 0)) none)
       (cond (Nat.beq pc 64) (some (.getfield 171, 3, 7, 2, 0, 581, 0, 0)) none)))
     (cond (Nat.blt pc 69)
      (cond (Nat.blt pc 68)
       (cond (Nat.beq pc 67) (some (.ireturn, 1, 0, 0, 0, 0, 0, 0)) none)
       (cond (Nat.beq pc 68) (some (.aload_n 0, 1, 0, 0, 0, 0, 0, 0)) none))
      (cond (Nat.blt pc 72)
       (cond (Nat.beq pc 69) (some (.getfield 53, 3, 0, 5, 2, 636, 0, 0)) none)
       (cond (Nat.blt pc 75)
        (cond (Nat.beq pc 72) (some (.getfield 173, 3, 6, 2, 0, 533, 0, 0)) none)
        (cond (Nat.beq pc 75) (some (.ireturn, 1, 0, 0, 0, 0, 0, 0)) none))))))
   (cond (Nat.blt pc 95)
    (cond (Nat.blt pc 84)
     (cond (Nat.blt pc 80)
      (cond (Nat.blt pc 77)
       (cond (Nat.beq pc 76) (some (.aload_n 0, 1, 0, 0, 0, 0, 0, 0)) none)
       (cond (Nat.beq pc 77) (some (.getfield 53, 3, 0, 5, 2, 636, 0, 0)) none))
      (cond (Nat.blt pc 83)
       (cond (Nat.beq pc 80) (some (.getfield 176, 3, 6, 3, 0, 537, 0, 0)) none)
       (cond (Nat.beq pc 83) (some (.ireturn, 1, 0, 0, 0, 0, 0, 0)) none)))
     (cond (Nat.blt pc 88)
      (cond (Nat.blt pc 85)
       (cond (Nat.beq pc 84) (some (.aload_n 0, 1, 0, 0, 0, 0, 0, 0)) none)
       (cond (Nat.beq pc 85) (some (.getfield 44, 3, 0, 4, 2, 634, 0, 0)) none))
      (cond (Nat.blt pc 91)
       (cond (Nat.beq pc 88) (some (.invokevirtual 132, 3, 12, 0, 0, 740, 0, 0)) none)
       (cond (Nat.blt pc 94)
        (cond (Nat.beq pc 91) (some (.ifCond .eq 7, 3, 98, 0, 0, 0, 0, 0)) none)
        (cond (Nat.beq pc 94) (some (.iconst 1, 1, 0, 0, 0, 0, 1, 0)) none)))))
    (cond (Nat.blt pc 101)
     (cond (Nat.blt pc 99)
      (cond (Nat.blt pc 98)
       (cond (Nat.beq pc 95) (some (.goto 4, 3, 99, 0, 0, 0, 0, 0)) none)
       (cond (Nat.beq pc 98) (some (.iconst 0, 1, 0, 0, 0, 0, 0, 0)) none))
      (cond (Nat.blt pc 100)
       (cond (Nat.beq pc 99) (some (.ireturn, 1, 0, 0, 0, 0, 0, 0)) none)
       (cond (Nat.beq pc 100) (some (.aload_n 0, 1, 0, 0, 0, 0, 0, 0)) none)))
     (cond (Nat.blt pc 107)
      (cond (Nat.blt pc 104)
       (cond (Nat.beq pc 101) (some (.getfield 14, 3, 0, 0, 2, 626, 0, 0)) none)
       (cond (Nat.beq pc 104) (some (.invokevirtual 67, 3, 1, 0, 0, 684, 0, 0)) none))
      (cond (Nat.blt pc 108)
       (cond (Nat.beq pc 107) (some (.ireturn, 1, 0, 0, 0, 0, 0, 0)) none)
       (cond (Nat.blt pc 109)
        (cond (Nat.beq pc 108) (some (.iconst (-1), 1, 0, 0, 0, 0, (-1), 0)) none)
        (cond (Nat.beq pc 109) (some (.ireturn, 1, 0, 0, 0, 0, 0, 0)) none))))))) none
-- PrintHouse.refuseIfDown ()V
def zc89 (pc : Nat) : Option z_I := cond (Nat.blt pc 21)
  (cond (Nat.blt pc 7)
   (cond (Nat.blt pc 1)
    (cond (Nat.beq pc 0) (some (.aload_n 0, 1, 0, 0, 0, 0, 0, 0)) none)
    (cond (Nat.blt pc 4)
     (cond (Nat.beq pc 1) (some (.getfield 44, 3, 0, 4, 2, 634, 0, 0)) none)
     (cond (Nat.beq pc 4) (some (.invokevirtual 132, 3, 12, 0, 0, 740, 0, 0)) none)))
   (cond (Nat.blt pc 13)
    (cond (Nat.beq pc 7) (some (.ifCond .ne 13, 3, 20, 0, 0, 0, 0, 0)) none)
    (cond (Nat.blt pc 20)
     (cond (Nat.beq pc 13) (some (.dup, 1, 0, 0, 0, 0, 0, 0)) none)
     (cond (Nat.beq pc 20) (some (.return_, 1, 0, 0, 0, 0, 0, 0)) none)))) none
-- PrintHouse.goneDown ()I
def zc90 (pc : Nat) : Option z_I := cond (Nat.blt pc 9)
  (cond (Nat.blt pc 4)
   (cond (Nat.blt pc 1)
    (cond (Nat.beq pc 0) (some (.aload_n 0, 1, 0, 0, 0, 0, 0, 0)) none)
    (cond (Nat.beq pc 1) (some (.getfield 57, 3, 0, 6, 2, 638, 0, 0)) none))
   (cond (Nat.blt pc 7)
    (cond (Nat.beq pc 4) (some (.invokevirtual 91, 3, 0, 0, 0, 1344, 0, 0)) none)
    (cond (Nat.blt pc 8)
     (cond (Nat.beq pc 7) (some (.iconst (-1), 1, 0, 0, 0, 0, (-1), 0)) none)
     (cond (Nat.beq pc 8) (some (.ireturn, 1, 0, 0, 0, 0, 0, 0)) none)))) none
-- PrintHouse.statusOfMessage ()I
def zc91 (pc : Nat) : Option z_I := cond (Nat.blt pc 154)
  (cond (Nat.blt pc 105)
   (cond (Nat.blt pc 24)
    (cond (Nat.blt pc 13)
     (cond (Nat.blt pc 4)
      (cond (Nat.blt pc 1)
       (cond (Nat.beq pc 0) (some (.aload_n 0, 1, 0, 0, 0, 0, 0, 0)) none)
       (cond (Nat.beq pc 1) (some (.getfield 23, 3, 0, 1, 2, 628, 0, 0)) none))
      (cond (Nat.blt pc 7)
       (cond (Nat.beq pc 4) (some (.invokevirtual 184, 3, 41, 0, 0, 1046, 0, 0)) none)
       (cond (Nat.blt pc 10)
        (cond (Nat.beq pc 7) (some (.ifCond .eq 7, 3, 14, 0, 0, 0, 0, 0)) none)
        (cond (Nat.beq pc 10) (some (.sipush 1283, 3, 0, 0, 0, 0, 1283, 0)) none))))
     (cond (Nat.blt pc 15)
      (cond (Nat.blt pc 14)
       (cond (Nat.beq pc 13) (some (.ireturn, 1, 0, 0, 0, 0, 0, 0)) none)
       (cond (Nat.beq pc 14) (some (.aload_n 0, 1, 0, 0, 0, 0, 0, 0)) none))
      (cond (Nat.blt pc 18)
       (cond (Nat.beq pc 15) (some (.getfield 23, 3, 0, 1, 2, 628, 0, 0)) none)
       (cond (Nat.blt pc 21)
        (cond (Nat.beq pc 18) (some (.getfield 187, 3, 2, 7, 1, 269, 0, 0)) none)
        (cond (Nat.beq pc 21) (some (.ifCond .ne 7, 3, 28, 0, 0, 0, 0, 0)) none)))))
    (cond (Nat.blt pc 35)
     (cond (Nat.blt pc 28)
      (cond (Nat.blt pc 27)
       (cond (Nat.beq pc 24) (some (.sipush 1024, 3, 0, 0, 0, 0, 1024, 0)) none)
       (cond (Nat.beq pc 27) (some (.ireturn, 1, 0, 0, 0, 0, 0, 0)) none))
      (cond (Nat.blt pc 29)
       (cond (Nat.beq pc 28) (some (.aload_n 0, 1, 0, 0, 0, 0, 0, 0)) none)
       (cond (Nat.blt pc 32)
        (cond (Nat.beq pc 29) (some (.getfield 23, 3, 0, 1, 2, 628, 0, 0)) none)
        (cond (Nat.beq pc 32) (some (.getfield 191, 3, 2, 8, 0, 273, 0, 0)) none))))
     (cond (Nat.blt pc 100)
      (cond (Nat.blt pc 96)
       (cond (Nat.beq pc 35) (some (.tableswitch 115 2 13 #[61, 115, 115, 115, 115, 115, 84, 84, 66, 115, 84, 84], 61, 0, 0, 0, 0, 0, 0)) none)
       (cond (Nat.blt pc 97)
        (cond (Nat.beq pc 96) (some (.aload_n 0, 1, 0, 0, 0, 0, 0, 0)) none)
        (cond (Nat.beq pc 97) (some (.invokevirtual 194, 3, 92, 0, 0, 1054, 0, 0)) none)))
      (cond (Nat.blt pc 101)
       (cond (Nat.beq pc 100) (some (.ireturn, 1, 0, 0, 0, 0, 0, 0)) none)
       (cond (Nat.blt pc 102)
        (cond (Nat.beq pc 101) (some (.aload_n 0, 1, 0, 0, 0, 0, 0, 0)) none)
        (cond (Nat.beq pc 102) (some (.getfield 23, 3, 0, 1, 2, 628, 0, 0)) none))))))
   (cond (Nat.blt pc 129)
    (cond (Nat.blt pc 118)
     (cond (Nat.blt pc 111)
      (cond (Nat.blt pc 108)
       (cond (Nat.beq pc 105) (some (.invokevirtual 197, 3, 42, 0, 0, 1204, 0, 0)) none)
       (cond (Nat.beq pc 108) (some (.ifCond .eq 7, 3, 115, 0, 0, 0, 0, 0)) none))
      (cond (Nat.blt pc 112)
       (cond (Nat.beq pc 111) (some (.iconst 0, 1, 0, 0, 0, 0, 0, 0)) none)
       (cond (Nat.blt pc 115)
        (cond (Nat.beq pc 112) (some (.goto 6, 3, 118, 0, 0, 0, 0, 0)) none)
        (cond (Nat.beq pc 115) (some (.sipush 1024, 3, 0, 0, 0, 0, 1024, 0)) none))))
     (cond (Nat.blt pc 120)
      (cond (Nat.blt pc 119)
       (cond (Nat.beq pc 118) (some (.ireturn, 1, 0, 0, 0, 0, 0, 0)) none)
       (cond (Nat.beq pc 119) (some (.aload_n 0, 1, 0, 0, 0, 0, 0, 0)) none))
      (cond (Nat.blt pc 123)
       (cond (Nat.beq pc 120) (some (.getfield 23, 3, 0, 1, 2, 628, 0, 0)) none)
       (cond (Nat.blt pc 126)
        (cond (Nat.beq pc 123) (some (.invokevirtual 197, 3, 42, 0, 0, 1204, 0, 0)) none)
        (cond (Nat.beq pc 126) (some (.ifCond .eq 20, 3, 146, 0, 0, 0, 0, 0)) none)))))
    (cond (Nat.blt pc 140)
     (cond (Nat.blt pc 133)
      (cond (Nat.blt pc 130)
       (cond (Nat.beq pc 129) (some (.aload_n 0, 1, 0, 0, 0, 0, 0, 0)) none)
       (cond (Nat.beq pc 130) (some (.getfield 23, 3, 0, 1, 2, 628, 0, 0)) none))
      (cond (Nat.blt pc 136)
       (cond (Nat.beq pc 133) (some (.invokevirtual 200, 3, 44, 0, 0, 1212, 0, 0)) none)
       (cond (Nat.blt pc 139)
        (cond (Nat.beq pc 136) (some (.ifCond .eq 10, 3, 146, 0, 0, 0, 0, 0)) none)
        (cond (Nat.beq pc 139) (some (.aload_n 0, 1, 0, 0, 0, 0, 0, 0)) none))))
     (cond (Nat.blt pc 149)
      (cond (Nat.blt pc 143)
       (cond (Nat.beq pc 140) (some (.invokevirtual 203, 3, 93, 0, 0, 1230, 0, 0)) none)
       (cond (Nat.blt pc 146)
        (cond (Nat.beq pc 143) (some (.goto 6, 3, 149, 0, 0, 0, 0, 0)) none)
        (cond (Nat.beq pc 146) (some (.sipush 1024, 3, 0, 0, 0, 0, 1024, 0)) none)))
      (cond (Nat.blt pc 150)
       (cond (Nat.beq pc 149) (some (.ireturn, 1, 0, 0, 0, 0, 0, 0)) none)
       (cond (Nat.blt pc 153)
        (cond (Nat.beq pc 150) (some (.sipush 1281, 3, 0, 0, 0, 0, 1281, 0)) none)
        (cond (Nat.beq pc 153) (some (.ireturn, 1, 0, 0, 0, 0, 0, 0)) none))))))) none
-- PrintHouse.statusOfPrint ()I
def zc92 (pc : Nat) : Option z_I := cond (Nat.blt pc 94)
  (cond (Nat.blt pc 49)
   (cond (Nat.blt pc 24)
    (cond (Nat.blt pc 11)
     (cond (Nat.blt pc 4)
      (cond (Nat.blt pc 1)
       (cond (Nat.beq pc 0) (some (.aload_n 0, 1, 0, 0, 0, 0, 0, 0)) none)
       (cond (Nat.beq pc 1) (some (.getfield 37, 3, 0, 3, 2, 632, 0, 0)) none))
      (cond (Nat.blt pc 7)
       (cond (Nat.beq pc 4) (some (.invokevirtual 206, 3, 16, 0, 0, 1062, 0, 0)) none)
       (cond (Nat.blt pc 8)
        (cond (Nat.beq pc 7) (some (.aload_n 0, 1, 0, 0, 0, 0, 0, 0)) none)
        (cond (Nat.beq pc 8) (some (.getfield 23, 3, 0, 1, 2, 628, 0, 0)) none))))
     (cond (Nat.blt pc 15)
      (cond (Nat.blt pc 12)
       (cond (Nat.beq pc 11) (some (.aload_n 0, 1, 0, 0, 0, 0, 0, 0)) none)
       (cond (Nat.beq pc 12) (some (.getfield 37, 3, 0, 3, 2, 632, 0, 0)) none))
      (cond (Nat.blt pc 18)
       (cond (Nat.beq pc 15) (some (.invokevirtual 209, 3, 46, 0, 0, 1070, 0, 0)) none)
       (cond (Nat.blt pc 21)
        (cond (Nat.beq pc 18) (some (.ifCond .ne 7, 3, 25, 0, 0, 0, 0, 0)) none)
        (cond (Nat.beq pc 21) (some (.sipush 1035, 3, 0, 0, 0, 0, 1035, 0)) none)))))
    (cond (Nat.blt pc 33)
     (cond (Nat.blt pc 26)
      (cond (Nat.blt pc 25)
       (cond (Nat.beq pc 24) (some (.ireturn, 1, 0, 0, 0, 0, 0, 0)) none)
       (cond (Nat.beq pc 25) (some (.aload_n 0, 1, 0, 0, 0, 0, 0, 0)) none))
      (cond (Nat.blt pc 29)
       (cond (Nat.beq pc 26) (some (.getfield 30, 3, 0, 2, 2, 630, 0, 0)) none)
       (cond (Nat.blt pc 30)
        (cond (Nat.beq pc 29) (some (.aload_n 0, 1, 0, 0, 0, 0, 0, 0)) none)
        (cond (Nat.beq pc 30) (some (.getfield 23, 3, 0, 1, 2, 628, 0, 0)) none))))
     (cond (Nat.blt pc 40)
      (cond (Nat.blt pc 36)
       (cond (Nat.beq pc 33) (some (.getfield 213, 3, 2, 10, 0, 281, 0, 0)) none)
       (cond (Nat.blt pc 37)
        (cond (Nat.beq pc 36) (some (.aload_n 0, 1, 0, 0, 0, 0, 0, 0)) none)
        (cond (Nat.beq pc 37) (some (.getfield 37, 3, 0, 3, 2, 632, 0, 0)) none)))
      (cond (Nat.blt pc 43)
       (cond (Nat.beq pc 40) (some (.invokevirtual 216, 3, 47, 0, 0, 1128, 0, 0)) none)
       (cond (Nat.blt pc 46)
        (cond (Nat.beq pc 43) (some (.ifCond .ne 7, 3, 50, 0, 0, 0, 0, 0)) none)
        (cond (Nat.beq pc 46) (some (.sipush 1041, 3, 0, 0, 0, 0, 1041, 0)) none))))))
   (cond (Nat.blt pc 70)
    (cond (Nat.blt pc 59)
     (cond (Nat.blt pc 51)
      (cond (Nat.blt pc 50)
       (cond (Nat.beq pc 49) (some (.ireturn, 1, 0, 0, 0, 0, 0, 0)) none)
       (cond (Nat.beq pc 50) (some (.aload_n 0, 1, 0, 0, 0, 0, 0, 0)) none))
      (cond (Nat.blt pc 54)
       (cond (Nat.beq pc 51) (some (.getfield 37, 3, 0, 3, 2, 632, 0, 0)) none)
       (cond (Nat.blt pc 57)
        (cond (Nat.beq pc 54) (some (.getfield 219, 3, 3, 8, 0, 415, 0, 0)) none)
        (cond (Nat.beq pc 57) (some (.bipush 6, 2, 0, 0, 0, 0, 6, 0)) none))))
     (cond (Nat.blt pc 65)
      (cond (Nat.blt pc 62)
       (cond (Nat.beq pc 59) (some (.if_icmp .le 7, 3, 66, 0, 0, 0, 0, 0)) none)
       (cond (Nat.beq pc 62) (some (.sipush 1032, 3, 0, 0, 0, 0, 1032, 0)) none))
      (cond (Nat.blt pc 66)
       (cond (Nat.beq pc 65) (some (.ireturn, 1, 0, 0, 0, 0, 0, 0)) none)
       (cond (Nat.blt pc 67)
        (cond (Nat.beq pc 66) (some (.aload_n 0, 1, 0, 0, 0, 0, 0, 0)) none)
        (cond (Nat.beq pc 67) (some (.getfield 53, 3, 0, 5, 2, 636, 0, 0)) none)))))
    (cond (Nat.blt pc 81)
     (cond (Nat.blt pc 74)
      (cond (Nat.blt pc 73)
       (cond (Nat.beq pc 70) (some (.invokevirtual 222, 3, 68, 0, 0, 1178, 0, 0)) none)
       (cond (Nat.beq pc 73) (some (.aload_n 0, 1, 0, 0, 0, 0, 0, 0)) none))
      (cond (Nat.blt pc 77)
       (cond (Nat.beq pc 74) (some (.getfield 37, 3, 0, 3, 2, 632, 0, 0)) none)
       (cond (Nat.blt pc 80)
        (cond (Nat.beq pc 77) (some (.invokevirtual 225, 3, 23, 0, 0, 1202, 0, 0)) none)
        (cond (Nat.beq pc 80) (some (.iadd, 1, 0, 0, 0, 0, 0, 0)) none))))
     (cond (Nat.blt pc 89)
      (cond (Nat.blt pc 83)
       (cond (Nat.beq pc 81) (some (.bipush 36, 2, 0, 0, 0, 0, 36, 0)) none)
       (cond (Nat.blt pc 86)
        (cond (Nat.beq pc 83) (some (.if_icmp .le 9, 3, 92, 0, 0, 0, 0, 0)) none)
        (cond (Nat.beq pc 86) (some (.sipush 1287, 3, 0, 0, 0, 0, 1287, 0)) none)))
      (cond (Nat.blt pc 92)
       (cond (Nat.beq pc 89) (some (.goto 4, 3, 93, 0, 0, 0, 0, 0)) none)
       (cond (Nat.blt pc 93)
        (cond (Nat.beq pc 92) (some (.iconst 0, 1, 0, 0, 0, 0, 0, 0)) none)
        (cond (Nat.beq pc 93) (some (.ireturn, 1, 0, 0, 0, 0, 0, 0)) none))))))) none
-- PrintHouse.statusOfJobRequest ()I
def zc93 (pc : Nat) : Option z_I := cond (Nat.blt pc 45)
  (cond (Nat.blt pc 22)
   (cond (Nat.blt pc 11)
    (cond (Nat.blt pc 4)
     (cond (Nat.blt pc 1)
      (cond (Nat.beq pc 0) (some (.aload_n 0, 1, 0, 0, 0, 0, 0, 0)) none)
      (cond (Nat.beq pc 1) (some (.getfield 53, 3, 0, 5, 2, 636, 0, 0)) none))
     (cond (Nat.blt pc 5)
      (cond (Nat.beq pc 4) (some (.aload_n 0, 1, 0, 0, 0, 0, 0, 0)) none)
      (cond (Nat.blt pc 8)
       (cond (Nat.beq pc 5) (some (.getfield 23, 3, 0, 1, 2, 628, 0, 0)) none)
       (cond (Nat.beq pc 8) (some (.invokevirtual 228, 3, 45, 0, 0, 1238, 0, 0)) none))))
    (cond (Nat.blt pc 15)
     (cond (Nat.blt pc 14)
      (cond (Nat.beq pc 11) (some (.invokevirtual 141, 3, 66, 0, 0, 1246, 0, 0)) none)
      (cond (Nat.beq pc 14) (some (.astore_n 1, 1, 0, 0, 0, 0, 0, 0)) none))
     (cond (Nat.blt pc 16)
      (cond (Nat.beq pc 15) (some (.aload_n 1, 1, 0, 0, 0, 0, 0, 0)) none)
      (cond (Nat.blt pc 19)
       (cond (Nat.beq pc 16) (some (.ifnonnull 7, 3, 23, 0, 0, 0, 0, 0)) none)
       (cond (Nat.beq pc 19) (some (.sipush 1030, 3, 0, 0, 0, 0, 1030, 0)) none)))))
   (cond (Nat.blt pc 31)
    (cond (Nat.blt pc 24)
     (cond (Nat.blt pc 23)
      (cond (Nat.beq pc 22) (some (.ireturn, 1, 0, 0, 0, 0, 0, 0)) none)
      (cond (Nat.beq pc 23) (some (.aload_n 0, 1, 0, 0, 0, 0, 0, 0)) none))
     (cond (Nat.blt pc 27)
      (cond (Nat.beq pc 24) (some (.getfield 23, 3, 0, 1, 2, 628, 0, 0)) none)
      (cond (Nat.blt pc 30)
       (cond (Nat.beq pc 27) (some (.getfield 191, 3, 2, 8, 0, 273, 0, 0)) none)
       (cond (Nat.beq pc 30) (some (.aload_n 1, 1, 0, 0, 0, 0, 0, 0)) none))))
    (cond (Nat.blt pc 38)
     (cond (Nat.blt pc 34)
      (cond (Nat.beq pc 31) (some (.invokestatic 231, 3, 94, 0, 0, 1254, 0, 0)) none)
      (cond (Nat.blt pc 37)
       (cond (Nat.beq pc 34) (some (.ifCond .eq 7, 3, 41, 0, 0, 0, 0, 0)) none)
       (cond (Nat.beq pc 37) (some (.iconst 0, 1, 0, 0, 0, 0, 0, 0)) none)))
     (cond (Nat.blt pc 41)
      (cond (Nat.beq pc 38) (some (.goto 6, 3, 44, 0, 0, 0, 0, 0)) none)
      (cond (Nat.blt pc 44)
       (cond (Nat.beq pc 41) (some (.sipush 1028, 3, 0, 0, 0, 0, 1028, 0)) none)
       (cond (Nat.beq pc 44) (some (.ireturn, 1, 0, 0, 0, 0, 0, 0)) none)))))) none
-- PrintHouse.isAllowed (ILPrintHouse$Job;)Z
def zc94 (pc : Nat) : Option z_I := cond (Nat.blt pc 79)
  (cond (Nat.blt pc 57)
   (cond (Nat.blt pc 44)
    (cond (Nat.blt pc 37)
     (cond (Nat.blt pc 1)
      (cond (Nat.beq pc 0) (some (.iload_n 0, 1, 0, 0, 0, 0, 0, 0)) none)
      (cond (Nat.blt pc 36)
       (cond (Nat.beq pc 1) (some (.lookupswitch 76 #[(8, 35), (12, 48), (13, 62)], 35, 0, 0, 0, 0, 0, 0)) none)
       (cond (Nat.beq pc 36) (some (.aload_n 1, 1, 0, 0, 0, 0, 0, 0)) none)))
     (cond (Nat.blt pc 40)
      (cond (Nat.beq pc 37) (some (.invokevirtual 234, 3, 22, 0, 0, 1260, 0, 0)) none)
      (cond (Nat.blt pc 43)
       (cond (Nat.beq pc 40) (some (.ifCond .ne 7, 3, 47, 0, 0, 0, 0, 0)) none)
       (cond (Nat.beq pc 43) (some (.iconst 1, 1, 0, 0, 0, 0, 1, 0)) none))))
    (cond (Nat.blt pc 49)
     (cond (Nat.blt pc 47)
      (cond (Nat.beq pc 44) (some (.goto 4, 3, 48, 0, 0, 0, 0, 0)) none)
      (cond (Nat.blt pc 48)
       (cond (Nat.beq pc 47) (some (.iconst 0, 1, 0, 0, 0, 0, 0, 0)) none)
       (cond (Nat.beq pc 48) (some (.ireturn, 1, 0, 0, 1, 0, 0, 0)) none)))
     (cond (Nat.blt pc 53)
      (cond (Nat.blt pc 50)
       (cond (Nat.beq pc 49) (some (.aload_n 1, 1, 0, 0, 0, 0, 0, 0)) none)
       (cond (Nat.beq pc 50) (some (.getfield 237, 3, 3, 2, 0, 383, 0, 0)) none))
      (cond (Nat.blt pc 54)
       (cond (Nat.beq pc 53) (some (.iconst 3, 1, 0, 0, 0, 0, 3, 0)) none)
       (cond (Nat.beq pc 54) (some (.if_icmp .ne 7, 3, 61, 0, 0, 0, 0, 0)) none)))))
   (cond (Nat.blt pc 68)
    (cond (Nat.blt pc 62)
     (cond (Nat.blt pc 58)
      (cond (Nat.beq pc 57) (some (.iconst 1, 1, 0, 0, 0, 0, 1, 0)) none)
      (cond (Nat.blt pc 61)
       (cond (Nat.beq pc 58) (some (.goto 4, 3, 62, 0, 0, 0, 0, 0)) none)
       (cond (Nat.beq pc 61) (some (.iconst 0, 1, 0, 0, 0, 0, 0, 0)) none)))
     (cond (Nat.blt pc 64)
      (cond (Nat.blt pc 63)
       (cond (Nat.beq pc 62) (some (.ireturn, 1, 0, 0, 1, 0, 0, 0)) none)
       (cond (Nat.beq pc 63) (some (.aload_n 1, 1, 0, 0, 0, 0, 0, 0)) none))
      (cond (Nat.blt pc 67)
       (cond (Nat.beq pc 64) (some (.getfield 237, 3, 3, 2, 0, 383, 0, 0)) none)
       (cond (Nat.beq pc 67) (some (.iconst 4, 1, 0, 0, 0, 0, 4, 0)) none))))
    (cond (Nat.blt pc 75)
     (cond (Nat.blt pc 71)
      (cond (Nat.beq pc 68) (some (.if_icmp .ne 7, 3, 75, 0, 0, 0, 0, 0)) none)
      (cond (Nat.blt pc 72)
       (cond (Nat.beq pc 71) (some (.iconst 1, 1, 0, 0, 0, 0, 1, 0)) none)
       (cond (Nat.beq pc 72) (some (.goto 4, 3, 76, 0, 0, 0, 0, 0)) none)))
     (cond (Nat.blt pc 77)
      (cond (Nat.blt pc 76)
       (cond (Nat.beq pc 75) (some (.iconst 0, 1, 0, 0, 0, 0, 0, 0)) none)
       (cond (Nat.beq pc 76) (some (.ireturn, 1, 0, 0, 1, 0, 0, 0)) none))
      (cond (Nat.blt pc 78)
       (cond (Nat.beq pc 77) (some (.iconst 1, 1, 0, 0, 0, 0, 1, 0)) none)
       (cond (Nat.beq pc 78) (some (.ireturn, 1, 0, 0, 1, 0, 0, 0)) none)))))) none
-- PrintHouse.carryOut ()Z
def zc95 (pc : Nat) : Option z_I := cond (Nat.blt pc 76)
  (cond (Nat.blt pc 39)
   (cond (Nat.blt pc 19)
    (cond (Nat.blt pc 8)
     (cond (Nat.blt pc 4)
      (cond (Nat.blt pc 1)
       (cond (Nat.beq pc 0) (some (.aload_n 0, 1, 0, 0, 0, 0, 0, 0)) none)
       (cond (Nat.beq pc 1) (some (.getfield 23, 3, 0, 1, 2, 628, 0, 0)) none))
      (cond (Nat.blt pc 7)
       (cond (Nat.beq pc 4) (some (.getfield 191, 3, 2, 8, 0, 273, 0, 0)) none)
       (cond (Nat.beq pc 7) (some (.iconst 2, 1, 0, 0, 0, 0, 2, 0)) none)))
     (cond (Nat.blt pc 12)
      (cond (Nat.blt pc 11)
       (cond (Nat.beq pc 8) (some (.if_icmp .ne 15, 3, 23, 0, 0, 0, 0, 0)) none)
       (cond (Nat.beq pc 11) (some (.aload_n 0, 1, 0, 0, 0, 0, 0, 0)) none))
      (cond (Nat.blt pc 15)
       (cond (Nat.beq pc 12) (some (.getfield 53, 3, 0, 5, 2, 636, 0, 0)) none)
       (cond (Nat.blt pc 16)
        (cond (Nat.beq pc 15) (some (.aload_n 0, 1, 0, 0, 0, 0, 0, 0)) none)
        (cond (Nat.beq pc 16) (some (.getfield 37, 3, 0, 3, 2, 632, 0, 0)) none)))))
    (cond (Nat.blt pc 30)
     (cond (Nat.blt pc 23)
      (cond (Nat.blt pc 22)
       (cond (Nat.beq pc 19) (some (.invokevirtual 240, 3, 73, 0, 0, 1270, 0, 0)) none)
       (cond (Nat.beq pc 22) (some (.ireturn, 1, 0, 0, 1, 0, 0, 0)) none))
      (cond (Nat.blt pc 24)
       (cond (Nat.beq pc 23) (some (.aload_n 0, 1, 0, 0, 0, 0, 0, 0)) none)
       (cond (Nat.blt pc 27)
        (cond (Nat.beq pc 24) (some (.getfield 23, 3, 0, 1, 2, 628, 0, 0)) none)
        (cond (Nat.beq pc 27) (some (.getfield 191, 3, 2, 8, 0, 273, 0, 0)) none))))
     (cond (Nat.blt pc 34)
      (cond (Nat.blt pc 33)
       (cond (Nat.beq pc 30) (some (.invokestatic 243, 3, 96, 0, 0, 1322, 0, 0)) none)
       (cond (Nat.beq pc 33) (some (.istore_n 1, 1, 0, 0, 0, 0, 0, 0)) none))
      (cond (Nat.blt pc 35)
       (cond (Nat.beq pc 34) (some (.aload_n 0, 1, 0, 0, 0, 0, 0, 0)) none)
       (cond (Nat.blt pc 38)
        (cond (Nat.beq pc 35) (some (.getfield 53, 3, 0, 5, 2, 636, 0, 0)) none)
        (cond (Nat.beq pc 38) (some (.aload_n 0, 1, 0, 0, 0, 0, 0, 0)) none))))))
   (cond (Nat.blt pc 58)
    (cond (Nat.blt pc 49)
     (cond (Nat.blt pc 45)
      (cond (Nat.blt pc 42)
       (cond (Nat.beq pc 39) (some (.getfield 23, 3, 0, 1, 2, 628, 0, 0)) none)
       (cond (Nat.beq pc 42) (some (.invokevirtual 228, 3, 45, 0, 0, 1238, 0, 0)) none))
      (cond (Nat.blt pc 48)
       (cond (Nat.beq pc 45) (some (.invokevirtual 141, 3, 66, 0, 0, 1246, 0, 0)) none)
       (cond (Nat.beq pc 48) (some (.astore_n 2, 1, 0, 0, 0, 0, 0, 0)) none)))
     (cond (Nat.blt pc 51)
      (cond (Nat.blt pc 50)
       (cond (Nat.beq pc 49) (some (.iload_n 1, 1, 0, 0, 0, 0, 0, 0)) none)
       (cond (Nat.beq pc 50) (some (.iconst (-1), 1, 0, 0, 0, 0, (-1), 0)) none))
      (cond (Nat.blt pc 54)
       (cond (Nat.beq pc 51) (some (.if_icmp .eq 19, 3, 70, 0, 0, 0, 0, 0)) none)
       (cond (Nat.blt pc 55)
        (cond (Nat.beq pc 54) (some (.aload_n 2, 1, 0, 0, 0, 0, 0, 0)) none)
        (cond (Nat.beq pc 55) (some (.ifnull 15, 3, 70, 0, 0, 0, 0, 0)) none)))))
    (cond (Nat.blt pc 67)
     (cond (Nat.blt pc 62)
      (cond (Nat.blt pc 59)
       (cond (Nat.beq pc 58) (some (.aload_n 0, 1, 0, 0, 0, 0, 0, 0)) none)
       (cond (Nat.beq pc 59) (some (.getfield 53, 3, 0, 5, 2, 636, 0, 0)) none))
      (cond (Nat.blt pc 63)
       (cond (Nat.beq pc 62) (some (.aload_n 2, 1, 0, 0, 0, 0, 0, 0)) none)
       (cond (Nat.blt pc 64)
        (cond (Nat.beq pc 63) (some (.iload_n 1, 1, 0, 0, 0, 0, 0, 0)) none)
        (cond (Nat.beq pc 64) (some (.invokevirtual 108, 3, 74, 0, 0, 1328, 0, 0)) none))))
     (cond (Nat.blt pc 71)
      (cond (Nat.blt pc 70)
       (cond (Nat.beq pc 67) (some (.ifCond .eq 7, 3, 74, 0, 0, 0, 0, 0)) none)
       (cond (Nat.beq pc 70) (some (.iconst 1, 1, 0, 0, 0, 0, 1, 0)) none))
      (cond (Nat.blt pc 74)
       (cond (Nat.beq pc 71) (some (.goto 4, 3, 75, 0, 0, 0, 0, 0)) none)
       (cond (Nat.blt pc 75)
        (cond (Nat.beq pc 74) (some (.iconst 0, 1, 0, 0, 0, 0, 0, 0)) none)
        (cond (Nat.beq pc 75) (some (.ireturn, 1, 0, 0, 1, 0, 0, 0)) none))))))) none
-- PrintHouse.stateAfter (I)I
def zc96 (pc : Nat) : Option z_I := cond (Nat.blt pc 45)
  (cond (Nat.blt pc 40)
   (cond (Nat.blt pc 36)
    (cond (Nat.blt pc 1)
     (cond (Nat.beq pc 0) (some (.iload_n 0, 1, 0, 0, 0, 0, 0, 0)) none)
     (cond (Nat.beq pc 1) (some (.lookupswitch 42 #[(8, 35), (12, 38), (13, 40)], 35, 0, 0, 0, 0, 0, 0)) none))
    (cond (Nat.blt pc 38)
     (cond (Nat.beq pc 36) (some (.bipush 7, 2, 0, 0, 0, 0, 7, 0)) none)
     (cond (Nat.blt pc 39)
      (cond (Nat.beq pc 38) (some (.ireturn, 1, 0, 0, 0, 0, 0, 0)) none)
      (cond (Nat.beq pc 39) (some (.iconst 4, 1, 0, 0, 0, 0, 4, 0)) none))))
   (cond (Nat.blt pc 42)
    (cond (Nat.blt pc 41)
     (cond (Nat.beq pc 40) (some (.ireturn, 1, 0, 0, 0, 0, 0, 0)) none)
     (cond (Nat.beq pc 41) (some (.iconst 3, 1, 0, 0, 0, 0, 3, 0)) none))
    (cond (Nat.blt pc 43)
     (cond (Nat.beq pc 42) (some (.ireturn, 1, 0, 0, 0, 0, 0, 0)) none)
     (cond (Nat.blt pc 44)
      (cond (Nat.beq pc 43) (some (.iconst (-1), 1, 0, 0, 0, 0, (-1), 0)) none)
      (cond (Nat.beq pc 44) (some (.ireturn, 1, 0, 0, 0, 0, 0, 0)) none))))) none
-- PrintHouse.writeReply (I)V
def zc97 (pc : Nat) : Option z_I := cond (Nat.blt pc 124)
  (cond (Nat.blt pc 57)
   (cond (Nat.blt pc 28)
    (cond (Nat.blt pc 15)
     (cond (Nat.blt pc 7)
      (cond (Nat.blt pc 1)
       (cond (Nat.beq pc 0) (some (.aload_n 0, 1, 0, 0, 0, 0, 0, 0)) none)
       (cond (Nat.blt pc 4)
        (cond (Nat.beq pc 1) (some (.getfield 57, 3, 0, 6, 2, 638, 0, 0)) none)
        (cond (Nat.beq pc 4) (some (.invokevirtual 91, 3, 0, 0, 0, 1344, 0, 0)) none)))
      (cond (Nat.blt pc 11)
       (cond (Nat.blt pc 8)
        (cond (Nat.beq pc 7) (some (.aload_n 0, 1, 0, 0, 0, 0, 0, 0)) none)
        (cond (Nat.beq pc 8) (some (.getfield 57, 3, 0, 6, 2, 638, 0, 0)) none))
       (cond (Nat.blt pc 12)
        (cond (Nat.beq pc 11) (some (.iconst 1, 1, 0, 0, 0, 0, 1, 0)) none)
        (cond (Nat.beq pc 12) (some (.invokevirtual 246, 3, 3, 0, 0, 1352, 0, 0)) none))))
     (cond (Nat.blt pc 20)
      (cond (Nat.blt pc 16)
       (cond (Nat.beq pc 15) (some (.aload_n 0, 1, 0, 0, 0, 0, 0, 0)) none)
       (cond (Nat.blt pc 19)
        (cond (Nat.beq pc 16) (some (.getfield 57, 3, 0, 6, 2, 638, 0, 0)) none)
        (cond (Nat.beq pc 19) (some (.iconst 1, 1, 0, 0, 0, 0, 1, 0)) none)))
      (cond (Nat.blt pc 24)
       (cond (Nat.blt pc 23)
        (cond (Nat.beq pc 20) (some (.invokevirtual 246, 3, 3, 0, 0, 1352, 0, 0)) none)
        (cond (Nat.beq pc 23) (some (.aload_n 0, 1, 0, 0, 0, 0, 0, 0)) none))
       (cond (Nat.blt pc 27)
        (cond (Nat.beq pc 24) (some (.getfield 57, 3, 0, 6, 2, 638, 0, 0)) none)
        (cond (Nat.beq pc 27) (some (.iload_n 1, 1, 0, 0, 0, 0, 0, 0)) none)))))
    (cond (Nat.blt pc 41)
     (cond (Nat.blt pc 33)
      (cond (Nat.blt pc 29)
       (cond (Nat.beq pc 28) (some (.i2l, 1, 0, 0, 0, 0, 0, 0)) none)
       (cond (Nat.blt pc 30)
        (cond (Nat.beq pc 29) (some (.iconst 2, 1, 0, 0, 0, 0, 2, 0)) none)
        (cond (Nat.beq pc 30) (some (.invokevirtual 71, 3, 4, 0, 0, 692, 0, 0)) none)))
      (cond (Nat.blt pc 37)
       (cond (Nat.blt pc 34)
        (cond (Nat.beq pc 33) (some (.aload_n 0, 1, 0, 0, 0, 0, 0, 0)) none)
        (cond (Nat.beq pc 34) (some (.getfield 57, 3, 0, 6, 2, 638, 0, 0)) none))
       (cond (Nat.blt pc 38)
        (cond (Nat.beq pc 37) (some (.aload_n 0, 1, 0, 0, 0, 0, 0, 0)) none)
        (cond (Nat.beq pc 38) (some (.getfield 23, 3, 0, 1, 2, 628, 0, 0)) none))))
     (cond (Nat.blt pc 49)
      (cond (Nat.blt pc 45)
       (cond (Nat.blt pc 44)
        (cond (Nat.beq pc 41) (some (.getfield 249, 3, 2, 9, 0, 277, 0, 0)) none)
        (cond (Nat.beq pc 44) (some (.i2l, 1, 0, 0, 0, 0, 0, 0)) none))
       (cond (Nat.blt pc 46)
        (cond (Nat.beq pc 45) (some (.iconst 4, 1, 0, 0, 0, 0, 4, 0)) none)
        (cond (Nat.beq pc 46) (some (.invokevirtual 71, 3, 4, 0, 0, 692, 0, 0)) none)))
      (cond (Nat.blt pc 53)
       (cond (Nat.blt pc 50)
        (cond (Nat.beq pc 49) (some (.iload_n 1, 1, 0, 0, 0, 0, 0, 0)) none)
        (cond (Nat.beq pc 50) (some (.ifCond .ne 22, 3, 72, 0, 0, 0, 0, 0)) none))
       (cond (Nat.blt pc 54)
        (cond (Nat.beq pc 53) (some (.aload_n 0, 1, 0, 0, 0, 0, 0, 0)) none)
        (cond (Nat.beq pc 54) (some (.getfield 23, 3, 0, 1, 2, 628, 0, 0)) none))))))
   (cond (Nat.blt pc 89)
    (cond (Nat.blt pc 73)
     (cond (Nat.blt pc 65)
      (cond (Nat.blt pc 60)
       (cond (Nat.beq pc 57) (some (.getfield 191, 3, 2, 8, 0, 273, 0, 0)) none)
       (cond (Nat.blt pc 62)
        (cond (Nat.beq pc 60) (some (.bipush 10, 2, 0, 0, 0, 0, 10, 0)) none)
        (cond (Nat.beq pc 62) (some (.if_icmp .ne 10, 3, 72, 0, 0, 0, 0, 0)) none)))
      (cond (Nat.blt pc 69)
       (cond (Nat.blt pc 66)
        (cond (Nat.beq pc 65) (some (.aload_n 0, 1, 0, 0, 0, 0, 0, 0)) none)
        (cond (Nat.beq pc 66) (some (.invokevirtual 250, 3, 98, 0, 0, 1354, 0, 0)) none))
       (cond (Nat.blt pc 72)
        (cond (Nat.beq pc 69) (some (.goto 46, 3, 115, 0, 0, 0, 0, 0)) none)
        (cond (Nat.beq pc 72) (some (.iload_n 1, 1, 0, 0, 0, 0, 0, 0)) none))))
     (cond (Nat.blt pc 81)
      (cond (Nat.blt pc 77)
       (cond (Nat.blt pc 76)
        (cond (Nat.beq pc 73) (some (.ifCond .ne 42, 3, 115, 0, 0, 0, 0, 0)) none)
        (cond (Nat.beq pc 76) (some (.aload_n 0, 1, 0, 0, 0, 0, 0, 0)) none))
       (cond (Nat.blt pc 78)
        (cond (Nat.beq pc 77) (some (.aload_n 0, 1, 0, 0, 0, 0, 0, 0)) none)
        (cond (Nat.beq pc 78) (some (.getfield 23, 3, 0, 1, 2, 628, 0, 0)) none)))
      (cond (Nat.blt pc 85)
       (cond (Nat.blt pc 84)
        (cond (Nat.beq pc 81) (some (.getfield 191, 3, 2, 8, 0, 273, 0, 0)) none)
        (cond (Nat.beq pc 84) (some (.iconst 2, 1, 0, 0, 0, 0, 2, 0)) none))
       (cond (Nat.blt pc 88)
        (cond (Nat.beq pc 85) (some (.if_icmp .ne 13, 3, 98, 0, 0, 0, 0, 0)) none)
        (cond (Nat.beq pc 88) (some (.aload_n 0, 1, 0, 0, 0, 0, 0, 0)) none)))))
    (cond (Nat.blt pc 106)
     (cond (Nat.blt pc 98)
      (cond (Nat.blt pc 92)
       (cond (Nat.beq pc 89) (some (.getfield 53, 3, 0, 5, 2, 636, 0, 0)) none)
       (cond (Nat.blt pc 95)
        (cond (Nat.beq pc 92) (some (.invokevirtual 253, 3, 67, 0, 0, 1416, 0, 0)) none)
        (cond (Nat.beq pc 95) (some (.goto 17, 3, 112, 0, 0, 0, 0, 0)) none)))
      (cond (Nat.blt pc 102)
       (cond (Nat.blt pc 99)
        (cond (Nat.beq pc 98) (some (.aload_n 0, 1, 0, 0, 0, 0, 0, 0)) none)
        (cond (Nat.beq pc 99) (some (.getfield 53, 3, 0, 5, 2, 636, 0, 0)) none))
       (cond (Nat.blt pc 103)
        (cond (Nat.beq pc 102) (some (.aload_n 0, 1, 0, 0, 0, 0, 0, 0)) none)
        (cond (Nat.beq pc 103) (some (.getfield 23, 3, 0, 1, 2, 628, 0, 0)) none))))
     (cond (Nat.blt pc 116)
      (cond (Nat.blt pc 112)
       (cond (Nat.blt pc 109)
        (cond (Nat.beq pc 106) (some (.invokevirtual 228, 3, 45, 0, 0, 1238, 0, 0)) none)
        (cond (Nat.beq pc 109) (some (.invokevirtual 141, 3, 66, 0, 0, 1246, 0, 0)) none))
       (cond (Nat.blt pc 115)
        (cond (Nat.beq pc 112) (some (.invokevirtual 256, 3, 99, 0, 0, 1376, 0, 0)) none)
        (cond (Nat.beq pc 115) (some (.aload_n 0, 1, 0, 0, 0, 0, 0, 0)) none)))
      (cond (Nat.blt pc 120)
       (cond (Nat.blt pc 119)
        (cond (Nat.beq pc 116) (some (.getfield 57, 3, 0, 6, 2, 638, 0, 0)) none)
        (cond (Nat.beq pc 119) (some (.iconst 3, 1, 0, 0, 0, 0, 3, 0)) none))
       (cond (Nat.blt pc 123)
        (cond (Nat.beq pc 120) (some (.invokevirtual 246, 3, 3, 0, 0, 1352, 0, 0)) none)
        (cond (Nat.beq pc 123) (some (.return_, 1, 0, 0, 0, 0, 0, 0)) none))))))) none
-- PrintHouse.tellOfAll ()V
def zc98 (pc : Nat) : Option z_I := cond (Nat.blt pc 36)
  (cond (Nat.blt pc 15)
   (cond (Nat.blt pc 5)
    (cond (Nat.blt pc 2)
     (cond (Nat.blt pc 1)
      (cond (Nat.beq pc 0) (some (.aconst_null, 1, 0, 0, 0, 0, 0, 0)) none)
      (cond (Nat.beq pc 1) (some (.astore_n 1, 1, 0, 0, 0, 0, 0, 0)) none))
     (cond (Nat.blt pc 3)
      (cond (Nat.beq pc 2) (some (.iconst 0, 1, 0, 0, 0, 0, 0, 0)) none)
      (cond (Nat.blt pc 4)
       (cond (Nat.beq pc 3) (some (.istore_n 2, 1, 0, 0, 0, 0, 0, 0)) none)
       (cond (Nat.beq pc 4) (some (.iload_n 2, 1, 0, 0, 0, 0, 0, 0)) none))))
    (cond (Nat.blt pc 10)
     (cond (Nat.blt pc 7)
      (cond (Nat.beq pc 5) (some (.bipush 20, 2, 0, 0, 0, 0, 20, 0)) none)
      (cond (Nat.beq pc 7) (some (.if_icmp .ge 28, 3, 35, 0, 0, 0, 0, 0)) none))
     (cond (Nat.blt pc 11)
      (cond (Nat.beq pc 10) (some (.aload_n 0, 1, 0, 0, 0, 0, 0, 0)) none)
      (cond (Nat.blt pc 14)
       (cond (Nat.beq pc 11) (some (.getfield 53, 3, 0, 5, 2, 636, 0, 0)) none)
       (cond (Nat.beq pc 14) (some (.aload_n 1, 1, 0, 0, 0, 0, 0, 0)) none)))))
   (cond (Nat.blt pc 24)
    (cond (Nat.blt pc 19)
     (cond (Nat.blt pc 18)
      (cond (Nat.beq pc 15) (some (.invokevirtual 259, 3, 71, 0, 0, 1362, 0, 0)) none)
      (cond (Nat.beq pc 18) (some (.astore_n 1, 1, 0, 0, 0, 0, 0, 0)) none))
     (cond (Nat.blt pc 20)
      (cond (Nat.beq pc 19) (some (.aload_n 1, 1, 0, 0, 0, 0, 0, 0)) none)
      (cond (Nat.blt pc 23)
       (cond (Nat.beq pc 20) (some (.ifnonnull 4, 3, 24, 0, 0, 0, 0, 0)) none)
       (cond (Nat.beq pc 23) (some (.return_, 1, 0, 0, 0, 0, 0, 0)) none))))
    (cond (Nat.blt pc 29)
     (cond (Nat.blt pc 25)
      (cond (Nat.beq pc 24) (some (.aload_n 0, 1, 0, 0, 0, 0, 0, 0)) none)
      (cond (Nat.blt pc 26)
       (cond (Nat.beq pc 25) (some (.aload_n 1, 1, 0, 0, 0, 0, 0, 0)) none)
       (cond (Nat.beq pc 26) (some (.invokevirtual 256, 3, 99, 0, 0, 1376, 0, 0)) none)))
     (cond (Nat.blt pc 32)
      (cond (Nat.beq pc 29) (some (.iinc 2 1, 3, 0, 0, 0, 0, 1, 0)) none)
      (cond (Nat.blt pc 35)
       (cond (Nat.beq pc 32) (some (.goto (-28), 3, 4, 0, 0, 0, 0, 0)) none)
       (cond (Nat.beq pc 35) (some (.return_, 1, 0, 0, 0, 0, 0, 0)) none)))))) none
-- PrintHouse.tellOf (LPrintHouse$Job;)V
def zc99 (pc : Nat) : Option z_I := cond (Nat.blt pc 110)
  (cond (Nat.blt pc 53)
   (cond (Nat.blt pc 24)
    (cond (Nat.blt pc 10)
     (cond (Nat.blt pc 5)
      (cond (Nat.blt pc 1)
       (cond (Nat.beq pc 0) (some (.aload_n 1, 1, 0, 0, 0, 0, 0, 0)) none)
       (cond (Nat.blt pc 4)
        (cond (Nat.beq pc 1) (some (.ifnonnull 4, 3, 5, 0, 0, 0, 0, 0)) none)
        (cond (Nat.beq pc 4) (some (.return_, 1, 0, 0, 0, 0, 0, 0)) none)))
      (cond (Nat.blt pc 6)
       (cond (Nat.beq pc 5) (some (.aload_n 0, 1, 0, 0, 0, 0, 0, 0)) none)
       (cond (Nat.blt pc 9)
        (cond (Nat.beq pc 6) (some (.getfield 57, 3, 0, 6, 2, 638, 0, 0)) none)
        (cond (Nat.beq pc 9) (some (.iconst 2, 1, 0, 0, 0, 0, 2, 0)) none))))
     (cond (Nat.blt pc 17)
      (cond (Nat.blt pc 13)
       (cond (Nat.beq pc 10) (some (.invokevirtual 246, 3, 3, 0, 0, 1352, 0, 0)) none)
       (cond (Nat.blt pc 14)
        (cond (Nat.beq pc 13) (some (.aload_n 0, 1, 0, 0, 0, 0, 0, 0)) none)
        (cond (Nat.beq pc 14) (some (.getfield 57, 3, 0, 6, 2, 638, 0, 0)) none)))
      (cond (Nat.blt pc 20)
       (cond (Nat.beq pc 17) (some (.ldc2_w 263, 3, 0, 0, 0, 692, 0, 6975330)) none)
       (cond (Nat.blt pc 21)
        (cond (Nat.beq pc 20) (some (.aload_n 1, 1, 0, 0, 0, 0, 0, 0)) none)
        (cond (Nat.beq pc 21) (some (.getfield 123, 3, 3, 1, 0, 377, 0, 0)) none)))))
    (cond (Nat.blt pc 38)
     (cond (Nat.blt pc 31)
      (cond (Nat.blt pc 27)
       (cond (Nat.beq pc 24) (some (.invokevirtual 265, 3, 5, 0, 0, 1386, 0, 0)) none)
       (cond (Nat.blt pc 28)
        (cond (Nat.beq pc 27) (some (.aload_n 0, 1, 0, 0, 0, 0, 0, 0)) none)
        (cond (Nat.beq pc 28) (some (.getfield 57, 3, 0, 6, 2, 638, 0, 0)) none)))
      (cond (Nat.blt pc 34)
       (cond (Nat.beq pc 31) (some (.ldc2_w 268, 3, 0, 0, 0, 703, 0, 495873782885)) none)
       (cond (Nat.blt pc 35)
        (cond (Nat.beq pc 34) (some (.aload_n 1, 1, 0, 0, 0, 0, 0, 0)) none)
        (cond (Nat.beq pc 35) (some (.getfield 237, 3, 3, 2, 0, 383, 0, 0)) none))))
     (cond (Nat.blt pc 45)
      (cond (Nat.blt pc 41)
       (cond (Nat.beq pc 38) (some (.invokevirtual 265, 3, 5, 0, 0, 1386, 0, 0)) none)
       (cond (Nat.blt pc 42)
        (cond (Nat.beq pc 41) (some (.aload_n 0, 1, 0, 0, 0, 0, 0, 0)) none)
        (cond (Nat.beq pc 42) (some (.getfield 23, 3, 0, 1, 2, 628, 0, 0)) none)))
      (cond (Nat.blt pc 48)
       (cond (Nat.beq pc 45) (some (.getfield 191, 3, 2, 8, 0, 273, 0, 0)) none)
       (cond (Nat.blt pc 50)
        (cond (Nat.beq pc 48) (some (.bipush 9, 2, 0, 0, 0, 0, 9, 0)) none)
        (cond (Nat.beq pc 50) (some (.if_icmp .ne 59, 3, 109, 0, 0, 0, 0, 0)) none))))))
   (cond (Nat.blt pc 81)
    (cond (Nat.blt pc 67)
     (cond (Nat.blt pc 60)
      (cond (Nat.blt pc 54)
       (cond (Nat.beq pc 53) (some (.aload_n 0, 1, 0, 0, 0, 0, 0, 0)) none)
       (cond (Nat.blt pc 57)
        (cond (Nat.beq pc 54) (some (.getfield 57, 3, 0, 6, 2, 638, 0, 0)) none)
        (cond (Nat.beq pc 57) (some (.ldc2_w 270, 3, 0, 0, 0, 704, 0, 482670503283)) none)))
      (cond (Nat.blt pc 61)
       (cond (Nat.beq pc 60) (some (.aload_n 1, 1, 0, 0, 0, 0, 0, 0)) none)
       (cond (Nat.blt pc 64)
        (cond (Nat.beq pc 61) (some (.getfield 219, 3, 3, 8, 0, 415, 0, 0)) none)
        (cond (Nat.beq pc 64) (some (.invokevirtual 265, 3, 5, 0, 0, 1386, 0, 0)) none))))
     (cond (Nat.blt pc 74)
      (cond (Nat.blt pc 68)
       (cond (Nat.beq pc 67) (some (.aload_n 0, 1, 0, 0, 0, 0, 0, 0)) none)
       (cond (Nat.blt pc 71)
        (cond (Nat.beq pc 68) (some (.getfield 57, 3, 0, 6, 2, 638, 0, 0)) none)
        (cond (Nat.beq pc 71) (some (.ldc2_w 272, 3, 0, 0, 0, 705, 0, 109330278475123)) none)))
      (cond (Nat.blt pc 75)
       (cond (Nat.beq pc 74) (some (.aload_n 1, 1, 0, 0, 0, 0, 0, 0)) none)
       (cond (Nat.blt pc 78)
        (cond (Nat.beq pc 75) (some (.getfield 274, 3, 3, 3, 0, 387, 0, 0)) none)
        (cond (Nat.beq pc 78) (some (.invokevirtual 265, 3, 5, 0, 0, 1386, 0, 0)) none)))))
    (cond (Nat.blt pc 95)
     (cond (Nat.blt pc 88)
      (cond (Nat.blt pc 82)
       (cond (Nat.beq pc 81) (some (.aload_n 0, 1, 0, 0, 0, 0, 0, 0)) none)
       (cond (Nat.blt pc 85)
        (cond (Nat.beq pc 82) (some (.getfield 57, 3, 0, 6, 2, 638, 0, 0)) none)
        (cond (Nat.beq pc 85) (some (.ldc2_w 277, 3, 0, 0, 0, 706, 0, 8102654606974743673)) none)))
      (cond (Nat.blt pc 89)
       (cond (Nat.beq pc 88) (some (.aload_n 1, 1, 0, 0, 0, 0, 0, 0)) none)
       (cond (Nat.blt pc 92)
        (cond (Nat.beq pc 89) (some (.getfield 279, 3, 3, 4, 0, 393, 0, 0)) none)
        (cond (Nat.beq pc 92) (some (.invokevirtual 265, 3, 5, 0, 0, 1386, 0, 0)) none))))
     (cond (Nat.blt pc 102)
      (cond (Nat.blt pc 96)
       (cond (Nat.beq pc 95) (some (.aload_n 0, 1, 0, 0, 0, 0, 0, 0)) none)
       (cond (Nat.blt pc 99)
        (cond (Nat.beq pc 96) (some (.getfield 57, 3, 0, 6, 2, 638, 0, 0)) none)
        (cond (Nat.beq pc 99) (some (.ldc2_w 282, 3, 0, 0, 0, 707, 0, 1936027252)) none)))
      (cond (Nat.blt pc 106)
       (cond (Nat.blt pc 103)
        (cond (Nat.beq pc 102) (some (.aload_n 1, 1, 0, 0, 0, 0, 0, 0)) none)
        (cond (Nat.beq pc 103) (some (.getfield 116, 3, 3, 9, 0, 421, 0, 0)) none))
       (cond (Nat.blt pc 109)
        (cond (Nat.beq pc 106) (some (.invokevirtual 265, 3, 5, 0, 0, 1386, 0, 0)) none)
        (cond (Nat.beq pc 109) (some (.return_, 1, 0, 0, 0, 0, 0, 0)) none))))))) none
-- PrintHouseModel.thrown ()I
def zc100 (pc : Nat) : Option z_I := cond (Nat.blt pc 5)
  (cond (Nat.blt pc 1)
   (cond (Nat.beq pc 0) (some (.aload_n 0, 1, 0, 0, 0, 0, 0, 0)) none)
   (cond (Nat.blt pc 4)
    (cond (Nat.beq pc 1) (some (.getfield 41, 3, 8, 0, 0, 1752, 0, 0)) none)
    (cond (Nat.beq pc 4) (some (.ireturn, 1, 0, 0, 0, 0, 0, 0)) none))) none
-- PrintHouseModel.put (JI)Z
def zc101 (pc : Nat) : Option z_I := cond (Nat.blt pc 79)
  (cond (Nat.blt pc 40)
   (cond (Nat.blt pc 20)
    (cond (Nat.blt pc 7)
     (cond (Nat.blt pc 2)
      (cond (Nat.blt pc 1)
       (cond (Nat.beq pc 0) (some (.aload_n 0, 1, 0, 0, 0, 0, 0, 0)) none)
       (cond (Nat.beq pc 1) (some (.iconst 0, 1, 0, 0, 0, 0, 0, 0)) none))
      (cond (Nat.blt pc 5)
       (cond (Nat.beq pc 2) (some (.putfield 41, 3, 8, 0, 0, 1752, 0, 0)) none)
       (cond (Nat.blt pc 6)
        (cond (Nat.beq pc 5) (some (.iload_n 3, 1, 0, 0, 0, 0, 0, 0)) none)
        (cond (Nat.beq pc 6) (some (.iconst 1, 1, 0, 0, 0, 0, 1, 0)) none))))
     (cond (Nat.blt pc 13)
      (cond (Nat.blt pc 10)
       (cond (Nat.beq pc 7) (some (.if_icmp .lt 21, 3, 28, 0, 0, 0, 0, 0)) none)
       (cond (Nat.blt pc 11)
        (cond (Nat.beq pc 10) (some (.iload_n 3, 1, 0, 0, 0, 0, 0, 0)) none)
        (cond (Nat.beq pc 11) (some (.bipush 8, 2, 0, 0, 0, 0, 8, 0)) none)))
      (cond (Nat.blt pc 16)
       (cond (Nat.beq pc 13) (some (.if_icmp .gt 15, 3, 28, 0, 0, 0, 0, 0)) none)
       (cond (Nat.blt pc 17)
        (cond (Nat.beq pc 16) (some (.aload_n 0, 1, 0, 0, 0, 0, 0, 0)) none)
        (cond (Nat.beq pc 17) (some (.getfield 44, 3, 8, 2, 0, 1756, 0, 0)) none)))))
    (cond (Nat.blt pc 30)
     (cond (Nat.blt pc 25)
      (cond (Nat.blt pc 21)
       (cond (Nat.beq pc 20) (some (.iload_n 3, 1, 0, 0, 0, 0, 0, 0)) none)
       (cond (Nat.blt pc 22)
        (cond (Nat.beq pc 21) (some (.iadd, 1, 0, 0, 0, 0, 0, 0)) none)
        (cond (Nat.beq pc 22) (some (.sipush 240, 3, 0, 0, 0, 0, 240, 0)) none)))
      (cond (Nat.blt pc 28)
       (cond (Nat.beq pc 25) (some (.if_icmp .le 5, 3, 30, 0, 0, 0, 0, 0)) none)
       (cond (Nat.blt pc 29)
        (cond (Nat.beq pc 28) (some (.iconst 0, 1, 0, 0, 0, 0, 0, 0)) none)
        (cond (Nat.beq pc 29) (some (.ireturn, 1, 0, 0, 1, 0, 0, 0)) none))))
     (cond (Nat.blt pc 33)
      (cond (Nat.blt pc 31)
       (cond (Nat.beq pc 30) (some (.iload_n 3, 1, 0, 0, 0, 0, 0, 0)) none)
       (cond (Nat.blt pc 32)
        (cond (Nat.beq pc 31) (some (.iconst 1, 1, 0, 0, 0, 0, 1, 0)) none)
        (cond (Nat.beq pc 32) (some (.isub, 1, 0, 0, 0, 0, 0, 0)) none)))
      (cond (Nat.blt pc 35)
       (cond (Nat.beq pc 33) (some (.istore 4, 2, 0, 0, 0, 0, 0, 0)) none)
       (cond (Nat.blt pc 37)
        (cond (Nat.beq pc 35) (some (.iload 4, 2, 0, 0, 0, 0, 0, 0)) none)
        (cond (Nat.beq pc 37) (some (.ifCond .lt 40, 3, 77, 0, 0, 0, 0, 0)) none))))))
   (cond (Nat.blt pc 59)
    (cond (Nat.blt pc 49)
     (cond (Nat.blt pc 44)
      (cond (Nat.blt pc 41)
       (cond (Nat.beq pc 40) (some (.aload_n 0, 1, 0, 0, 0, 0, 0, 0)) none)
       (cond (Nat.beq pc 41) (some (.getfield 7, 3, 8, 3, 2, 1758, 0, 0)) none))
      (cond (Nat.blt pc 45)
       (cond (Nat.beq pc 44) (some (.aload_n 0, 1, 0, 0, 0, 0, 0, 0)) none)
       (cond (Nat.blt pc 48)
        (cond (Nat.beq pc 45) (some (.getfield 44, 3, 8, 2, 0, 1756, 0, 0)) none)
        (cond (Nat.beq pc 48) (some (.lload_n 1, 1, 0, 0, 0, 0, 0, 0)) none))))
     (cond (Nat.blt pc 54)
      (cond (Nat.blt pc 51)
       (cond (Nat.beq pc 49) (some (.bipush 8, 2, 0, 0, 0, 0, 8, 0)) none)
       (cond (Nat.blt pc 53)
        (cond (Nat.beq pc 51) (some (.iload 4, 2, 0, 0, 0, 0, 0, 0)) none)
        (cond (Nat.beq pc 53) (some (.imul, 1, 0, 0, 0, 0, 0, 0)) none)))
      (cond (Nat.blt pc 55)
       (cond (Nat.beq pc 54) (some (.lshr, 1, 0, 0, 0, 0, 0, 0)) none)
       (cond (Nat.blt pc 58)
        (cond (Nat.beq pc 55) (some (.ldc2_w 47, 3, 0, 0, 0, 969, 0, 255)) none)
        (cond (Nat.beq pc 58) (some (.land, 1, 0, 0, 0, 0, 0, 0)) none)))))
    (cond (Nat.blt pc 67)
     (cond (Nat.blt pc 62)
      (cond (Nat.blt pc 60)
       (cond (Nat.beq pc 59) (some (.l2i, 1, 0, 0, 0, 0, 0, 0)) none)
       (cond (Nat.blt pc 61)
        (cond (Nat.beq pc 60) (some (.iastore, 1, 0, 0, 0, 0, 0, 0)) none)
        (cond (Nat.beq pc 61) (some (.aload_n 0, 1, 0, 0, 0, 0, 0, 0)) none)))
      (cond (Nat.blt pc 63)
       (cond (Nat.beq pc 62) (some (.dup, 1, 0, 0, 0, 0, 0, 0)) none)
       (cond (Nat.blt pc 66)
        (cond (Nat.beq pc 63) (some (.getfield 44, 3, 8, 2, 0, 1756, 0, 0)) none)
        (cond (Nat.beq pc 66) (some (.iconst 1, 1, 0, 0, 0, 0, 1, 0)) none))))
     (cond (Nat.blt pc 74)
      (cond (Nat.blt pc 68)
       (cond (Nat.beq pc 67) (some (.iadd, 1, 0, 0, 0, 0, 0, 0)) none)
       (cond (Nat.blt pc 71)
        (cond (Nat.beq pc 68) (some (.putfield 44, 3, 8, 2, 0, 1756, 0, 0)) none)
        (cond (Nat.beq pc 71) (some (.iinc 4 (-1), 3, 0, 0, 0, 0, (-1), 0)) none)))
      (cond (Nat.blt pc 77)
       (cond (Nat.beq pc 74) (some (.goto (-39), 3, 35, 0, 0, 0, 0, 0)) none)
       (cond (Nat.blt pc 78)
        (cond (Nat.beq pc 77) (some (.iconst 1, 1, 0, 0, 0, 0, 1, 0)) none)
        (cond (Nat.beq pc 78) (some (.ireturn, 1, 0, 0, 1, 0, 0, 0)) none))))))) none
-- PrintHouseModel.peek ()I
def zc102 (pc : Nat) : Option z_I := cond (Nat.blt pc 25)
  (cond (Nat.blt pc 12)
   (cond (Nat.blt pc 5)
    (cond (Nat.blt pc 1)
     (cond (Nat.beq pc 0) (some (.aload_n 0, 1, 0, 0, 0, 0, 0, 0)) none)
     (cond (Nat.blt pc 4)
      (cond (Nat.beq pc 1) (some (.getfield 49, 3, 8, 14, 0, 1780, 0, 0)) none)
      (cond (Nat.beq pc 4) (some (.aload_n 0, 1, 0, 0, 0, 0, 0, 0)) none)))
    (cond (Nat.blt pc 8)
     (cond (Nat.beq pc 5) (some (.getfield 44, 3, 8, 2, 0, 1756, 0, 0)) none)
     (cond (Nat.blt pc 11)
      (cond (Nat.beq pc 8) (some (.if_icmp .ge 15, 3, 23, 0, 0, 0, 0, 0)) none)
      (cond (Nat.beq pc 11) (some (.aload_n 0, 1, 0, 0, 0, 0, 0, 0)) none))))
   (cond (Nat.blt pc 19)
    (cond (Nat.blt pc 15)
     (cond (Nat.beq pc 12) (some (.getfield 7, 3, 8, 3, 2, 1758, 0, 0)) none)
     (cond (Nat.blt pc 16)
      (cond (Nat.beq pc 15) (some (.aload_n 0, 1, 0, 0, 0, 0, 0, 0)) none)
      (cond (Nat.beq pc 16) (some (.getfield 49, 3, 8, 14, 0, 1780, 0, 0)) none)))
    (cond (Nat.blt pc 23)
     (cond (Nat.blt pc 20)
      (cond (Nat.beq pc 19) (some (.iaload, 1, 0, 0, 0, 0, 0, 0)) none)
      (cond (Nat.beq pc 20) (some (.goto 4, 3, 24, 0, 0, 0, 0, 0)) none))
     (cond (Nat.blt pc 24)
      (cond (Nat.beq pc 23) (some (.iconst (-1), 1, 0, 0, 0, 0, (-1), 0)) none)
      (cond (Nat.beq pc 24) (some (.ireturn, 1, 0, 0, 0, 0, 0, 0)) none))))) none
-- PrintHouseModel.number (I)I
def zc103 (pc : Nat) : Option z_I := cond (Nat.blt pc 80)
  (cond (Nat.blt pc 39)
   (cond (Nat.blt pc 17)
    (cond (Nat.blt pc 5)
     (cond (Nat.blt pc 2)
      (cond (Nat.blt pc 1)
       (cond (Nat.beq pc 0) (some (.iconst 0, 1, 0, 0, 0, 0, 0, 0)) none)
       (cond (Nat.beq pc 1) (some (.istore_n 2, 1, 0, 0, 0, 0, 0, 0)) none))
      (cond (Nat.blt pc 3)
       (cond (Nat.beq pc 2) (some (.iconst 0, 1, 0, 0, 0, 0, 0, 0)) none)
       (cond (Nat.blt pc 4)
        (cond (Nat.beq pc 3) (some (.istore_n 3, 1, 0, 0, 0, 0, 0, 0)) none)
        (cond (Nat.beq pc 4) (some (.iload_n 3, 1, 0, 0, 0, 0, 0, 0)) none))))
     (cond (Nat.blt pc 10)
      (cond (Nat.blt pc 6)
       (cond (Nat.beq pc 5) (some (.iload_n 1, 1, 0, 0, 0, 0, 0, 0)) none)
       (cond (Nat.blt pc 9)
        (cond (Nat.beq pc 6) (some (.if_icmp .ge 72, 3, 78, 0, 0, 0, 0, 0)) none)
        (cond (Nat.beq pc 9) (some (.aload_n 0, 1, 0, 0, 0, 0, 0, 0)) none)))
      (cond (Nat.blt pc 11)
       (cond (Nat.beq pc 10) (some (.aload_n 0, 1, 0, 0, 0, 0, 0, 0)) none)
       (cond (Nat.blt pc 14)
        (cond (Nat.beq pc 11) (some (.getfield 52, 3, 8, 13, 1, 1778, 0, 0)) none)
        (cond (Nat.beq pc 14) (some (.ifCond .eq 18, 3, 32, 0, 0, 0, 0, 0)) none)))))
    (cond (Nat.blt pc 28)
     (cond (Nat.blt pc 21)
      (cond (Nat.blt pc 18)
       (cond (Nat.beq pc 17) (some (.aload_n 0, 1, 0, 0, 0, 0, 0, 0)) none)
       (cond (Nat.beq pc 18) (some (.getfield 49, 3, 8, 14, 0, 1780, 0, 0)) none))
      (cond (Nat.blt pc 22)
       (cond (Nat.beq pc 21) (some (.aload_n 0, 1, 0, 0, 0, 0, 0, 0)) none)
       (cond (Nat.blt pc 25)
        (cond (Nat.beq pc 22) (some (.getfield 44, 3, 8, 2, 0, 1756, 0, 0)) none)
        (cond (Nat.beq pc 25) (some (.if_icmp .ge 7, 3, 32, 0, 0, 0, 0, 0)) none))))
     (cond (Nat.blt pc 33)
      (cond (Nat.blt pc 29)
       (cond (Nat.beq pc 28) (some (.iconst 1, 1, 0, 0, 0, 0, 1, 0)) none)
       (cond (Nat.blt pc 32)
        (cond (Nat.beq pc 29) (some (.goto 4, 3, 33, 0, 0, 0, 0, 0)) none)
        (cond (Nat.beq pc 32) (some (.iconst 0, 1, 0, 0, 0, 0, 0, 0)) none)))
      (cond (Nat.blt pc 36)
       (cond (Nat.beq pc 33) (some (.putfield 52, 3, 8, 13, 1, 1778, 0, 0)) none)
       (cond (Nat.blt pc 37)
        (cond (Nat.beq pc 36) (some (.iload_n 2, 1, 0, 0, 0, 0, 0, 0)) none)
        (cond (Nat.beq pc 37) (some (.bipush 8, 2, 0, 0, 0, 0, 8, 0)) none))))))
   (cond (Nat.blt pc 60)
    (cond (Nat.blt pc 48)
     (cond (Nat.blt pc 41)
      (cond (Nat.blt pc 40)
       (cond (Nat.beq pc 39) (some (.ishl, 1, 0, 0, 0, 0, 0, 0)) none)
       (cond (Nat.beq pc 40) (some (.aload_n 0, 1, 0, 0, 0, 0, 0, 0)) none))
      (cond (Nat.blt pc 44)
       (cond (Nat.beq pc 41) (some (.getfield 52, 3, 8, 13, 1, 1778, 0, 0)) none)
       (cond (Nat.blt pc 47)
        (cond (Nat.beq pc 44) (some (.ifCond .eq 15, 3, 59, 0, 0, 0, 0, 0)) none)
        (cond (Nat.beq pc 47) (some (.aload_n 0, 1, 0, 0, 0, 0, 0, 0)) none))))
     (cond (Nat.blt pc 55)
      (cond (Nat.blt pc 51)
       (cond (Nat.beq pc 48) (some (.getfield 7, 3, 8, 3, 2, 1758, 0, 0)) none)
       (cond (Nat.blt pc 52)
        (cond (Nat.beq pc 51) (some (.aload_n 0, 1, 0, 0, 0, 0, 0, 0)) none)
        (cond (Nat.beq pc 52) (some (.getfield 49, 3, 8, 14, 0, 1780, 0, 0)) none)))
      (cond (Nat.blt pc 56)
       (cond (Nat.beq pc 55) (some (.iaload, 1, 0, 0, 0, 0, 0, 0)) none)
       (cond (Nat.blt pc 59)
        (cond (Nat.beq pc 56) (some (.goto 4, 3, 60, 0, 0, 0, 0, 0)) none)
        (cond (Nat.beq pc 59) (some (.iconst 0, 1, 0, 0, 0, 0, 0, 0)) none)))))
    (cond (Nat.blt pc 68)
     (cond (Nat.blt pc 63)
      (cond (Nat.blt pc 61)
       (cond (Nat.beq pc 60) (some (.ior, 1, 0, 0, 0, 0, 0, 0)) none)
       (cond (Nat.blt pc 62)
        (cond (Nat.beq pc 61) (some (.istore_n 2, 1, 0, 0, 0, 0, 0, 0)) none)
        (cond (Nat.beq pc 62) (some (.aload_n 0, 1, 0, 0, 0, 0, 0, 0)) none)))
      (cond (Nat.blt pc 64)
       (cond (Nat.beq pc 63) (some (.dup, 1, 0, 0, 0, 0, 0, 0)) none)
       (cond (Nat.blt pc 67)
        (cond (Nat.beq pc 64) (some (.getfield 49, 3, 8, 14, 0, 1780, 0, 0)) none)
        (cond (Nat.beq pc 67) (some (.iconst 1, 1, 0, 0, 0, 0, 1, 0)) none))))
     (cond (Nat.blt pc 75)
      (cond (Nat.blt pc 69)
       (cond (Nat.beq pc 68) (some (.iadd, 1, 0, 0, 0, 0, 0, 0)) none)
       (cond (Nat.blt pc 72)
        (cond (Nat.beq pc 69) (some (.putfield 49, 3, 8, 14, 0, 1780, 0, 0)) none)
        (cond (Nat.beq pc 72) (some (.iinc 3 1, 3, 0, 0, 0, 0, 1, 0)) none)))
      (cond (Nat.blt pc 78)
       (cond (Nat.beq pc 75) (some (.goto (-71), 3, 4, 0, 0, 0, 0, 0)) none)
       (cond (Nat.blt pc 79)
        (cond (Nat.beq pc 78) (some (.iload_n 2, 1, 0, 0, 0, 0, 0, 0)) none)
        (cond (Nat.beq pc 79) (some (.ireturn, 1, 0, 0, 0, 0, 0, 0)) none))))))) none
end
section
-- PrintHouseModel.letters (II)Z
def zc104 (pc : Nat) : Option z_I := cond (Nat.blt pc 71)
  (cond (Nat.blt pc 34)
   (cond (Nat.blt pc 16)
    (cond (Nat.blt pc 7)
     (cond (Nat.blt pc 2)
      (cond (Nat.blt pc 1)
       (cond (Nat.beq pc 0) (some (.iload_n 1, 1, 0, 0, 0, 0, 0, 0)) none)
       (cond (Nat.beq pc 1) (some (.iload_n 2, 1, 0, 0, 0, 0, 0, 0)) none))
      (cond (Nat.blt pc 3)
       (cond (Nat.beq pc 2) (some (.iadd, 1, 0, 0, 0, 0, 0, 0)) none)
       (cond (Nat.blt pc 4)
        (cond (Nat.beq pc 3) (some (.aload_n 0, 1, 0, 0, 0, 0, 0, 0)) none)
        (cond (Nat.beq pc 4) (some (.getfield 44, 3, 8, 2, 0, 1756, 0, 0)) none))))
     (cond (Nat.blt pc 11)
      (cond (Nat.blt pc 10)
       (cond (Nat.beq pc 7) (some (.if_icmp .gt 7, 3, 14, 0, 0, 0, 0, 0)) none)
       (cond (Nat.beq pc 10) (some (.iconst 1, 1, 0, 0, 0, 0, 1, 0)) none))
      (cond (Nat.blt pc 14)
       (cond (Nat.beq pc 11) (some (.goto 4, 3, 15, 0, 0, 0, 0, 0)) none)
       (cond (Nat.blt pc 15)
        (cond (Nat.beq pc 14) (some (.iconst 0, 1, 0, 0, 0, 0, 0, 0)) none)
        (cond (Nat.beq pc 15) (some (.istore_n 3, 1, 0, 0, 0, 0, 0, 0)) none)))))
    (cond (Nat.blt pc 25)
     (cond (Nat.blt pc 19)
      (cond (Nat.blt pc 17)
       (cond (Nat.beq pc 16) (some (.iconst 0, 1, 0, 0, 0, 0, 0, 0)) none)
       (cond (Nat.beq pc 17) (some (.istore 4, 2, 0, 0, 0, 0, 0, 0)) none))
      (cond (Nat.blt pc 21)
       (cond (Nat.beq pc 19) (some (.iload 4, 2, 0, 0, 0, 0, 0, 0)) none)
       (cond (Nat.blt pc 22)
        (cond (Nat.beq pc 21) (some (.iload_n 2, 1, 0, 0, 0, 0, 0, 0)) none)
        (cond (Nat.beq pc 22) (some (.if_icmp .ge 47, 3, 69, 0, 0, 0, 0, 0)) none))))
     (cond (Nat.blt pc 29)
      (cond (Nat.blt pc 26)
       (cond (Nat.beq pc 25) (some (.iload_n 3, 1, 0, 0, 0, 0, 0, 0)) none)
       (cond (Nat.beq pc 26) (some (.ifCond .eq 43, 3, 69, 0, 0, 0, 0, 0)) none))
      (cond (Nat.blt pc 30)
       (cond (Nat.beq pc 29) (some (.aload_n 0, 1, 0, 0, 0, 0, 0, 0)) none)
       (cond (Nat.blt pc 33)
        (cond (Nat.beq pc 30) (some (.getfield 7, 3, 8, 3, 2, 1758, 0, 0)) none)
        (cond (Nat.beq pc 33) (some (.iload_n 1, 1, 0, 0, 0, 0, 0, 0)) none))))))
   (cond (Nat.blt pc 51)
    (cond (Nat.blt pc 43)
     (cond (Nat.blt pc 37)
      (cond (Nat.blt pc 36)
       (cond (Nat.beq pc 34) (some (.iload 4, 2, 0, 0, 0, 0, 0, 0)) none)
       (cond (Nat.beq pc 36) (some (.iadd, 1, 0, 0, 0, 0, 0, 0)) none))
      (cond (Nat.blt pc 38)
       (cond (Nat.beq pc 37) (some (.iaload, 1, 0, 0, 0, 0, 0, 0)) none)
       (cond (Nat.blt pc 40)
        (cond (Nat.beq pc 38) (some (.bipush 96, 2, 0, 0, 0, 0, 96, 0)) none)
        (cond (Nat.beq pc 40) (some (.if_icmp .le 21, 3, 61, 0, 0, 0, 0, 0)) none))))
     (cond (Nat.blt pc 47)
      (cond (Nat.blt pc 44)
       (cond (Nat.beq pc 43) (some (.aload_n 0, 1, 0, 0, 0, 0, 0, 0)) none)
       (cond (Nat.beq pc 44) (some (.getfield 7, 3, 8, 3, 2, 1758, 0, 0)) none))
      (cond (Nat.blt pc 48)
       (cond (Nat.beq pc 47) (some (.iload_n 1, 1, 0, 0, 0, 0, 0, 0)) none)
       (cond (Nat.blt pc 50)
        (cond (Nat.beq pc 48) (some (.iload 4, 2, 0, 0, 0, 0, 0, 0)) none)
        (cond (Nat.beq pc 50) (some (.iadd, 1, 0, 0, 0, 0, 0, 0)) none)))))
    (cond (Nat.blt pc 61)
     (cond (Nat.blt pc 54)
      (cond (Nat.blt pc 52)
       (cond (Nat.beq pc 51) (some (.iaload, 1, 0, 0, 0, 0, 0, 0)) none)
       (cond (Nat.beq pc 52) (some (.bipush 123, 2, 0, 0, 0, 0, 123, 0)) none))
      (cond (Nat.blt pc 57)
       (cond (Nat.beq pc 54) (some (.if_icmp .ge 7, 3, 61, 0, 0, 0, 0, 0)) none)
       (cond (Nat.blt pc 58)
        (cond (Nat.beq pc 57) (some (.iconst 1, 1, 0, 0, 0, 0, 1, 0)) none)
        (cond (Nat.beq pc 58) (some (.goto 4, 3, 62, 0, 0, 0, 0, 0)) none))))
     (cond (Nat.blt pc 66)
      (cond (Nat.blt pc 62)
       (cond (Nat.beq pc 61) (some (.iconst 0, 1, 0, 0, 0, 0, 0, 0)) none)
       (cond (Nat.blt pc 63)
        (cond (Nat.beq pc 62) (some (.istore_n 3, 1, 0, 0, 0, 0, 0, 0)) none)
        (cond (Nat.beq pc 63) (some (.iinc 4 1, 3, 0, 0, 0, 0, 1, 0)) none)))
      (cond (Nat.blt pc 69)
       (cond (Nat.beq pc 66) (some (.goto (-47), 3, 19, 0, 0, 0, 0, 0)) none)
       (cond (Nat.blt pc 70)
        (cond (Nat.beq pc 69) (some (.iload_n 3, 1, 0, 0, 0, 0, 0, 0)) none)
        (cond (Nat.beq pc 70) (some (.ireturn, 1, 0, 0, 1, 0, 0, 0)) none))))))) none
-- PrintHouseModel.spells (IIIJ)Z
def zc105 (pc : Nat) : Option z_I := cond (Nat.blt pc 69)
  (cond (Nat.blt pc 34)
   (cond (Nat.blt pc 15)
    (cond (Nat.blt pc 6)
     (cond (Nat.blt pc 2)
      (cond (Nat.blt pc 1)
       (cond (Nat.beq pc 0) (some (.iload_n 2, 1, 0, 0, 0, 0, 0, 0)) none)
       (cond (Nat.beq pc 1) (some (.iload_n 3, 1, 0, 0, 0, 0, 0, 0)) none))
      (cond (Nat.blt pc 5)
       (cond (Nat.beq pc 2) (some (.if_icmp .ne 7, 3, 9, 0, 0, 0, 0, 0)) none)
       (cond (Nat.beq pc 5) (some (.iconst 1, 1, 0, 0, 0, 0, 1, 0)) none)))
     (cond (Nat.blt pc 10)
      (cond (Nat.blt pc 9)
       (cond (Nat.beq pc 6) (some (.goto 4, 3, 10, 0, 0, 0, 0, 0)) none)
       (cond (Nat.beq pc 9) (some (.iconst 0, 1, 0, 0, 0, 0, 0, 0)) none))
      (cond (Nat.blt pc 12)
       (cond (Nat.beq pc 10) (some (.istore 6, 2, 0, 0, 0, 0, 0, 0)) none)
       (cond (Nat.blt pc 13)
        (cond (Nat.beq pc 12) (some (.iconst 0, 1, 0, 0, 0, 0, 0, 0)) none)
        (cond (Nat.beq pc 13) (some (.istore 7, 2, 0, 0, 0, 0, 0, 0)) none)))))
    (cond (Nat.blt pc 26)
     (cond (Nat.blt pc 18)
      (cond (Nat.blt pc 17)
       (cond (Nat.beq pc 15) (some (.iload 7, 2, 0, 0, 0, 0, 0, 0)) none)
       (cond (Nat.beq pc 17) (some (.iload_n 2, 1, 0, 0, 0, 0, 0, 0)) none))
      (cond (Nat.blt pc 21)
       (cond (Nat.beq pc 18) (some (.if_icmp .ge 48, 3, 66, 0, 0, 0, 0, 0)) none)
       (cond (Nat.blt pc 23)
        (cond (Nat.beq pc 21) (some (.iload 6, 2, 0, 0, 0, 0, 0, 0)) none)
        (cond (Nat.beq pc 23) (some (.ifCond .eq 43, 3, 66, 0, 0, 0, 0, 0)) none))))
     (cond (Nat.blt pc 30)
      (cond (Nat.blt pc 27)
       (cond (Nat.beq pc 26) (some (.aload_n 0, 1, 0, 0, 0, 0, 0, 0)) none)
       (cond (Nat.beq pc 27) (some (.getfield 7, 3, 8, 3, 2, 1758, 0, 0)) none))
      (cond (Nat.blt pc 31)
       (cond (Nat.beq pc 30) (some (.iload_n 1, 1, 0, 0, 0, 0, 0, 0)) none)
       (cond (Nat.blt pc 33)
        (cond (Nat.beq pc 31) (some (.iload 7, 2, 0, 0, 0, 0, 0, 0)) none)
        (cond (Nat.beq pc 33) (some (.iadd, 1, 0, 0, 0, 0, 0, 0)) none))))))
   (cond (Nat.blt pc 49)
    (cond (Nat.blt pc 41)
     (cond (Nat.blt pc 37)
      (cond (Nat.blt pc 35)
       (cond (Nat.beq pc 34) (some (.iaload, 1, 0, 0, 0, 0, 0, 0)) none)
       (cond (Nat.beq pc 35) (some (.bipush 96, 2, 0, 0, 0, 0, 96, 0)) none))
      (cond (Nat.blt pc 38)
       (cond (Nat.beq pc 37) (some (.isub, 1, 0, 0, 0, 0, 0, 0)) none)
       (cond (Nat.blt pc 40)
        (cond (Nat.beq pc 38) (some (.lload 4, 2, 0, 0, 0, 0, 0, 0)) none)
        (cond (Nat.beq pc 40) (some (.iconst 5, 1, 0, 0, 0, 0, 5, 0)) none))))
     (cond (Nat.blt pc 44)
      (cond (Nat.blt pc 43)
       (cond (Nat.beq pc 41) (some (.iload 7, 2, 0, 0, 0, 0, 0, 0)) none)
       (cond (Nat.beq pc 43) (some (.imul, 1, 0, 0, 0, 0, 0, 0)) none))
      (cond (Nat.blt pc 45)
       (cond (Nat.beq pc 44) (some (.lshr, 1, 0, 0, 0, 0, 0, 0)) none)
       (cond (Nat.blt pc 48)
        (cond (Nat.beq pc 45) (some (.ldc2_w 56, 3, 0, 0, 0, 1011, 0, 31)) none)
        (cond (Nat.beq pc 48) (some (.land, 1, 0, 0, 0, 0, 0, 0)) none)))))
    (cond (Nat.blt pc 58)
     (cond (Nat.blt pc 53)
      (cond (Nat.blt pc 50)
       (cond (Nat.beq pc 49) (some (.l2i, 1, 0, 0, 0, 0, 0, 0)) none)
       (cond (Nat.beq pc 50) (some (.if_icmp .ne 7, 3, 57, 0, 0, 0, 0, 0)) none))
      (cond (Nat.blt pc 54)
       (cond (Nat.beq pc 53) (some (.iconst 1, 1, 0, 0, 0, 0, 1, 0)) none)
       (cond (Nat.blt pc 57)
        (cond (Nat.beq pc 54) (some (.goto 4, 3, 58, 0, 0, 0, 0, 0)) none)
        (cond (Nat.beq pc 57) (some (.iconst 0, 1, 0, 0, 0, 0, 0, 0)) none))))
     (cond (Nat.blt pc 63)
      (cond (Nat.blt pc 60)
       (cond (Nat.beq pc 58) (some (.istore 6, 2, 0, 0, 0, 0, 0, 0)) none)
       (cond (Nat.beq pc 60) (some (.iinc 7 1, 3, 0, 0, 0, 0, 1, 0)) none))
      (cond (Nat.blt pc 66)
       (cond (Nat.beq pc 63) (some (.goto (-48), 3, 15, 0, 0, 0, 0, 0)) none)
       (cond (Nat.blt pc 68)
        (cond (Nat.beq pc 66) (some (.iload 6, 2, 0, 0, 0, 0, 0, 0)) none)
        (cond (Nat.beq pc 68) (some (.ireturn, 1, 0, 0, 1, 0, 0, 0)) none))))))) none
-- PrintHouseModel.isNew (II)Z
def zc106 (pc : Nat) : Option z_I := cond (Nat.blt pc 149)
  (cond (Nat.blt pc 72)
   (cond (Nat.blt pc 36)
    (cond (Nat.blt pc 18)
     (cond (Nat.blt pc 7)
      (cond (Nat.blt pc 2)
       (cond (Nat.blt pc 1)
        (cond (Nat.beq pc 0) (some (.iconst 1, 1, 0, 0, 0, 0, 1, 0)) none)
        (cond (Nat.beq pc 1) (some (.istore_n 3, 1, 0, 0, 0, 0, 0, 0)) none))
       (cond (Nat.blt pc 3)
        (cond (Nat.beq pc 2) (some (.iconst 0, 1, 0, 0, 0, 0, 0, 0)) none)
        (cond (Nat.blt pc 5)
         (cond (Nat.beq pc 3) (some (.istore 4, 2, 0, 0, 0, 0, 0, 0)) none)
         (cond (Nat.beq pc 5) (some (.iload 4, 2, 0, 0, 0, 0, 0, 0)) none))))
      (cond (Nat.blt pc 11)
       (cond (Nat.blt pc 8)
        (cond (Nat.beq pc 7) (some (.aload_n 0, 1, 0, 0, 0, 0, 0, 0)) none)
        (cond (Nat.beq pc 8) (some (.getfield 58, 3, 8, 21, 0, 1794, 0, 0)) none))
       (cond (Nat.blt pc 14)
        (cond (Nat.beq pc 11) (some (.if_icmp .ge 116, 3, 127, 0, 0, 0, 0, 0)) none)
        (cond (Nat.blt pc 15)
         (cond (Nat.beq pc 14) (some (.aload_n 0, 1, 0, 0, 0, 0, 0, 0)) none)
         (cond (Nat.beq pc 15) (some (.getfield 23, 3, 8, 22, 2, 1796, 0, 0)) none)))))
     (cond (Nat.blt pc 27)
      (cond (Nat.blt pc 21)
       (cond (Nat.blt pc 20)
        (cond (Nat.beq pc 18) (some (.iload 4, 2, 0, 0, 0, 0, 0, 0)) none)
        (cond (Nat.beq pc 20) (some (.iaload, 1, 0, 0, 0, 0, 0, 0)) none))
       (cond (Nat.blt pc 23)
        (cond (Nat.beq pc 21) (some (.istore 5, 2, 0, 0, 0, 0, 0, 0)) none)
        (cond (Nat.blt pc 26)
         (cond (Nat.beq pc 23) (some (.sipush 256, 3, 0, 0, 0, 0, 256, 0)) none)
         (cond (Nat.beq pc 26) (some (.aload_n 0, 1, 0, 0, 0, 0, 0, 0)) none))))
      (cond (Nat.blt pc 33)
       (cond (Nat.blt pc 30)
        (cond (Nat.beq pc 27) (some (.getfield 7, 3, 8, 3, 2, 1758, 0, 0)) none)
        (cond (Nat.blt pc 32)
         (cond (Nat.beq pc 30) (some (.iload 5, 2, 0, 0, 0, 0, 0, 0)) none)
         (cond (Nat.beq pc 32) (some (.iconst 2, 1, 0, 0, 0, 0, 2, 0)) none)))
       (cond (Nat.blt pc 34)
        (cond (Nat.beq pc 33) (some (.isub, 1, 0, 0, 0, 0, 0, 0)) none)
        (cond (Nat.blt pc 35)
         (cond (Nat.beq pc 34) (some (.iaload, 1, 0, 0, 0, 0, 0, 0)) none)
         (cond (Nat.beq pc 35) (some (.imul, 1, 0, 0, 0, 0, 0, 0)) none))))))
    (cond (Nat.blt pc 51)
     (cond (Nat.blt pc 44)
      (cond (Nat.blt pc 40)
       (cond (Nat.blt pc 37)
        (cond (Nat.beq pc 36) (some (.aload_n 0, 1, 0, 0, 0, 0, 0, 0)) none)
        (cond (Nat.beq pc 37) (some (.getfield 7, 3, 8, 3, 2, 1758, 0, 0)) none))
       (cond (Nat.blt pc 42)
        (cond (Nat.beq pc 40) (some (.iload 5, 2, 0, 0, 0, 0, 0, 0)) none)
        (cond (Nat.blt pc 43)
         (cond (Nat.beq pc 42) (some (.iconst 1, 1, 0, 0, 0, 0, 1, 0)) none)
         (cond (Nat.beq pc 43) (some (.isub, 1, 0, 0, 0, 0, 0, 0)) none))))
      (cond (Nat.blt pc 46)
       (cond (Nat.blt pc 45)
        (cond (Nat.beq pc 44) (some (.iaload, 1, 0, 0, 0, 0, 0, 0)) none)
        (cond (Nat.beq pc 45) (some (.iadd, 1, 0, 0, 0, 0, 0, 0)) none))
       (cond (Nat.blt pc 47)
        (cond (Nat.beq pc 46) (some (.iload_n 2, 1, 0, 0, 0, 0, 0, 0)) none)
        (cond (Nat.blt pc 50)
         (cond (Nat.beq pc 47) (some (.if_icmp .ne 7, 3, 54, 0, 0, 0, 0, 0)) none)
         (cond (Nat.beq pc 50) (some (.iconst 1, 1, 0, 0, 0, 0, 1, 0)) none)))))
     (cond (Nat.blt pc 60)
      (cond (Nat.blt pc 55)
       (cond (Nat.blt pc 54)
        (cond (Nat.beq pc 51) (some (.goto 4, 3, 55, 0, 0, 0, 0, 0)) none)
        (cond (Nat.beq pc 54) (some (.iconst 0, 1, 0, 0, 0, 0, 0, 0)) none))
       (cond (Nat.blt pc 57)
        (cond (Nat.beq pc 55) (some (.istore 6, 2, 0, 0, 0, 0, 0, 0)) none)
        (cond (Nat.blt pc 58)
         (cond (Nat.beq pc 57) (some (.iconst 0, 1, 0, 0, 0, 0, 0, 0)) none)
         (cond (Nat.beq pc 58) (some (.istore 7, 2, 0, 0, 0, 0, 0, 0)) none))))
      (cond (Nat.blt pc 66)
       (cond (Nat.blt pc 62)
        (cond (Nat.beq pc 60) (some (.iload 7, 2, 0, 0, 0, 0, 0, 0)) none)
        (cond (Nat.blt pc 63)
         (cond (Nat.beq pc 62) (some (.iload_n 2, 1, 0, 0, 0, 0, 0, 0)) none)
         (cond (Nat.beq pc 63) (some (.if_icmp .ge 43, 3, 106, 0, 0, 0, 0, 0)) none)))
       (cond (Nat.blt pc 68)
        (cond (Nat.beq pc 66) (some (.iload 6, 2, 0, 0, 0, 0, 0, 0)) none)
        (cond (Nat.blt pc 71)
         (cond (Nat.beq pc 68) (some (.ifCond .eq 38, 3, 106, 0, 0, 0, 0, 0)) none)
         (cond (Nat.beq pc 71) (some (.aload_n 0, 1, 0, 0, 0, 0, 0, 0)) none)))))))
   (cond (Nat.blt pc 112)
    (cond (Nat.blt pc 89)
     (cond (Nat.blt pc 81)
      (cond (Nat.blt pc 77)
       (cond (Nat.blt pc 75)
        (cond (Nat.beq pc 72) (some (.getfield 7, 3, 8, 3, 2, 1758, 0, 0)) none)
        (cond (Nat.beq pc 75) (some (.iload 5, 2, 0, 0, 0, 0, 0, 0)) none))
       (cond (Nat.blt pc 79)
        (cond (Nat.beq pc 77) (some (.iload 7, 2, 0, 0, 0, 0, 0, 0)) none)
        (cond (Nat.blt pc 80)
         (cond (Nat.beq pc 79) (some (.iadd, 1, 0, 0, 0, 0, 0, 0)) none)
         (cond (Nat.beq pc 80) (some (.iaload, 1, 0, 0, 0, 0, 0, 0)) none))))
      (cond (Nat.blt pc 85)
       (cond (Nat.blt pc 82)
        (cond (Nat.beq pc 81) (some (.aload_n 0, 1, 0, 0, 0, 0, 0, 0)) none)
        (cond (Nat.beq pc 82) (some (.getfield 7, 3, 8, 3, 2, 1758, 0, 0)) none))
       (cond (Nat.blt pc 86)
        (cond (Nat.beq pc 85) (some (.iload_n 1, 1, 0, 0, 0, 0, 0, 0)) none)
        (cond (Nat.blt pc 88)
         (cond (Nat.beq pc 86) (some (.iload 7, 2, 0, 0, 0, 0, 0, 0)) none)
         (cond (Nat.beq pc 88) (some (.iadd, 1, 0, 0, 0, 0, 0, 0)) none)))))
     (cond (Nat.blt pc 98)
      (cond (Nat.blt pc 93)
       (cond (Nat.blt pc 90)
        (cond (Nat.beq pc 89) (some (.iaload, 1, 0, 0, 0, 0, 0, 0)) none)
        (cond (Nat.beq pc 90) (some (.if_icmp .ne 7, 3, 97, 0, 0, 0, 0, 0)) none))
       (cond (Nat.blt pc 94)
        (cond (Nat.beq pc 93) (some (.iconst 1, 1, 0, 0, 0, 0, 1, 0)) none)
        (cond (Nat.blt pc 97)
         (cond (Nat.beq pc 94) (some (.goto 4, 3, 98, 0, 0, 0, 0, 0)) none)
         (cond (Nat.beq pc 97) (some (.iconst 0, 1, 0, 0, 0, 0, 0, 0)) none))))
      (cond (Nat.blt pc 106)
       (cond (Nat.blt pc 100)
        (cond (Nat.beq pc 98) (some (.istore 6, 2, 0, 0, 0, 0, 0, 0)) none)
        (cond (Nat.blt pc 103)
         (cond (Nat.beq pc 100) (some (.iinc 7 1, 3, 0, 0, 0, 0, 1, 0)) none)
         (cond (Nat.beq pc 103) (some (.goto (-43), 3, 60, 0, 0, 0, 0, 0)) none)))
       (cond (Nat.blt pc 107)
        (cond (Nat.beq pc 106) (some (.iload_n 3, 1, 0, 0, 0, 0, 0, 0)) none)
        (cond (Nat.blt pc 110)
         (cond (Nat.beq pc 107) (some (.ifCond .eq 12, 3, 119, 0, 0, 0, 0, 0)) none)
         (cond (Nat.beq pc 110) (some (.iload 6, 2, 0, 0, 0, 0, 0, 0)) none))))))
    (cond (Nat.blt pc 132)
     (cond (Nat.blt pc 121)
      (cond (Nat.blt pc 116)
       (cond (Nat.blt pc 115)
        (cond (Nat.beq pc 112) (some (.ifCond .ne 7, 3, 119, 0, 0, 0, 0, 0)) none)
        (cond (Nat.beq pc 115) (some (.iconst 1, 1, 0, 0, 0, 0, 1, 0)) none))
       (cond (Nat.blt pc 119)
        (cond (Nat.beq pc 116) (some (.goto 4, 3, 120, 0, 0, 0, 0, 0)) none)
        (cond (Nat.blt pc 120)
         (cond (Nat.beq pc 119) (some (.iconst 0, 1, 0, 0, 0, 0, 0, 0)) none)
         (cond (Nat.beq pc 120) (some (.istore_n 3, 1, 0, 0, 0, 0, 0, 0)) none))))
      (cond (Nat.blt pc 127)
       (cond (Nat.blt pc 124)
        (cond (Nat.beq pc 121) (some (.iinc 4 1, 3, 0, 0, 0, 0, 1, 0)) none)
        (cond (Nat.beq pc 124) (some (.goto (-119), 3, 5, 0, 0, 0, 0, 0)) none))
       (cond (Nat.blt pc 128)
        (cond (Nat.beq pc 127) (some (.aload_n 0, 1, 0, 0, 0, 0, 0, 0)) none)
        (cond (Nat.blt pc 131)
         (cond (Nat.beq pc 128) (some (.getfield 23, 3, 8, 22, 2, 1796, 0, 0)) none)
         (cond (Nat.beq pc 131) (some (.aload_n 0, 1, 0, 0, 0, 0, 0, 0)) none)))))
     (cond (Nat.blt pc 139)
      (cond (Nat.blt pc 136)
       (cond (Nat.blt pc 135)
        (cond (Nat.beq pc 132) (some (.getfield 58, 3, 8, 21, 0, 1794, 0, 0)) none)
        (cond (Nat.beq pc 135) (some (.iload_n 1, 1, 0, 0, 0, 0, 0, 0)) none))
       (cond (Nat.blt pc 137)
        (cond (Nat.beq pc 136) (some (.iastore, 1, 0, 0, 0, 0, 0, 0)) none)
        (cond (Nat.blt pc 138)
         (cond (Nat.beq pc 137) (some (.aload_n 0, 1, 0, 0, 0, 0, 0, 0)) none)
         (cond (Nat.beq pc 138) (some (.dup, 1, 0, 0, 0, 0, 0, 0)) none))))
      (cond (Nat.blt pc 144)
       (cond (Nat.blt pc 142)
        (cond (Nat.beq pc 139) (some (.getfield 58, 3, 8, 21, 0, 1794, 0, 0)) none)
        (cond (Nat.blt pc 143)
         (cond (Nat.beq pc 142) (some (.iconst 1, 1, 0, 0, 0, 0, 1, 0)) none)
         (cond (Nat.beq pc 143) (some (.iadd, 1, 0, 0, 0, 0, 0, 0)) none)))
       (cond (Nat.blt pc 147)
        (cond (Nat.beq pc 144) (some (.putfield 58, 3, 8, 21, 0, 1794, 0, 0)) none)
        (cond (Nat.blt pc 148)
         (cond (Nat.beq pc 147) (some (.iload_n 3, 1, 0, 0, 0, 0, 0, 0)) none)
         (cond (Nat.beq pc 148) (some (.ireturn, 1, 0, 0, 1, 0, 0, 0)) none)))))))) none
-- PrintHouseModel.attribute (Z)V
def zc107 (pc : Nat) : Option z_I := cond (Nat.blt pc 343)
  (cond (Nat.blt pc 169)
   (cond (Nat.blt pc 79)
    (cond (Nat.blt pc 37)
     (cond (Nat.blt pc 16)
      (cond (Nat.blt pc 7)
       (cond (Nat.blt pc 2)
        (cond (Nat.blt pc 1)
         (cond (Nat.beq pc 0) (some (.aload_n 0, 1, 0, 0, 0, 0, 0, 0)) none)
         (cond (Nat.beq pc 1) (some (.iconst 1, 1, 0, 0, 0, 0, 1, 0)) none))
        (cond (Nat.blt pc 5)
         (cond (Nat.beq pc 2) (some (.invokevirtual 61, 3, 103, 0, 0, 1964, 0, 0)) none)
         (cond (Nat.blt pc 6)
          (cond (Nat.beq pc 5) (some (.istore_n 2, 1, 0, 0, 0, 0, 0, 0)) none)
          (cond (Nat.beq pc 6) (some (.aload_n 0, 1, 0, 0, 0, 0, 0, 0)) none))))
       (cond (Nat.blt pc 11)
        (cond (Nat.blt pc 8)
         (cond (Nat.beq pc 7) (some (.iconst 2, 1, 0, 0, 0, 0, 2, 0)) none)
         (cond (Nat.beq pc 8) (some (.invokevirtual 61, 3, 103, 0, 0, 1964, 0, 0)) none))
        (cond (Nat.blt pc 12)
         (cond (Nat.beq pc 11) (some (.istore_n 3, 1, 0, 0, 0, 0, 0, 0)) none)
         (cond (Nat.blt pc 13)
          (cond (Nat.beq pc 12) (some (.aload_n 0, 1, 0, 0, 0, 0, 0, 0)) none)
          (cond (Nat.beq pc 13) (some (.getfield 49, 3, 8, 14, 0, 1780, 0, 0)) none)))))
      (cond (Nat.blt pc 26)
       (cond (Nat.blt pc 19)
        (cond (Nat.blt pc 18)
         (cond (Nat.beq pc 16) (some (.istore 4, 2, 0, 0, 0, 0, 0, 0)) none)
         (cond (Nat.beq pc 18) (some (.aload_n 0, 1, 0, 0, 0, 0, 0, 0)) none))
        (cond (Nat.blt pc 20)
         (cond (Nat.beq pc 19) (some (.aload_n 0, 1, 0, 0, 0, 0, 0, 0)) none)
         (cond (Nat.blt pc 23)
          (cond (Nat.beq pc 20) (some (.getfield 52, 3, 8, 13, 1, 1778, 0, 0)) none)
          (cond (Nat.beq pc 23) (some (.ifCond .eq 27, 3, 50, 0, 0, 0, 0, 0)) none))))
       (cond (Nat.blt pc 31)
        (cond (Nat.blt pc 27)
         (cond (Nat.beq pc 26) (some (.iload_n 3, 1, 0, 0, 0, 0, 0, 0)) none)
         (cond (Nat.blt pc 30)
          (cond (Nat.beq pc 27) (some (.ifCond .le 23, 3, 50, 0, 0, 0, 0, 0)) none)
          (cond (Nat.beq pc 30) (some (.iload_n 3, 1, 0, 0, 0, 0, 0, 0)) none)))
        (cond (Nat.blt pc 33)
         (cond (Nat.beq pc 31) (some (.bipush 9, 2, 0, 0, 0, 0, 9, 0)) none)
         (cond (Nat.blt pc 36)
          (cond (Nat.beq pc 33) (some (.if_icmp .ge 17, 3, 50, 0, 0, 0, 0, 0)) none)
          (cond (Nat.beq pc 36) (some (.aload_n 0, 1, 0, 0, 0, 0, 0, 0)) none))))))
     (cond (Nat.blt pc 61)
      (cond (Nat.blt pc 47)
       (cond (Nat.blt pc 40)
        (cond (Nat.blt pc 39)
         (cond (Nat.beq pc 37) (some (.iload 4, 2, 0, 0, 0, 0, 0, 0)) none)
         (cond (Nat.beq pc 39) (some (.iload_n 3, 1, 0, 0, 0, 0, 0, 0)) none))
        (cond (Nat.blt pc 43)
         (cond (Nat.beq pc 40) (some (.invokevirtual 65, 3, 104, 0, 0, 1996, 0, 0)) none)
         (cond (Nat.blt pc 46)
          (cond (Nat.beq pc 43) (some (.ifCond .eq 7, 3, 50, 0, 0, 0, 0, 0)) none)
          (cond (Nat.beq pc 46) (some (.iconst 1, 1, 0, 0, 0, 0, 1, 0)) none))))
       (cond (Nat.blt pc 54)
        (cond (Nat.blt pc 50)
         (cond (Nat.beq pc 47) (some (.goto 4, 3, 51, 0, 0, 0, 0, 0)) none)
         (cond (Nat.blt pc 51)
          (cond (Nat.beq pc 50) (some (.iconst 0, 1, 0, 0, 0, 0, 0, 0)) none)
          (cond (Nat.beq pc 51) (some (.putfield 52, 3, 8, 13, 1, 1778, 0, 0)) none)))
        (cond (Nat.blt pc 55)
         (cond (Nat.beq pc 54) (some (.aload_n 0, 1, 0, 0, 0, 0, 0, 0)) none)
         (cond (Nat.blt pc 58)
          (cond (Nat.beq pc 55) (some (.getfield 52, 3, 8, 13, 1, 1778, 0, 0)) none)
          (cond (Nat.beq pc 58) (some (.ifCond .ne 4, 3, 62, 0, 0, 0, 0, 0)) none)))))
      (cond (Nat.blt pc 67)
       (cond (Nat.blt pc 63)
        (cond (Nat.blt pc 62)
         (cond (Nat.beq pc 61) (some (.return_, 1, 0, 0, 0, 0, 0, 0)) none)
         (cond (Nat.beq pc 62) (some (.aload_n 0, 1, 0, 0, 0, 0, 0, 0)) none))
        (cond (Nat.blt pc 64)
         (cond (Nat.beq pc 63) (some (.aload_n 0, 1, 0, 0, 0, 0, 0, 0)) none)
         (cond (Nat.blt pc 66)
          (cond (Nat.beq pc 64) (some (.iload 4, 2, 0, 0, 0, 0, 0, 0)) none)
          (cond (Nat.beq pc 66) (some (.iload_n 3, 1, 0, 0, 0, 0, 0, 0)) none))))
       (cond (Nat.blt pc 74)
        (cond (Nat.blt pc 70)
         (cond (Nat.beq pc 67) (some (.invokevirtual 69, 3, 106, 0, 0, 2004, 0, 0)) none)
         (cond (Nat.blt pc 73)
          (cond (Nat.beq pc 70) (some (.putfield 52, 3, 8, 13, 1, 1778, 0, 0)) none)
          (cond (Nat.beq pc 73) (some (.aload_n 0, 1, 0, 0, 0, 0, 0, 0)) none)))
        (cond (Nat.blt pc 75)
         (cond (Nat.beq pc 74) (some (.dup, 1, 0, 0, 0, 0, 0, 0)) none)
         (cond (Nat.blt pc 78)
          (cond (Nat.beq pc 75) (some (.getfield 49, 3, 8, 14, 0, 1780, 0, 0)) none)
          (cond (Nat.beq pc 78) (some (.iload_n 3, 1, 0, 0, 0, 0, 0, 0)) none)))))))
    (cond (Nat.blt pc 122)
     (cond (Nat.blt pc 99)
      (cond (Nat.blt pc 88)
       (cond (Nat.blt pc 83)
        (cond (Nat.blt pc 80)
         (cond (Nat.beq pc 79) (some (.iadd, 1, 0, 0, 0, 0, 0, 0)) none)
         (cond (Nat.beq pc 80) (some (.putfield 49, 3, 8, 14, 0, 1780, 0, 0)) none))
        (cond (Nat.blt pc 84)
         (cond (Nat.beq pc 83) (some (.aload_n 0, 1, 0, 0, 0, 0, 0, 0)) none)
         (cond (Nat.blt pc 85)
          (cond (Nat.beq pc 84) (some (.iconst 2, 1, 0, 0, 0, 0, 2, 0)) none)
          (cond (Nat.beq pc 85) (some (.invokevirtual 61, 3, 103, 0, 0, 1964, 0, 0)) none))))
       (cond (Nat.blt pc 94)
        (cond (Nat.blt pc 90)
         (cond (Nat.beq pc 88) (some (.istore 5, 2, 0, 0, 0, 0, 0, 0)) none)
         (cond (Nat.blt pc 91)
          (cond (Nat.beq pc 90) (some (.aload_n 0, 1, 0, 0, 0, 0, 0, 0)) none)
          (cond (Nat.beq pc 91) (some (.getfield 49, 3, 8, 14, 0, 1780, 0, 0)) none)))
        (cond (Nat.blt pc 96)
         (cond (Nat.beq pc 94) (some (.istore 6, 2, 0, 0, 0, 0, 0, 0)) none)
         (cond (Nat.blt pc 97)
          (cond (Nat.beq pc 96) (some (.iload_n 2, 1, 0, 0, 0, 0, 0, 0)) none)
          (cond (Nat.beq pc 97) (some (.bipush 33, 2, 0, 0, 0, 0, 33, 0)) none)))))
      (cond (Nat.blt pc 109)
       (cond (Nat.blt pc 104)
        (cond (Nat.blt pc 102)
         (cond (Nat.beq pc 99) (some (.if_icmp .ne 17, 3, 116, 0, 0, 0, 0, 0)) none)
         (cond (Nat.beq pc 102) (some (.iload 5, 2, 0, 0, 0, 0, 0, 0)) none))
        (cond (Nat.blt pc 105)
         (cond (Nat.beq pc 104) (some (.iconst 4, 1, 0, 0, 0, 0, 4, 0)) none)
         (cond (Nat.blt pc 108)
          (cond (Nat.beq pc 105) (some (.if_icmp .ne 7, 3, 112, 0, 0, 0, 0, 0)) none)
          (cond (Nat.beq pc 108) (some (.iconst 1, 1, 0, 0, 0, 0, 1, 0)) none))))
       (cond (Nat.blt pc 116)
        (cond (Nat.blt pc 112)
         (cond (Nat.beq pc 109) (some (.goto 76, 3, 185, 0, 0, 0, 0, 0)) none)
         (cond (Nat.blt pc 113)
          (cond (Nat.beq pc 112) (some (.iconst 0, 1, 0, 0, 0, 0, 0, 0)) none)
          (cond (Nat.beq pc 113) (some (.goto 72, 3, 185, 0, 0, 0, 0, 0)) none)))
        (cond (Nat.blt pc 117)
         (cond (Nat.beq pc 116) (some (.iload_n 2, 1, 0, 0, 0, 0, 0, 0)) none)
         (cond (Nat.blt pc 119)
          (cond (Nat.beq pc 117) (some (.bipush 34, 2, 0, 0, 0, 0, 34, 0)) none)
          (cond (Nat.beq pc 119) (some (.if_icmp .ne 32, 3, 151, 0, 0, 0, 0, 0)) none))))))
     (cond (Nat.blt pc 144)
      (cond (Nat.blt pc 132)
       (cond (Nat.blt pc 125)
        (cond (Nat.blt pc 124)
         (cond (Nat.beq pc 122) (some (.iload 5, 2, 0, 0, 0, 0, 0, 0)) none)
         (cond (Nat.beq pc 124) (some (.iconst 1, 1, 0, 0, 0, 0, 1, 0)) none))
        (cond (Nat.blt pc 128)
         (cond (Nat.beq pc 125) (some (.if_icmp .ne 22, 3, 147, 0, 0, 0, 0, 0)) none)
         (cond (Nat.blt pc 129)
          (cond (Nat.beq pc 128) (some (.aload_n 0, 1, 0, 0, 0, 0, 0, 0)) none)
          (cond (Nat.beq pc 129) (some (.invokevirtual 72, 3, 102, 0, 0, 1980, 0, 0)) none))))
       (cond (Nat.blt pc 139)
        (cond (Nat.blt pc 135)
         (cond (Nat.beq pc 132) (some (.ifCond .lt 15, 3, 147, 0, 0, 0, 0, 0)) none)
         (cond (Nat.blt pc 136)
          (cond (Nat.beq pc 135) (some (.aload_n 0, 1, 0, 0, 0, 0, 0, 0)) none)
          (cond (Nat.beq pc 136) (some (.invokevirtual 72, 3, 102, 0, 0, 1980, 0, 0)) none)))
        (cond (Nat.blt pc 140)
         (cond (Nat.beq pc 139) (some (.iconst 2, 1, 0, 0, 0, 0, 2, 0)) none)
         (cond (Nat.blt pc 143)
          (cond (Nat.beq pc 140) (some (.if_icmp .ge 7, 3, 147, 0, 0, 0, 0, 0)) none)
          (cond (Nat.beq pc 143) (some (.iconst 1, 1, 0, 0, 0, 0, 1, 0)) none)))))
      (cond (Nat.blt pc 154)
       (cond (Nat.blt pc 148)
        (cond (Nat.blt pc 147)
         (cond (Nat.beq pc 144) (some (.goto 41, 3, 185, 0, 0, 0, 0, 0)) none)
         (cond (Nat.beq pc 147) (some (.iconst 0, 1, 0, 0, 0, 0, 0, 0)) none))
        (cond (Nat.blt pc 151)
         (cond (Nat.beq pc 148) (some (.goto 37, 3, 185, 0, 0, 0, 0, 0)) none)
         (cond (Nat.blt pc 152)
          (cond (Nat.beq pc 151) (some (.iload_n 2, 1, 0, 0, 0, 0, 0, 0)) none)
          (cond (Nat.beq pc 152) (some (.bipush 68, 2, 0, 0, 0, 0, 68, 0)) none))))
       (cond (Nat.blt pc 162)
        (cond (Nat.blt pc 157)
         (cond (Nat.beq pc 154) (some (.if_icmp .ne 30, 3, 184, 0, 0, 0, 0, 0)) none)
         (cond (Nat.blt pc 159)
          (cond (Nat.beq pc 157) (some (.iload 5, 2, 0, 0, 0, 0, 0, 0)) none)
          (cond (Nat.beq pc 159) (some (.ifCond .le 25, 3, 184, 0, 0, 0, 0, 0)) none)))
        (cond (Nat.blt pc 164)
         (cond (Nat.beq pc 162) (some (.iload 5, 2, 0, 0, 0, 0, 0, 0)) none)
         (cond (Nat.blt pc 166)
          (cond (Nat.beq pc 164) (some (.bipush 9, 2, 0, 0, 0, 0, 9, 0)) none)
          (cond (Nat.beq pc 166) (some (.if_icmp .ge 18, 3, 184, 0, 0, 0, 0, 0)) none))))))))
   (cond (Nat.blt pc 255)
    (cond (Nat.blt pc 212)
     (cond (Nat.blt pc 188)
      (cond (Nat.blt pc 180)
       (cond (Nat.blt pc 172)
        (cond (Nat.blt pc 170)
         (cond (Nat.beq pc 169) (some (.aload_n 0, 1, 0, 0, 0, 0, 0, 0)) none)
         (cond (Nat.beq pc 170) (some (.iload 6, 2, 0, 0, 0, 0, 0, 0)) none))
        (cond (Nat.blt pc 174)
         (cond (Nat.beq pc 172) (some (.iload 5, 2, 0, 0, 0, 0, 0, 0)) none)
         (cond (Nat.blt pc 177)
          (cond (Nat.beq pc 174) (some (.invokevirtual 65, 3, 104, 0, 0, 1996, 0, 0)) none)
          (cond (Nat.beq pc 177) (some (.ifCond .eq 7, 3, 184, 0, 0, 0, 0, 0)) none))))
       (cond (Nat.blt pc 184)
        (cond (Nat.blt pc 181)
         (cond (Nat.beq pc 180) (some (.iconst 1, 1, 0, 0, 0, 0, 1, 0)) none)
         (cond (Nat.beq pc 181) (some (.goto 4, 3, 185, 0, 0, 0, 0, 0)) none))
        (cond (Nat.blt pc 185)
         (cond (Nat.beq pc 184) (some (.iconst 0, 1, 0, 0, 0, 0, 0, 0)) none)
         (cond (Nat.blt pc 187)
          (cond (Nat.beq pc 185) (some (.istore 7, 2, 0, 0, 0, 0, 0, 0)) none)
          (cond (Nat.beq pc 187) (some (.aload_n 0, 1, 0, 0, 0, 0, 0, 0)) none)))))
      (cond (Nat.blt pc 200)
       (cond (Nat.blt pc 192)
        (cond (Nat.blt pc 189)
         (cond (Nat.beq pc 188) (some (.aload_n 0, 1, 0, 0, 0, 0, 0, 0)) none)
         (cond (Nat.beq pc 189) (some (.getfield 52, 3, 8, 13, 1, 1778, 0, 0)) none))
        (cond (Nat.blt pc 195)
         (cond (Nat.beq pc 192) (some (.ifCond .eq 24, 3, 216, 0, 0, 0, 0, 0)) none)
         (cond (Nat.blt pc 197)
          (cond (Nat.beq pc 195) (some (.iload 7, 2, 0, 0, 0, 0, 0, 0)) none)
          (cond (Nat.beq pc 197) (some (.ifCond .eq 19, 3, 216, 0, 0, 0, 0, 0)) none))))
       (cond (Nat.blt pc 205)
        (cond (Nat.blt pc 202)
         (cond (Nat.beq pc 200) (some (.iload 6, 2, 0, 0, 0, 0, 0, 0)) none)
         (cond (Nat.blt pc 204)
          (cond (Nat.beq pc 202) (some (.iload 5, 2, 0, 0, 0, 0, 0, 0)) none)
          (cond (Nat.beq pc 204) (some (.iadd, 1, 0, 0, 0, 0, 0, 0)) none)))
        (cond (Nat.blt pc 206)
         (cond (Nat.beq pc 205) (some (.aload_n 0, 1, 0, 0, 0, 0, 0, 0)) none)
         (cond (Nat.blt pc 209)
          (cond (Nat.beq pc 206) (some (.getfield 44, 3, 8, 2, 0, 1756, 0, 0)) none)
          (cond (Nat.beq pc 209) (some (.if_icmp .gt 7, 3, 216, 0, 0, 0, 0, 0)) none))))))
     (cond (Nat.blt pc 234)
      (cond (Nat.blt pc 221)
       (cond (Nat.blt pc 216)
        (cond (Nat.blt pc 213)
         (cond (Nat.beq pc 212) (some (.iconst 1, 1, 0, 0, 0, 0, 1, 0)) none)
         (cond (Nat.beq pc 213) (some (.goto 4, 3, 217, 0, 0, 0, 0, 0)) none))
        (cond (Nat.blt pc 217)
         (cond (Nat.beq pc 216) (some (.iconst 0, 1, 0, 0, 0, 0, 0, 0)) none)
         (cond (Nat.blt pc 220)
          (cond (Nat.beq pc 217) (some (.putfield 52, 3, 8, 13, 1, 1778, 0, 0)) none)
          (cond (Nat.beq pc 220) (some (.aload_n 0, 1, 0, 0, 0, 0, 0, 0)) none))))
       (cond (Nat.blt pc 228)
        (cond (Nat.blt pc 224)
         (cond (Nat.beq pc 221) (some (.getfield 52, 3, 8, 13, 1, 1778, 0, 0)) none)
         (cond (Nat.blt pc 227)
          (cond (Nat.beq pc 224) (some (.ifCond .ne 4, 3, 228, 0, 0, 0, 0, 0)) none)
          (cond (Nat.beq pc 227) (some (.return_, 1, 0, 0, 0, 0, 0, 0)) none)))
        (cond (Nat.blt pc 229)
         (cond (Nat.beq pc 228) (some (.iload_n 2, 1, 0, 0, 0, 0, 0, 0)) none)
         (cond (Nat.blt pc 231)
          (cond (Nat.beq pc 229) (some (.bipush 68, 2, 0, 0, 0, 0, 68, 0)) none)
          (cond (Nat.beq pc 231) (some (.if_icmp .ne 7, 3, 238, 0, 0, 0, 0, 0)) none)))))
      (cond (Nat.blt pc 244)
       (cond (Nat.blt pc 238)
        (cond (Nat.blt pc 235)
         (cond (Nat.beq pc 234) (some (.iconst 0, 1, 0, 0, 0, 0, 0, 0)) none)
         (cond (Nat.beq pc 235) (some (.goto 9, 3, 244, 0, 0, 0, 0, 0)) none))
        (cond (Nat.blt pc 239)
         (cond (Nat.beq pc 238) (some (.aload_n 0, 1, 0, 0, 0, 0, 0, 0)) none)
         (cond (Nat.blt pc 241)
          (cond (Nat.beq pc 239) (some (.iload 5, 2, 0, 0, 0, 0, 0, 0)) none)
          (cond (Nat.beq pc 241) (some (.invokevirtual 61, 3, 103, 0, 0, 1964, 0, 0)) none))))
       (cond (Nat.blt pc 249)
        (cond (Nat.blt pc 246)
         (cond (Nat.beq pc 244) (some (.istore 8, 2, 0, 0, 0, 0, 0, 0)) none)
         (cond (Nat.blt pc 247)
          (cond (Nat.beq pc 246) (some (.aload_n 0, 1, 0, 0, 0, 0, 0, 0)) none)
          (cond (Nat.beq pc 247) (some (.iload 6, 2, 0, 0, 0, 0, 0, 0)) none)))
        (cond (Nat.blt pc 251)
         (cond (Nat.beq pc 249) (some (.iload 5, 2, 0, 0, 0, 0, 0, 0)) none)
         (cond (Nat.blt pc 252)
          (cond (Nat.beq pc 251) (some (.iadd, 1, 0, 0, 0, 0, 0, 0)) none)
          (cond (Nat.beq pc 252) (some (.putfield 49, 3, 8, 14, 0, 1780, 0, 0)) none)))))))
    (cond (Nat.blt pc 299)
     (cond (Nat.blt pc 276)
      (cond (Nat.blt pc 265)
       (cond (Nat.blt pc 259)
        (cond (Nat.blt pc 256)
         (cond (Nat.beq pc 255) (some (.iload_n 1, 1, 0, 0, 0, 0, 0, 0)) none)
         (cond (Nat.beq pc 256) (some (.ifCond .ne 72, 3, 328, 0, 0, 0, 0, 0)) none))
        (cond (Nat.blt pc 260)
         (cond (Nat.beq pc 259) (some (.iload_n 2, 1, 0, 0, 0, 0, 0, 0)) none)
         (cond (Nat.blt pc 262)
          (cond (Nat.beq pc 260) (some (.bipush 33, 2, 0, 0, 0, 0, 33, 0)) none)
          (cond (Nat.beq pc 262) (some (.if_icmp .ne 21, 3, 283, 0, 0, 0, 0, 0)) none))))
       (cond (Nat.blt pc 269)
        (cond (Nat.blt pc 266)
         (cond (Nat.beq pc 265) (some (.aload_n 0, 1, 0, 0, 0, 0, 0, 0)) none)
         (cond (Nat.blt pc 268)
          (cond (Nat.beq pc 266) (some (.iload 4, 2, 0, 0, 0, 0, 0, 0)) none)
          (cond (Nat.beq pc 268) (some (.iload_n 3, 1, 0, 0, 0, 0, 0, 0)) none)))
        (cond (Nat.blt pc 270)
         (cond (Nat.beq pc 269) (some (.iconst 3, 1, 0, 0, 0, 0, 3, 0)) none)
         (cond (Nat.blt pc 273)
          (cond (Nat.beq pc 270) (some (.ldc2_w 76, 3, 0, 0, 0, 1006, 0, 2538)) none)
          (cond (Nat.beq pc 273) (some (.invokevirtual 78, 3, 105, 0, 0, 2014, 0, 0)) none)))))
      (cond (Nat.blt pc 286)
       (cond (Nat.blt pc 280)
        (cond (Nat.blt pc 279)
         (cond (Nat.beq pc 276) (some (.ifCond .eq 7, 3, 283, 0, 0, 0, 0, 0)) none)
         (cond (Nat.beq pc 279) (some (.iconst 1, 1, 0, 0, 0, 0, 1, 0)) none))
        (cond (Nat.blt pc 283)
         (cond (Nat.beq pc 280) (some (.goto 4, 3, 284, 0, 0, 0, 0, 0)) none)
         (cond (Nat.blt pc 284)
          (cond (Nat.beq pc 283) (some (.iconst 0, 1, 0, 0, 0, 0, 0, 0)) none)
          (cond (Nat.beq pc 284) (some (.istore 9, 2, 0, 0, 0, 0, 0, 0)) none))))
       (cond (Nat.blt pc 291)
        (cond (Nat.blt pc 287)
         (cond (Nat.beq pc 286) (some (.aload_n 0, 1, 0, 0, 0, 0, 0, 0)) none)
         (cond (Nat.blt pc 288)
          (cond (Nat.beq pc 287) (some (.aload_n 0, 1, 0, 0, 0, 0, 0, 0)) none)
          (cond (Nat.beq pc 288) (some (.getfield 82, 3, 8, 16, 1, 1784, 0, 0)) none)))
        (cond (Nat.blt pc 294)
         (cond (Nat.beq pc 291) (some (.ifCond .ne 8, 3, 299, 0, 0, 0, 0, 0)) none)
         (cond (Nat.blt pc 296)
          (cond (Nat.beq pc 294) (some (.iload 9, 2, 0, 0, 0, 0, 0, 0)) none)
          (cond (Nat.beq pc 296) (some (.ifCond .eq 7, 3, 303, 0, 0, 0, 0, 0)) none))))))
     (cond (Nat.blt pc 322)
      (cond (Nat.blt pc 308)
       (cond (Nat.blt pc 303)
        (cond (Nat.blt pc 300)
         (cond (Nat.beq pc 299) (some (.iconst 1, 1, 0, 0, 0, 0, 1, 0)) none)
         (cond (Nat.beq pc 300) (some (.goto 4, 3, 304, 0, 0, 0, 0, 0)) none))
        (cond (Nat.blt pc 304)
         (cond (Nat.beq pc 303) (some (.iconst 0, 1, 0, 0, 0, 0, 0, 0)) none)
         (cond (Nat.blt pc 307)
          (cond (Nat.beq pc 304) (some (.putfield 82, 3, 8, 16, 1, 1784, 0, 0)) none)
          (cond (Nat.beq pc 307) (some (.aload_n 0, 1, 0, 0, 0, 0, 0, 0)) none))))
       (cond (Nat.blt pc 315)
        (cond (Nat.blt pc 310)
         (cond (Nat.beq pc 308) (some (.iload 9, 2, 0, 0, 0, 0, 0, 0)) none)
         (cond (Nat.blt pc 313)
          (cond (Nat.beq pc 310) (some (.ifCond .eq 8, 3, 318, 0, 0, 0, 0, 0)) none)
          (cond (Nat.beq pc 313) (some (.iload 8, 2, 0, 0, 0, 0, 0, 0)) none)))
        (cond (Nat.blt pc 318)
         (cond (Nat.beq pc 315) (some (.goto 7, 3, 322, 0, 0, 0, 0, 0)) none)
         (cond (Nat.blt pc 319)
          (cond (Nat.beq pc 318) (some (.aload_n 0, 1, 0, 0, 0, 0, 0, 0)) none)
          (cond (Nat.beq pc 319) (some (.getfield 85, 3, 8, 17, 0, 1786, 0, 0)) none)))))
      (cond (Nat.blt pc 332)
       (cond (Nat.blt pc 328)
        (cond (Nat.blt pc 325)
         (cond (Nat.beq pc 322) (some (.putfield 85, 3, 8, 17, 0, 1786, 0, 0)) none)
         (cond (Nat.beq pc 325) (some (.goto 17, 3, 342, 0, 0, 0, 0, 0)) none))
        (cond (Nat.blt pc 329)
         (cond (Nat.beq pc 328) (some (.aload_n 0, 1, 0, 0, 0, 0, 0, 0)) none)
         (cond (Nat.blt pc 330)
          (cond (Nat.beq pc 329) (some (.iload_n 2, 1, 0, 0, 0, 0, 0, 0)) none)
          (cond (Nat.beq pc 330) (some (.iload 4, 2, 0, 0, 0, 0, 0, 0)) none))))
       (cond (Nat.blt pc 337)
        (cond (Nat.blt pc 333)
         (cond (Nat.beq pc 332) (some (.iload_n 3, 1, 0, 0, 0, 0, 0, 0)) none)
         (cond (Nat.blt pc 335)
          (cond (Nat.beq pc 333) (some (.iload 6, 2, 0, 0, 0, 0, 0, 0)) none)
          (cond (Nat.beq pc 335) (some (.iload 5, 2, 0, 0, 0, 0, 0, 0)) none)))
        (cond (Nat.blt pc 339)
         (cond (Nat.beq pc 337) (some (.iload 8, 2, 0, 0, 0, 0, 0, 0)) none)
         (cond (Nat.blt pc 342)
          (cond (Nat.beq pc 339) (some (.invokevirtual 88, 3, 109, 0, 0, 2024, 0, 0)) none)
          (cond (Nat.beq pc 342) (some (.return_, 1, 0, 0, 0, 0, 0, 0)) none))))))))) none
-- PrintHouseModel.in (III)Z
def zc108 (pc : Nat) : Option z_I := cond (Nat.blt pc 16)
  (cond (Nat.blt pc 7)
   (cond (Nat.blt pc 2)
    (cond (Nat.blt pc 1)
     (cond (Nat.beq pc 0) (some (.iload_n 0, 1, 0, 0, 0, 0, 0, 0)) none)
     (cond (Nat.beq pc 1) (some (.iload_n 1, 1, 0, 0, 0, 0, 0, 0)) none))
    (cond (Nat.blt pc 5)
     (cond (Nat.beq pc 2) (some (.if_icmp .lt 12, 3, 14, 0, 0, 0, 0, 0)) none)
     (cond (Nat.blt pc 6)
      (cond (Nat.beq pc 5) (some (.iload_n 0, 1, 0, 0, 0, 0, 0, 0)) none)
      (cond (Nat.beq pc 6) (some (.iload_n 2, 1, 0, 0, 0, 0, 0, 0)) none))))
   (cond (Nat.blt pc 11)
    (cond (Nat.blt pc 10)
     (cond (Nat.beq pc 7) (some (.if_icmp .gt 7, 3, 14, 0, 0, 0, 0, 0)) none)
     (cond (Nat.beq pc 10) (some (.iconst 1, 1, 0, 0, 0, 0, 1, 0)) none))
    (cond (Nat.blt pc 14)
     (cond (Nat.beq pc 11) (some (.goto 4, 3, 15, 0, 0, 0, 0, 0)) none)
     (cond (Nat.blt pc 15)
      (cond (Nat.beq pc 14) (some (.iconst 0, 1, 0, 0, 0, 0, 0, 0)) none)
      (cond (Nat.beq pc 15) (some (.ireturn, 1, 0, 0, 1, 0, 0, 0)) none))))) none
-- PrintHouseModel.told (IIIIII)V
def zc109 (pc : Nat) : Option z_I := cond (Nat.blt pc 396)
  (cond (Nat.blt pc 195)
   (cond (Nat.blt pc 98)
    (cond (Nat.blt pc 51)
     (cond (Nat.blt pc 25)
      (cond (Nat.blt pc 12)
       (cond (Nat.blt pc 6)
        (cond (Nat.blt pc 3)
         (cond (Nat.beq pc 0) (some (.sipush 250, 3, 0, 0, 0, 0, 250, 0)) none)
         (cond (Nat.blt pc 5)
          (cond (Nat.beq pc 3) (some (.istore 7, 2, 0, 0, 0, 0, 0, 0)) none)
          (cond (Nat.beq pc 5) (some (.iload_n 1, 1, 0, 0, 0, 0, 0, 0)) none)))
        (cond (Nat.blt pc 8)
         (cond (Nat.beq pc 6) (some (.bipush 33, 2, 0, 0, 0, 0, 33, 0)) none)
         (cond (Nat.blt pc 11)
          (cond (Nat.beq pc 8) (some (.if_icmp .ne 57, 3, 65, 0, 0, 0, 0, 0)) none)
          (cond (Nat.beq pc 11) (some (.aload_n 0, 1, 0, 0, 0, 0, 0, 0)) none))))
       (cond (Nat.blt pc 16)
        (cond (Nat.blt pc 13)
         (cond (Nat.beq pc 12) (some (.iload_n 2, 1, 0, 0, 0, 0, 0, 0)) none)
         (cond (Nat.blt pc 14)
          (cond (Nat.beq pc 13) (some (.iload_n 3, 1, 0, 0, 0, 0, 0, 0)) none)
          (cond (Nat.beq pc 14) (some (.bipush 6, 2, 0, 0, 0, 0, 6, 0)) none)))
        (cond (Nat.blt pc 19)
         (cond (Nat.beq pc 16) (some (.ldc2_w 92, 3, 0, 0, 0, 1016, 0, 643088867)) none)
         (cond (Nat.blt pc 22)
          (cond (Nat.beq pc 19) (some (.invokevirtual 78, 3, 105, 0, 0, 2014, 0, 0)) none)
          (cond (Nat.beq pc 22) (some (.ifCond .eq 43, 3, 65, 0, 0, 0, 0, 0)) none)))))
      (cond (Nat.blt pc 36)
       (cond (Nat.blt pc 30)
        (cond (Nat.blt pc 26)
         (cond (Nat.beq pc 25) (some (.aload_n 0, 1, 0, 0, 0, 0, 0, 0)) none)
         (cond (Nat.blt pc 27)
          (cond (Nat.beq pc 26) (some (.aload_n 0, 1, 0, 0, 0, 0, 0, 0)) none)
          (cond (Nat.beq pc 27) (some (.getfield 94, 3, 8, 18, 1, 1788, 0, 0)) none)))
        (cond (Nat.blt pc 33)
         (cond (Nat.beq pc 30) (some (.ifCond .eq 17, 3, 47, 0, 0, 0, 0, 0)) none)
         (cond (Nat.blt pc 35)
          (cond (Nat.beq pc 33) (some (.iload 6, 2, 0, 0, 0, 0, 0, 0)) none)
          (cond (Nat.beq pc 35) (some (.iconst 1, 1, 0, 0, 0, 0, 1, 0)) none))))
       (cond (Nat.blt pc 43)
        (cond (Nat.blt pc 37)
         (cond (Nat.beq pc 36) (some (.iconst 3, 1, 0, 0, 0, 0, 3, 0)) none)
         (cond (Nat.blt pc 40)
          (cond (Nat.beq pc 37) (some (.invokestatic 97, 3, 108, 0, 0, 2034, 0, 0)) none)
          (cond (Nat.beq pc 40) (some (.ifCond .eq 7, 3, 47, 0, 0, 0, 0, 0)) none)))
        (cond (Nat.blt pc 47)
         (cond (Nat.blt pc 44)
          (cond (Nat.beq pc 43) (some (.iconst 1, 1, 0, 0, 0, 0, 1, 0)) none)
          (cond (Nat.beq pc 44) (some (.goto 4, 3, 48, 0, 0, 0, 0, 0)) none))
         (cond (Nat.blt pc 48)
          (cond (Nat.beq pc 47) (some (.iconst 0, 1, 0, 0, 0, 0, 0, 0)) none)
          (cond (Nat.beq pc 48) (some (.putfield 94, 3, 8, 18, 1, 1788, 0, 0)) none))))))
     (cond (Nat.blt pc 72)
      (cond (Nat.blt pc 61)
       (cond (Nat.blt pc 57)
        (cond (Nat.blt pc 52)
         (cond (Nat.beq pc 51) (some (.aload_n 0, 1, 0, 0, 0, 0, 0, 0)) none)
         (cond (Nat.blt pc 55)
          (cond (Nat.beq pc 52) (some (.getfield 13, 3, 8, 5, 2, 1762, 0, 0)) none)
          (cond (Nat.beq pc 55) (some (.iload 7, 2, 0, 0, 0, 0, 0, 0)) none)))
        (cond (Nat.blt pc 58)
         (cond (Nat.beq pc 57) (some (.iconst 2, 1, 0, 0, 0, 0, 2, 0)) none)
         (cond (Nat.blt pc 59)
          (cond (Nat.beq pc 58) (some (.iadd, 1, 0, 0, 0, 0, 0, 0)) none)
          (cond (Nat.beq pc 59) (some (.iload 6, 2, 0, 0, 0, 0, 0, 0)) none))))
       (cond (Nat.blt pc 66)
        (cond (Nat.blt pc 62)
         (cond (Nat.beq pc 61) (some (.iastore, 1, 0, 0, 0, 0, 0, 0)) none)
         (cond (Nat.blt pc 65)
          (cond (Nat.beq pc 62) (some (.goto 333, 3, 395, 0, 0, 0, 0, 0)) none)
          (cond (Nat.beq pc 65) (some (.iload_n 1, 1, 0, 0, 0, 0, 0, 0)) none)))
        (cond (Nat.blt pc 68)
         (cond (Nat.beq pc 66) (some (.bipush 33, 2, 0, 0, 0, 0, 33, 0)) none)
         (cond (Nat.blt pc 71)
          (cond (Nat.beq pc 68) (some (.if_icmp .ne 58, 3, 126, 0, 0, 0, 0, 0)) none)
          (cond (Nat.beq pc 71) (some (.aload_n 0, 1, 0, 0, 0, 0, 0, 0)) none)))))
      (cond (Nat.blt pc 85)
       (cond (Nat.blt pc 76)
        (cond (Nat.blt pc 73)
         (cond (Nat.beq pc 72) (some (.iload_n 2, 1, 0, 0, 0, 0, 0, 0)) none)
         (cond (Nat.blt pc 74)
          (cond (Nat.beq pc 73) (some (.iload_n 3, 1, 0, 0, 0, 0, 0, 0)) none)
          (cond (Nat.beq pc 74) (some (.bipush 8, 2, 0, 0, 0, 0, 8, 0)) none)))
        (cond (Nat.blt pc 79)
         (cond (Nat.beq pc 76) (some (.ldc2_w 101, 3, 0, 0, 0, 1020, 0, 880789661264)) none)
         (cond (Nat.blt pc 82)
          (cond (Nat.beq pc 79) (some (.invokevirtual 78, 3, 105, 0, 0, 2014, 0, 0)) none)
          (cond (Nat.beq pc 82) (some (.ifCond .eq 44, 3, 126, 0, 0, 0, 0, 0)) none))))
       (cond (Nat.blt pc 90)
        (cond (Nat.blt pc 86)
         (cond (Nat.beq pc 85) (some (.aload_n 0, 1, 0, 0, 0, 0, 0, 0)) none)
         (cond (Nat.blt pc 87)
          (cond (Nat.beq pc 86) (some (.aload_n 0, 1, 0, 0, 0, 0, 0, 0)) none)
          (cond (Nat.beq pc 87) (some (.getfield 94, 3, 8, 18, 1, 1788, 0, 0)) none)))
        (cond (Nat.blt pc 95)
         (cond (Nat.blt pc 93)
          (cond (Nat.beq pc 90) (some (.ifCond .eq 18, 3, 108, 0, 0, 0, 0, 0)) none)
          (cond (Nat.beq pc 93) (some (.iload 6, 2, 0, 0, 0, 0, 0, 0)) none))
         (cond (Nat.blt pc 96)
          (cond (Nat.beq pc 95) (some (.iconst 1, 1, 0, 0, 0, 0, 1, 0)) none)
          (cond (Nat.beq pc 96) (some (.bipush 100, 2, 0, 0, 0, 0, 100, 0)) none)))))))
    (cond (Nat.blt pc 146)
     (cond (Nat.blt pc 122)
      (cond (Nat.blt pc 112)
       (cond (Nat.blt pc 105)
        (cond (Nat.blt pc 101)
         (cond (Nat.beq pc 98) (some (.invokestatic 97, 3, 108, 0, 0, 2034, 0, 0)) none)
         (cond (Nat.blt pc 104)
          (cond (Nat.beq pc 101) (some (.ifCond .eq 7, 3, 108, 0, 0, 0, 0, 0)) none)
          (cond (Nat.beq pc 104) (some (.iconst 1, 1, 0, 0, 0, 0, 1, 0)) none)))
        (cond (Nat.blt pc 108)
         (cond (Nat.beq pc 105) (some (.goto 4, 3, 109, 0, 0, 0, 0, 0)) none)
         (cond (Nat.blt pc 109)
          (cond (Nat.beq pc 108) (some (.iconst 0, 1, 0, 0, 0, 0, 0, 0)) none)
          (cond (Nat.beq pc 109) (some (.putfield 94, 3, 8, 18, 1, 1788, 0, 0)) none))))
       (cond (Nat.blt pc 118)
        (cond (Nat.blt pc 113)
         (cond (Nat.beq pc 112) (some (.aload_n 0, 1, 0, 0, 0, 0, 0, 0)) none)
         (cond (Nat.blt pc 116)
          (cond (Nat.beq pc 113) (some (.getfield 13, 3, 8, 5, 2, 1762, 0, 0)) none)
          (cond (Nat.beq pc 116) (some (.iload 7, 2, 0, 0, 0, 0, 0, 0)) none)))
        (cond (Nat.blt pc 119)
         (cond (Nat.beq pc 118) (some (.iconst 3, 1, 0, 0, 0, 0, 3, 0)) none)
         (cond (Nat.blt pc 120)
          (cond (Nat.beq pc 119) (some (.iadd, 1, 0, 0, 0, 0, 0, 0)) none)
          (cond (Nat.beq pc 120) (some (.iload 6, 2, 0, 0, 0, 0, 0, 0)) none)))))
      (cond (Nat.blt pc 133)
       (cond (Nat.blt pc 127)
        (cond (Nat.blt pc 123)
         (cond (Nat.beq pc 122) (some (.iastore, 1, 0, 0, 0, 0, 0, 0)) none)
         (cond (Nat.blt pc 126)
          (cond (Nat.beq pc 123) (some (.goto 272, 3, 395, 0, 0, 0, 0, 0)) none)
          (cond (Nat.beq pc 126) (some (.iload_n 1, 1, 0, 0, 0, 0, 0, 0)) none)))
        (cond (Nat.blt pc 129)
         (cond (Nat.beq pc 127) (some (.bipush 33, 2, 0, 0, 0, 0, 33, 0)) none)
         (cond (Nat.blt pc 132)
          (cond (Nat.beq pc 129) (some (.if_icmp .ne 69, 3, 198, 0, 0, 0, 0, 0)) none)
          (cond (Nat.beq pc 132) (some (.aload_n 0, 1, 0, 0, 0, 0, 0, 0)) none))))
       (cond (Nat.blt pc 136)
        (cond (Nat.blt pc 134)
         (cond (Nat.beq pc 133) (some (.iload_n 2, 1, 0, 0, 0, 0, 0, 0)) none)
         (cond (Nat.blt pc 135)
          (cond (Nat.beq pc 134) (some (.iload_n 3, 1, 0, 0, 0, 0, 0, 0)) none)
          (cond (Nat.beq pc 135) (some (.iconst 2, 1, 0, 0, 0, 0, 2, 0)) none)))
        (cond (Nat.blt pc 142)
         (cond (Nat.blt pc 139)
          (cond (Nat.beq pc 136) (some (.ldc2_w 103, 3, 0, 0, 0, 1021, 0, 533)) none)
          (cond (Nat.beq pc 139) (some (.invokevirtual 78, 3, 105, 0, 0, 2014, 0, 0)) none))
         (cond (Nat.blt pc 145)
          (cond (Nat.beq pc 142) (some (.ifCond .eq 56, 3, 198, 0, 0, 0, 0, 0)) none)
          (cond (Nat.beq pc 145) (some (.aload_n 0, 1, 0, 0, 0, 0, 0, 0)) none))))))
     (cond (Nat.blt pc 172)
      (cond (Nat.blt pc 159)
       (cond (Nat.blt pc 153)
        (cond (Nat.blt pc 147)
         (cond (Nat.beq pc 146) (some (.aload_n 0, 1, 0, 0, 0, 0, 0, 0)) none)
         (cond (Nat.blt pc 150)
          (cond (Nat.beq pc 147) (some (.getfield 94, 3, 8, 18, 1, 1788, 0, 0)) none)
          (cond (Nat.beq pc 150) (some (.ifCond .eq 25, 3, 175, 0, 0, 0, 0, 0)) none)))
        (cond (Nat.blt pc 155)
         (cond (Nat.beq pc 153) (some (.iload 6, 2, 0, 0, 0, 0, 0, 0)) none)
         (cond (Nat.blt pc 156)
          (cond (Nat.beq pc 155) (some (.iconst 1, 1, 0, 0, 0, 0, 1, 0)) none)
          (cond (Nat.beq pc 156) (some (.if_icmp .eq 15, 3, 171, 0, 0, 0, 0, 0)) none))))
       (cond (Nat.blt pc 165)
        (cond (Nat.blt pc 161)
         (cond (Nat.beq pc 159) (some (.iload 6, 2, 0, 0, 0, 0, 0, 0)) none)
         (cond (Nat.blt pc 162)
          (cond (Nat.beq pc 161) (some (.iconst 2, 1, 0, 0, 0, 0, 2, 0)) none)
          (cond (Nat.beq pc 162) (some (.if_icmp .eq 9, 3, 171, 0, 0, 0, 0, 0)) none)))
        (cond (Nat.blt pc 168)
         (cond (Nat.blt pc 167)
          (cond (Nat.beq pc 165) (some (.iload 6, 2, 0, 0, 0, 0, 0, 0)) none)
          (cond (Nat.beq pc 167) (some (.iconst 4, 1, 0, 0, 0, 0, 4, 0)) none))
         (cond (Nat.blt pc 171)
          (cond (Nat.beq pc 168) (some (.if_icmp .ne 7, 3, 175, 0, 0, 0, 0, 0)) none)
          (cond (Nat.beq pc 171) (some (.iconst 1, 1, 0, 0, 0, 0, 1, 0)) none)))))
      (cond (Nat.blt pc 185)
       (cond (Nat.blt pc 179)
        (cond (Nat.blt pc 175)
         (cond (Nat.beq pc 172) (some (.goto 4, 3, 176, 0, 0, 0, 0, 0)) none)
         (cond (Nat.blt pc 176)
          (cond (Nat.beq pc 175) (some (.iconst 0, 1, 0, 0, 0, 0, 0, 0)) none)
          (cond (Nat.beq pc 176) (some (.putfield 94, 3, 8, 18, 1, 1788, 0, 0)) none)))
        (cond (Nat.blt pc 180)
         (cond (Nat.beq pc 179) (some (.aload_n 0, 1, 0, 0, 0, 0, 0, 0)) none)
         (cond (Nat.blt pc 183)
          (cond (Nat.beq pc 180) (some (.getfield 13, 3, 8, 5, 2, 1762, 0, 0)) none)
          (cond (Nat.beq pc 183) (some (.iload 7, 2, 0, 0, 0, 0, 0, 0)) none))))
       (cond (Nat.blt pc 189)
        (cond (Nat.blt pc 186)
         (cond (Nat.beq pc 185) (some (.iconst 4, 1, 0, 0, 0, 0, 4, 0)) none)
         (cond (Nat.blt pc 187)
          (cond (Nat.beq pc 186) (some (.iadd, 1, 0, 0, 0, 0, 0, 0)) none)
          (cond (Nat.beq pc 187) (some (.iload 6, 2, 0, 0, 0, 0, 0, 0)) none)))
        (cond (Nat.blt pc 191)
         (cond (Nat.blt pc 190)
          (cond (Nat.beq pc 189) (some (.iastore, 1, 0, 0, 0, 0, 0, 0)) none)
          (cond (Nat.beq pc 190) (some (.aload_n 0, 1, 0, 0, 0, 0, 0, 0)) none))
         (cond (Nat.blt pc 192)
          (cond (Nat.beq pc 191) (some (.iconst 1, 1, 0, 0, 0, 0, 1, 0)) none)
          (cond (Nat.beq pc 192) (some (.putfield 105, 3, 8, 19, 1, 1790, 0, 0)) none))))))))
   (cond (Nat.blt pc 298)
    (cond (Nat.blt pc 245)
     (cond (Nat.blt pc 218)
      (cond (Nat.blt pc 206)
       (cond (Nat.blt pc 201)
        (cond (Nat.blt pc 198)
         (cond (Nat.beq pc 195) (some (.goto 200, 3, 395, 0, 0, 0, 0, 0)) none)
         (cond (Nat.blt pc 199)
          (cond (Nat.beq pc 198) (some (.iload_n 1, 1, 0, 0, 0, 0, 0, 0)) none)
          (cond (Nat.beq pc 199) (some (.bipush 68, 2, 0, 0, 0, 0, 68, 0)) none)))
        (cond (Nat.blt pc 204)
         (cond (Nat.beq pc 201) (some (.if_icmp .ne 120, 3, 321, 0, 0, 0, 0, 0)) none)
         (cond (Nat.blt pc 205)
          (cond (Nat.beq pc 204) (some (.aload_n 0, 1, 0, 0, 0, 0, 0, 0)) none)
          (cond (Nat.beq pc 205) (some (.iload_n 2, 1, 0, 0, 0, 0, 0, 0)) none))))
       (cond (Nat.blt pc 211)
        (cond (Nat.blt pc 207)
         (cond (Nat.beq pc 206) (some (.iload_n 3, 1, 0, 0, 0, 0, 0, 0)) none)
         (cond (Nat.blt pc 208)
          (cond (Nat.beq pc 207) (some (.iconst 5, 1, 0, 0, 0, 0, 5, 0)) none)
          (cond (Nat.beq pc 208) (some (.ldc2_w 108, 3, 0, 0, 0, 1022, 0, 20091187)) none)))
        (cond (Nat.blt pc 214)
         (cond (Nat.beq pc 211) (some (.invokevirtual 78, 3, 105, 0, 0, 2014, 0, 0)) none)
         (cond (Nat.blt pc 217)
          (cond (Nat.beq pc 214) (some (.ifCond .eq 107, 3, 321, 0, 0, 0, 0, 0)) none)
          (cond (Nat.beq pc 217) (some (.aload_n 0, 1, 0, 0, 0, 0, 0, 0)) none)))))
      (cond (Nat.blt pc 231)
       (cond (Nat.blt pc 223)
        (cond (Nat.blt pc 220)
         (cond (Nat.beq pc 218) (some (.iload 4, 2, 0, 0, 0, 0, 0, 0)) none)
         (cond (Nat.blt pc 222)
          (cond (Nat.beq pc 220) (some (.iload 5, 2, 0, 0, 0, 0, 0, 0)) none)
          (cond (Nat.beq pc 222) (some (.iconst 3, 1, 0, 0, 0, 0, 3, 0)) none)))
        (cond (Nat.blt pc 226)
         (cond (Nat.beq pc 223) (some (.ldc2_w 110, 3, 0, 0, 0, 1023, 0, 5583)) none)
         (cond (Nat.blt pc 229)
          (cond (Nat.beq pc 226) (some (.invokevirtual 78, 3, 105, 0, 0, 2014, 0, 0)) none)
          (cond (Nat.beq pc 229) (some (.istore 8, 2, 0, 0, 0, 0, 0, 0)) none))))
       (cond (Nat.blt pc 236)
        (cond (Nat.blt pc 232)
         (cond (Nat.beq pc 231) (some (.aload_n 0, 1, 0, 0, 0, 0, 0, 0)) none)
         (cond (Nat.blt pc 234)
          (cond (Nat.beq pc 232) (some (.iload 4, 2, 0, 0, 0, 0, 0, 0)) none)
          (cond (Nat.beq pc 234) (some (.iload 5, 2, 0, 0, 0, 0, 0, 0)) none)))
        (cond (Nat.blt pc 240)
         (cond (Nat.blt pc 237)
          (cond (Nat.beq pc 236) (some (.iconst 4, 1, 0, 0, 0, 0, 4, 0)) none)
          (cond (Nat.beq pc 237) (some (.ldc2_w 112, 3, 0, 0, 0, 1024, 0, 244204)) none))
         (cond (Nat.blt pc 243)
          (cond (Nat.beq pc 240) (some (.invokevirtual 78, 3, 105, 0, 0, 2014, 0, 0)) none)
          (cond (Nat.beq pc 243) (some (.istore 9, 2, 0, 0, 0, 0, 0, 0)) none))))))
     (cond (Nat.blt pc 272)
      (cond (Nat.blt pc 257)
       (cond (Nat.blt pc 250)
        (cond (Nat.blt pc 246)
         (cond (Nat.beq pc 245) (some (.aload_n 0, 1, 0, 0, 0, 0, 0, 0)) none)
         (cond (Nat.blt pc 248)
          (cond (Nat.beq pc 246) (some (.iload 4, 2, 0, 0, 0, 0, 0, 0)) none)
          (cond (Nat.beq pc 248) (some (.iload 5, 2, 0, 0, 0, 0, 0, 0)) none)))
        (cond (Nat.blt pc 251)
         (cond (Nat.beq pc 250) (some (.iconst 5, 1, 0, 0, 0, 0, 5, 0)) none)
         (cond (Nat.blt pc 254)
          (cond (Nat.beq pc 251) (some (.ldc2_w 114, 3, 0, 0, 0, 1025, 0, 21576979)) none)
          (cond (Nat.beq pc 254) (some (.invokevirtual 78, 3, 105, 0, 0, 2014, 0, 0)) none))))
       (cond (Nat.blt pc 261)
        (cond (Nat.blt pc 259)
         (cond (Nat.beq pc 257) (some (.istore 10, 2, 0, 0, 0, 0, 0, 0)) none)
         (cond (Nat.blt pc 260)
          (cond (Nat.beq pc 259) (some (.aload_n 0, 1, 0, 0, 0, 0, 0, 0)) none)
          (cond (Nat.beq pc 260) (some (.aload_n 0, 1, 0, 0, 0, 0, 0, 0)) none)))
        (cond (Nat.blt pc 267)
         (cond (Nat.blt pc 264)
          (cond (Nat.beq pc 261) (some (.getfield 94, 3, 8, 18, 1, 1788, 0, 0)) none)
          (cond (Nat.beq pc 264) (some (.ifCond .eq 22, 3, 286, 0, 0, 0, 0, 0)) none))
         (cond (Nat.blt pc 269)
          (cond (Nat.beq pc 267) (some (.iload 8, 2, 0, 0, 0, 0, 0, 0)) none)
          (cond (Nat.beq pc 269) (some (.ifCond .ne 13, 3, 282, 0, 0, 0, 0, 0)) none)))))
      (cond (Nat.blt pc 286)
       (cond (Nat.blt pc 279)
        (cond (Nat.blt pc 274)
         (cond (Nat.beq pc 272) (some (.iload 9, 2, 0, 0, 0, 0, 0, 0)) none)
         (cond (Nat.blt pc 277)
          (cond (Nat.beq pc 274) (some (.ifCond .ne 8, 3, 282, 0, 0, 0, 0, 0)) none)
          (cond (Nat.beq pc 277) (some (.iload 10, 2, 0, 0, 0, 0, 0, 0)) none)))
        (cond (Nat.blt pc 282)
         (cond (Nat.beq pc 279) (some (.ifCond .eq 7, 3, 286, 0, 0, 0, 0, 0)) none)
         (cond (Nat.blt pc 283)
          (cond (Nat.beq pc 282) (some (.iconst 1, 1, 0, 0, 0, 0, 1, 0)) none)
          (cond (Nat.beq pc 283) (some (.goto 4, 3, 287, 0, 0, 0, 0, 0)) none))))
       (cond (Nat.blt pc 291)
        (cond (Nat.blt pc 287)
         (cond (Nat.beq pc 286) (some (.iconst 0, 1, 0, 0, 0, 0, 0, 0)) none)
         (cond (Nat.blt pc 290)
          (cond (Nat.beq pc 287) (some (.putfield 94, 3, 8, 18, 1, 1788, 0, 0)) none)
          (cond (Nat.beq pc 290) (some (.aload_n 0, 1, 0, 0, 0, 0, 0, 0)) none)))
        (cond (Nat.blt pc 296)
         (cond (Nat.blt pc 294)
          (cond (Nat.beq pc 291) (some (.getfield 13, 3, 8, 5, 2, 1762, 0, 0)) none)
          (cond (Nat.beq pc 294) (some (.iload 7, 2, 0, 0, 0, 0, 0, 0)) none))
         (cond (Nat.blt pc 297)
          (cond (Nat.beq pc 296) (some (.iconst 5, 1, 0, 0, 0, 0, 5, 0)) none)
          (cond (Nat.beq pc 297) (some (.iadd, 1, 0, 0, 0, 0, 0, 0)) none)))))))
    (cond (Nat.blt pc 349)
     (cond (Nat.blt pc 322)
      (cond (Nat.blt pc 312)
       (cond (Nat.blt pc 304)
        (cond (Nat.blt pc 300)
         (cond (Nat.beq pc 298) (some (.iload 9, 2, 0, 0, 0, 0, 0, 0)) none)
         (cond (Nat.blt pc 303)
          (cond (Nat.beq pc 300) (some (.ifCond .eq 7, 3, 307, 0, 0, 0, 0, 0)) none)
          (cond (Nat.beq pc 303) (some (.iconst 1, 1, 0, 0, 0, 0, 1, 0)) none)))
        (cond (Nat.blt pc 307)
         (cond (Nat.beq pc 304) (some (.goto 13, 3, 317, 0, 0, 0, 0, 0)) none)
         (cond (Nat.blt pc 309)
          (cond (Nat.beq pc 307) (some (.iload 10, 2, 0, 0, 0, 0, 0, 0)) none)
          (cond (Nat.beq pc 309) (some (.ifCond .eq 7, 3, 316, 0, 0, 0, 0, 0)) none))))
       (cond (Nat.blt pc 317)
        (cond (Nat.blt pc 313)
         (cond (Nat.beq pc 312) (some (.iconst 2, 1, 0, 0, 0, 0, 2, 0)) none)
         (cond (Nat.blt pc 316)
          (cond (Nat.beq pc 313) (some (.goto 4, 3, 317, 0, 0, 0, 0, 0)) none)
          (cond (Nat.beq pc 316) (some (.iconst 0, 1, 0, 0, 0, 0, 0, 0)) none)))
        (cond (Nat.blt pc 318)
         (cond (Nat.beq pc 317) (some (.iastore, 1, 0, 0, 0, 0, 0, 0)) none)
         (cond (Nat.blt pc 321)
          (cond (Nat.beq pc 318) (some (.goto 77, 3, 395, 0, 0, 0, 0, 0)) none)
          (cond (Nat.beq pc 321) (some (.iload_n 1, 1, 0, 0, 0, 0, 0, 0)) none)))))
      (cond (Nat.blt pc 332)
       (cond (Nat.blt pc 328)
        (cond (Nat.blt pc 324)
         (cond (Nat.beq pc 322) (some (.bipush 34, 2, 0, 0, 0, 0, 34, 0)) none)
         (cond (Nat.blt pc 327)
          (cond (Nat.beq pc 324) (some (.if_icmp .ne 32, 3, 356, 0, 0, 0, 0, 0)) none)
          (cond (Nat.beq pc 327) (some (.aload_n 0, 1, 0, 0, 0, 0, 0, 0)) none)))
        (cond (Nat.blt pc 329)
         (cond (Nat.beq pc 328) (some (.iload_n 2, 1, 0, 0, 0, 0, 0, 0)) none)
         (cond (Nat.blt pc 330)
          (cond (Nat.beq pc 329) (some (.iload_n 3, 1, 0, 0, 0, 0, 0, 0)) none)
          (cond (Nat.beq pc 330) (some (.bipush 7, 2, 0, 0, 0, 0, 7, 0)) none))))
       (cond (Nat.blt pc 341)
        (cond (Nat.blt pc 335)
         (cond (Nat.beq pc 332) (some (.ldc2_w 116, 3, 0, 0, 0, 1026, 0, 21655567842)) none)
         (cond (Nat.blt pc 338)
          (cond (Nat.beq pc 335) (some (.invokevirtual 78, 3, 105, 0, 0, 2014, 0, 0)) none)
          (cond (Nat.beq pc 338) (some (.ifCond .eq 18, 3, 356, 0, 0, 0, 0, 0)) none)))
        (cond (Nat.blt pc 345)
         (cond (Nat.blt pc 342)
          (cond (Nat.beq pc 341) (some (.aload_n 0, 1, 0, 0, 0, 0, 0, 0)) none)
          (cond (Nat.beq pc 342) (some (.getfield 13, 3, 8, 5, 2, 1762, 0, 0)) none))
         (cond (Nat.blt pc 347)
          (cond (Nat.beq pc 345) (some (.iload 7, 2, 0, 0, 0, 0, 0, 0)) none)
          (cond (Nat.beq pc 347) (some (.bipush 6, 2, 0, 0, 0, 0, 6, 0)) none))))))
     (cond (Nat.blt pc 372)
      (cond (Nat.blt pc 359)
       (cond (Nat.blt pc 353)
        (cond (Nat.blt pc 350)
         (cond (Nat.beq pc 349) (some (.iadd, 1, 0, 0, 0, 0, 0, 0)) none)
         (cond (Nat.blt pc 352)
          (cond (Nat.beq pc 350) (some (.iload 6, 2, 0, 0, 0, 0, 0, 0)) none)
          (cond (Nat.beq pc 352) (some (.iastore, 1, 0, 0, 0, 0, 0, 0)) none)))
        (cond (Nat.blt pc 356)
         (cond (Nat.beq pc 353) (some (.goto 42, 3, 395, 0, 0, 0, 0, 0)) none)
         (cond (Nat.blt pc 357)
          (cond (Nat.beq pc 356) (some (.iload_n 1, 1, 0, 0, 0, 0, 0, 0)) none)
          (cond (Nat.beq pc 357) (some (.bipush 34, 2, 0, 0, 0, 0, 34, 0)) none))))
       (cond (Nat.blt pc 364)
        (cond (Nat.blt pc 362)
         (cond (Nat.beq pc 359) (some (.if_icmp .ne 31, 3, 390, 0, 0, 0, 0, 0)) none)
         (cond (Nat.blt pc 363)
          (cond (Nat.beq pc 362) (some (.aload_n 0, 1, 0, 0, 0, 0, 0, 0)) none)
          (cond (Nat.beq pc 363) (some (.iload_n 2, 1, 0, 0, 0, 0, 0, 0)) none)))
        (cond (Nat.blt pc 366)
         (cond (Nat.blt pc 365)
          (cond (Nat.beq pc 364) (some (.iload_n 3, 1, 0, 0, 0, 0, 0, 0)) none)
          (cond (Nat.beq pc 365) (some (.iconst 4, 1, 0, 0, 0, 0, 4, 0)) none))
         (cond (Nat.blt pc 369)
          (cond (Nat.beq pc 366) (some (.ldc2_w 118, 3, 0, 0, 0, 1027, 0, 143848)) none)
          (cond (Nat.beq pc 369) (some (.invokevirtual 78, 3, 105, 0, 0, 2014, 0, 0)) none)))))
      (cond (Nat.blt pc 384)
       (cond (Nat.blt pc 379)
        (cond (Nat.blt pc 375)
         (cond (Nat.beq pc 372) (some (.ifCond .eq 18, 3, 390, 0, 0, 0, 0, 0)) none)
         (cond (Nat.blt pc 376)
          (cond (Nat.beq pc 375) (some (.aload_n 0, 1, 0, 0, 0, 0, 0, 0)) none)
          (cond (Nat.beq pc 376) (some (.getfield 13, 3, 8, 5, 2, 1762, 0, 0)) none)))
        (cond (Nat.blt pc 381)
         (cond (Nat.beq pc 379) (some (.iload 7, 2, 0, 0, 0, 0, 0, 0)) none)
         (cond (Nat.blt pc 383)
          (cond (Nat.beq pc 381) (some (.bipush 9, 2, 0, 0, 0, 0, 9, 0)) none)
          (cond (Nat.beq pc 383) (some (.iadd, 1, 0, 0, 0, 0, 0, 0)) none))))
       (cond (Nat.blt pc 390)
        (cond (Nat.blt pc 386)
         (cond (Nat.beq pc 384) (some (.iload 6, 2, 0, 0, 0, 0, 0, 0)) none)
         (cond (Nat.blt pc 387)
          (cond (Nat.beq pc 386) (some (.iastore, 1, 0, 0, 0, 0, 0, 0)) none)
          (cond (Nat.beq pc 387) (some (.goto 8, 3, 395, 0, 0, 0, 0, 0)) none)))
        (cond (Nat.blt pc 392)
         (cond (Nat.blt pc 391)
          (cond (Nat.beq pc 390) (some (.aload_n 0, 1, 0, 0, 0, 0, 0, 0)) none)
          (cond (Nat.beq pc 391) (some (.iconst 0, 1, 0, 0, 0, 0, 0, 0)) none))
         (cond (Nat.blt pc 395)
          (cond (Nat.beq pc 392) (some (.putfield 94, 3, 8, 18, 1, 1788, 0, 0)) none)
          (cond (Nat.beq pc 395) (some (.return_, 1, 0, 0, 0, 0, 0, 0)) none))))))))) none
-- PrintHouseModel.group (Z)V
def zc110 (pc : Nat) : Option z_I := cond (Nat.blt pc 46)
  (cond (Nat.blt pc 21)
   (cond (Nat.blt pc 9)
    (cond (Nat.blt pc 2)
     (cond (Nat.blt pc 1)
      (cond (Nat.beq pc 0) (some (.aload_n 0, 1, 0, 0, 0, 0, 0, 0)) none)
      (cond (Nat.beq pc 1) (some (.iconst 0, 1, 0, 0, 0, 0, 0, 0)) none))
     (cond (Nat.blt pc 5)
      (cond (Nat.beq pc 2) (some (.putfield 58, 3, 8, 21, 0, 1794, 0, 0)) none)
      (cond (Nat.blt pc 6)
       (cond (Nat.beq pc 5) (some (.aload_n 0, 1, 0, 0, 0, 0, 0, 0)) none)
       (cond (Nat.beq pc 6) (some (.getfield 52, 3, 8, 13, 1, 1778, 0, 0)) none))))
    (cond (Nat.blt pc 16)
     (cond (Nat.blt pc 12)
      (cond (Nat.beq pc 9) (some (.ifCond .eq 36, 3, 45, 0, 0, 0, 0, 0)) none)
      (cond (Nat.blt pc 13)
       (cond (Nat.beq pc 12) (some (.aload_n 0, 1, 0, 0, 0, 0, 0, 0)) none)
       (cond (Nat.beq pc 13) (some (.invokevirtual 72, 3, 102, 0, 0, 1980, 0, 0)) none)))
     (cond (Nat.blt pc 17)
      (cond (Nat.beq pc 16) (some (.iconst 2, 1, 0, 0, 0, 0, 2, 0)) none)
      (cond (Nat.blt pc 20)
       (cond (Nat.beq pc 17) (some (.if_icmp .eq 28, 3, 45, 0, 0, 0, 0, 0)) none)
       (cond (Nat.beq pc 20) (some (.aload_n 0, 1, 0, 0, 0, 0, 0, 0)) none)))))
   (cond (Nat.blt pc 34)
    (cond (Nat.blt pc 28)
     (cond (Nat.blt pc 24)
      (cond (Nat.beq pc 21) (some (.invokevirtual 72, 3, 102, 0, 0, 1980, 0, 0)) none)
      (cond (Nat.blt pc 25)
       (cond (Nat.beq pc 24) (some (.iconst 3, 1, 0, 0, 0, 0, 3, 0)) none)
       (cond (Nat.beq pc 25) (some (.if_icmp .eq 20, 3, 45, 0, 0, 0, 0, 0)) none)))
     (cond (Nat.blt pc 29)
      (cond (Nat.beq pc 28) (some (.aload_n 0, 1, 0, 0, 0, 0, 0, 0)) none)
      (cond (Nat.blt pc 32)
       (cond (Nat.beq pc 29) (some (.getfield 58, 3, 8, 21, 0, 1794, 0, 0)) none)
       (cond (Nat.beq pc 32) (some (.bipush 60, 2, 0, 0, 0, 0, 60, 0)) none))))
    (cond (Nat.blt pc 39)
     (cond (Nat.blt pc 37)
      (cond (Nat.beq pc 34) (some (.if_icmp .ge 11, 3, 45, 0, 0, 0, 0, 0)) none)
      (cond (Nat.blt pc 38)
       (cond (Nat.beq pc 37) (some (.aload_n 0, 1, 0, 0, 0, 0, 0, 0)) none)
       (cond (Nat.beq pc 38) (some (.iload_n 1, 1, 0, 0, 0, 0, 0, 0)) none)))
     (cond (Nat.blt pc 42)
      (cond (Nat.beq pc 39) (some (.invokevirtual 120, 3, 107, 0, 0, 1988, 0, 0)) none)
      (cond (Nat.blt pc 45)
       (cond (Nat.beq pc 42) (some (.goto (-37), 3, 5, 0, 0, 0, 0, 0)) none)
       (cond (Nat.beq pc 45) (some (.return_, 1, 0, 0, 0, 0, 0, 0)) none)))))) none
-- PrintHouseModel.readAll ()V
def zc111 (pc : Nat) : Option z_I := cond (Nat.blt pc 183)
  (cond (Nat.blt pc 87)
   (cond (Nat.blt pc 42)
    (cond (Nat.blt pc 20)
     (cond (Nat.blt pc 10)
      (cond (Nat.blt pc 5)
       (cond (Nat.blt pc 1)
        (cond (Nat.beq pc 0) (some (.aload_n 0, 1, 0, 0, 0, 0, 0, 0)) none)
        (cond (Nat.blt pc 2)
         (cond (Nat.beq pc 1) (some (.iconst 1, 1, 0, 0, 0, 0, 1, 0)) none)
         (cond (Nat.beq pc 2) (some (.putfield 52, 3, 8, 13, 1, 1778, 0, 0)) none)))
       (cond (Nat.blt pc 6)
        (cond (Nat.beq pc 5) (some (.aload_n 0, 1, 0, 0, 0, 0, 0, 0)) none)
        (cond (Nat.blt pc 7)
         (cond (Nat.beq pc 6) (some (.iconst 0, 1, 0, 0, 0, 0, 0, 0)) none)
         (cond (Nat.beq pc 7) (some (.putfield 124, 3, 8, 15, 1, 1782, 0, 0)) none))))
      (cond (Nat.blt pc 15)
       (cond (Nat.blt pc 11)
        (cond (Nat.beq pc 10) (some (.aload_n 0, 1, 0, 0, 0, 0, 0, 0)) none)
        (cond (Nat.blt pc 12)
         (cond (Nat.beq pc 11) (some (.iconst 0, 1, 0, 0, 0, 0, 0, 0)) none)
         (cond (Nat.beq pc 12) (some (.putfield 82, 3, 8, 16, 1, 1784, 0, 0)) none)))
       (cond (Nat.blt pc 16)
        (cond (Nat.beq pc 15) (some (.aload_n 0, 1, 0, 0, 0, 0, 0, 0)) none)
        (cond (Nat.blt pc 17)
         (cond (Nat.beq pc 16) (some (.iconst 1, 1, 0, 0, 0, 0, 1, 0)) none)
         (cond (Nat.beq pc 17) (some (.putfield 94, 3, 8, 18, 1, 1788, 0, 0)) none)))))
     (cond (Nat.blt pc 30)
      (cond (Nat.blt pc 25)
       (cond (Nat.blt pc 21)
        (cond (Nat.beq pc 20) (some (.aload_n 0, 1, 0, 0, 0, 0, 0, 0)) none)
        (cond (Nat.blt pc 22)
         (cond (Nat.beq pc 21) (some (.iconst 0, 1, 0, 0, 0, 0, 0, 0)) none)
         (cond (Nat.beq pc 22) (some (.putfield 105, 3, 8, 19, 1, 1790, 0, 0)) none)))
       (cond (Nat.blt pc 28)
        (cond (Nat.beq pc 25) (some (.sipush 250, 3, 0, 0, 0, 0, 250, 0)) none)
        (cond (Nat.blt pc 29)
         (cond (Nat.beq pc 28) (some (.istore_n 1, 1, 0, 0, 0, 0, 0, 0)) none)
         (cond (Nat.beq pc 29) (some (.iconst 0, 1, 0, 0, 0, 0, 0, 0)) none))))
      (cond (Nat.blt pc 34)
       (cond (Nat.blt pc 31)
        (cond (Nat.beq pc 30) (some (.istore_n 2, 1, 0, 0, 0, 0, 0, 0)) none)
        (cond (Nat.blt pc 32)
         (cond (Nat.beq pc 31) (some (.iload_n 2, 1, 0, 0, 0, 0, 0, 0)) none)
         (cond (Nat.beq pc 32) (some (.bipush 10, 2, 0, 0, 0, 0, 10, 0)) none)))
       (cond (Nat.blt pc 38)
        (cond (Nat.blt pc 37)
         (cond (Nat.beq pc 34) (some (.if_icmp .ge 42, 3, 76, 0, 0, 0, 0, 0)) none)
         (cond (Nat.beq pc 37) (some (.aload_n 0, 1, 0, 0, 0, 0, 0, 0)) none))
        (cond (Nat.blt pc 41)
         (cond (Nat.beq pc 38) (some (.getfield 13, 3, 8, 5, 2, 1762, 0, 0)) none)
         (cond (Nat.beq pc 41) (some (.iload_n 1, 1, 0, 0, 0, 0, 0, 0)) none))))))
    (cond (Nat.blt pc 60)
     (cond (Nat.blt pc 50)
      (cond (Nat.blt pc 45)
       (cond (Nat.blt pc 43)
        (cond (Nat.beq pc 42) (some (.iload_n 2, 1, 0, 0, 0, 0, 0, 0)) none)
        (cond (Nat.blt pc 44)
         (cond (Nat.beq pc 43) (some (.iadd, 1, 0, 0, 0, 0, 0, 0)) none)
         (cond (Nat.beq pc 44) (some (.iload_n 2, 1, 0, 0, 0, 0, 0, 0)) none)))
       (cond (Nat.blt pc 46)
        (cond (Nat.beq pc 45) (some (.iconst 2, 1, 0, 0, 0, 0, 2, 0)) none)
        (cond (Nat.blt pc 49)
         (cond (Nat.beq pc 46) (some (.if_icmp .eq 8, 3, 54, 0, 0, 0, 0, 0)) none)
         (cond (Nat.beq pc 49) (some (.iload_n 2, 1, 0, 0, 0, 0, 0, 0)) none))))
      (cond (Nat.blt pc 55)
       (cond (Nat.blt pc 51)
        (cond (Nat.beq pc 50) (some (.iconst 4, 1, 0, 0, 0, 0, 4, 0)) none)
        (cond (Nat.blt pc 54)
         (cond (Nat.beq pc 51) (some (.if_icmp .ne 7, 3, 58, 0, 0, 0, 0, 0)) none)
         (cond (Nat.beq pc 54) (some (.iconst 1, 1, 0, 0, 0, 0, 1, 0)) none)))
       (cond (Nat.blt pc 58)
        (cond (Nat.beq pc 55) (some (.goto 14, 3, 69, 0, 0, 0, 0, 0)) none)
        (cond (Nat.blt pc 59)
         (cond (Nat.beq pc 58) (some (.iload_n 2, 1, 0, 0, 0, 0, 0, 0)) none)
         (cond (Nat.beq pc 59) (some (.iconst 3, 1, 0, 0, 0, 0, 3, 0)) none)))))
     (cond (Nat.blt pc 73)
      (cond (Nat.blt pc 68)
       (cond (Nat.blt pc 63)
        (cond (Nat.beq pc 60) (some (.if_icmp .ne 8, 3, 68, 0, 0, 0, 0, 0)) none)
        (cond (Nat.blt pc 65)
         (cond (Nat.beq pc 63) (some (.bipush 50, 2, 0, 0, 0, 0, 50, 0)) none)
         (cond (Nat.beq pc 65) (some (.goto 4, 3, 69, 0, 0, 0, 0, 0)) none)))
       (cond (Nat.blt pc 69)
        (cond (Nat.beq pc 68) (some (.iconst 0, 1, 0, 0, 0, 0, 0, 0)) none)
        (cond (Nat.blt pc 70)
         (cond (Nat.beq pc 69) (some (.iastore, 1, 0, 0, 0, 0, 0, 0)) none)
         (cond (Nat.beq pc 70) (some (.iinc 2 1, 3, 0, 0, 0, 0, 1, 0)) none))))
      (cond (Nat.blt pc 79)
       (cond (Nat.blt pc 76)
        (cond (Nat.beq pc 73) (some (.goto (-42), 3, 31, 0, 0, 0, 0, 0)) none)
        (cond (Nat.blt pc 77)
         (cond (Nat.beq pc 76) (some (.aload_n 0, 1, 0, 0, 0, 0, 0, 0)) none)
         (cond (Nat.beq pc 77) (some (.bipush 8, 2, 0, 0, 0, 0, 8, 0)) none)))
       (cond (Nat.blt pc 83)
        (cond (Nat.blt pc 82)
         (cond (Nat.beq pc 79) (some (.putfield 49, 3, 8, 14, 0, 1780, 0, 0)) none)
         (cond (Nat.beq pc 82) (some (.aload_n 0, 1, 0, 0, 0, 0, 0, 0)) none))
        (cond (Nat.blt pc 84)
         (cond (Nat.beq pc 83) (some (.aload_n 0, 1, 0, 0, 0, 0, 0, 0)) none)
         (cond (Nat.beq pc 84) (some (.getfield 44, 3, 8, 2, 0, 1756, 0, 0)) none)))))))
   (cond (Nat.blt pc 135)
    (cond (Nat.blt pc 110)
     (cond (Nat.blt pc 98)
      (cond (Nat.blt pc 93)
       (cond (Nat.blt pc 89)
        (cond (Nat.beq pc 87) (some (.bipush 8, 2, 0, 0, 0, 0, 8, 0)) none)
        (cond (Nat.blt pc 92)
         (cond (Nat.beq pc 89) (some (.if_icmp .le 16, 3, 105, 0, 0, 0, 0, 0)) none)
         (cond (Nat.beq pc 92) (some (.aload_n 0, 1, 0, 0, 0, 0, 0, 0)) none)))
       (cond (Nat.blt pc 94)
        (cond (Nat.beq pc 93) (some (.iconst 1, 1, 0, 0, 0, 0, 1, 0)) none)
        (cond (Nat.blt pc 97)
         (cond (Nat.beq pc 94) (some (.invokevirtual 61, 3, 103, 0, 0, 1964, 0, 0)) none)
         (cond (Nat.beq pc 97) (some (.iconst 1, 1, 0, 0, 0, 0, 1, 0)) none))))
      (cond (Nat.blt pc 105)
       (cond (Nat.blt pc 101)
        (cond (Nat.beq pc 98) (some (.if_icmp .ne 7, 3, 105, 0, 0, 0, 0, 0)) none)
        (cond (Nat.blt pc 102)
         (cond (Nat.beq pc 101) (some (.iconst 1, 1, 0, 0, 0, 0, 1, 0)) none)
         (cond (Nat.beq pc 102) (some (.goto 4, 3, 106, 0, 0, 0, 0, 0)) none)))
       (cond (Nat.blt pc 106)
        (cond (Nat.beq pc 105) (some (.iconst 0, 1, 0, 0, 0, 0, 0, 0)) none)
        (cond (Nat.blt pc 109)
         (cond (Nat.beq pc 106) (some (.putfield 52, 3, 8, 13, 1, 1778, 0, 0)) none)
         (cond (Nat.beq pc 109) (some (.aload_n 0, 1, 0, 0, 0, 0, 0, 0)) none)))))
     (cond (Nat.blt pc 122)
      (cond (Nat.blt pc 115)
       (cond (Nat.blt pc 111)
        (cond (Nat.beq pc 110) (some (.iconst 0, 1, 0, 0, 0, 0, 0, 0)) none)
        (cond (Nat.blt pc 114)
         (cond (Nat.beq pc 111) (some (.invokevirtual 127, 3, 110, 0, 0, 1972, 0, 0)) none)
         (cond (Nat.beq pc 114) (some (.aload_n 0, 1, 0, 0, 0, 0, 0, 0)) none)))
       (cond (Nat.blt pc 118)
        (cond (Nat.beq pc 115) (some (.getfield 52, 3, 8, 13, 1, 1778, 0, 0)) none)
        (cond (Nat.blt pc 121)
         (cond (Nat.beq pc 118) (some (.ifCond .eq 31, 3, 149, 0, 0, 0, 0, 0)) none)
         (cond (Nat.beq pc 121) (some (.aload_n 0, 1, 0, 0, 0, 0, 0, 0)) none))))
      (cond (Nat.blt pc 129)
       (cond (Nat.blt pc 125)
        (cond (Nat.beq pc 122) (some (.invokevirtual 72, 3, 102, 0, 0, 1980, 0, 0)) none)
        (cond (Nat.blt pc 126)
         (cond (Nat.beq pc 125) (some (.iconst 2, 1, 0, 0, 0, 0, 2, 0)) none)
         (cond (Nat.beq pc 126) (some (.if_icmp .ne 23, 3, 149, 0, 0, 0, 0, 0)) none)))
       (cond (Nat.blt pc 131)
        (cond (Nat.blt pc 130)
         (cond (Nat.beq pc 129) (some (.aload_n 0, 1, 0, 0, 0, 0, 0, 0)) none)
         (cond (Nat.beq pc 130) (some (.iconst 1, 1, 0, 0, 0, 0, 1, 0)) none))
        (cond (Nat.blt pc 134)
         (cond (Nat.beq pc 131) (some (.putfield 124, 3, 8, 15, 1, 1782, 0, 0)) none)
         (cond (Nat.beq pc 134) (some (.aload_n 0, 1, 0, 0, 0, 0, 0, 0)) none))))))
    (cond (Nat.blt pc 158)
     (cond (Nat.blt pc 145)
      (cond (Nat.blt pc 140)
       (cond (Nat.blt pc 136)
        (cond (Nat.beq pc 135) (some (.dup, 1, 0, 0, 0, 0, 0, 0)) none)
        (cond (Nat.blt pc 139)
         (cond (Nat.beq pc 136) (some (.getfield 49, 3, 8, 14, 0, 1780, 0, 0)) none)
         (cond (Nat.beq pc 139) (some (.iconst 1, 1, 0, 0, 0, 0, 1, 0)) none)))
       (cond (Nat.blt pc 141)
        (cond (Nat.beq pc 140) (some (.iadd, 1, 0, 0, 0, 0, 0, 0)) none)
        (cond (Nat.blt pc 144)
         (cond (Nat.beq pc 141) (some (.putfield 49, 3, 8, 14, 0, 1780, 0, 0)) none)
         (cond (Nat.beq pc 144) (some (.aload_n 0, 1, 0, 0, 0, 0, 0, 0)) none))))
      (cond (Nat.blt pc 150)
       (cond (Nat.blt pc 146)
        (cond (Nat.beq pc 145) (some (.iconst 1, 1, 0, 0, 0, 0, 1, 0)) none)
        (cond (Nat.blt pc 149)
         (cond (Nat.beq pc 146) (some (.invokevirtual 127, 3, 110, 0, 0, 1972, 0, 0)) none)
         (cond (Nat.beq pc 149) (some (.aload_n 0, 1, 0, 0, 0, 0, 0, 0)) none)))
       (cond (Nat.blt pc 154)
        (cond (Nat.blt pc 151)
         (cond (Nat.beq pc 150) (some (.aload_n 0, 1, 0, 0, 0, 0, 0, 0)) none)
         (cond (Nat.beq pc 151) (some (.getfield 52, 3, 8, 13, 1, 1778, 0, 0)) none))
        (cond (Nat.blt pc 157)
         (cond (Nat.beq pc 154) (some (.ifCond .eq 16, 3, 170, 0, 0, 0, 0, 0)) none)
         (cond (Nat.beq pc 157) (some (.aload_n 0, 1, 0, 0, 0, 0, 0, 0)) none)))))
     (cond (Nat.blt pc 170)
      (cond (Nat.blt pc 163)
       (cond (Nat.blt pc 159)
        (cond (Nat.beq pc 158) (some (.iconst 1, 1, 0, 0, 0, 0, 1, 0)) none)
        (cond (Nat.blt pc 162)
         (cond (Nat.beq pc 159) (some (.invokevirtual 61, 3, 103, 0, 0, 1964, 0, 0)) none)
         (cond (Nat.beq pc 162) (some (.iconst 3, 1, 0, 0, 0, 0, 3, 0)) none)))
       (cond (Nat.blt pc 166)
        (cond (Nat.beq pc 163) (some (.if_icmp .ne 7, 3, 170, 0, 0, 0, 0, 0)) none)
        (cond (Nat.blt pc 167)
         (cond (Nat.beq pc 166) (some (.iconst 1, 1, 0, 0, 0, 0, 1, 0)) none)
         (cond (Nat.beq pc 167) (some (.goto 4, 3, 171, 0, 0, 0, 0, 0)) none))))
      (cond (Nat.blt pc 175)
       (cond (Nat.blt pc 171)
        (cond (Nat.beq pc 170) (some (.iconst 0, 1, 0, 0, 0, 0, 0, 0)) none)
        (cond (Nat.blt pc 174)
         (cond (Nat.beq pc 171) (some (.putfield 52, 3, 8, 13, 1, 1778, 0, 0)) none)
         (cond (Nat.beq pc 174) (some (.aload_n 0, 1, 0, 0, 0, 0, 0, 0)) none)))
       (cond (Nat.blt pc 179)
        (cond (Nat.blt pc 176)
         (cond (Nat.beq pc 175) (some (.aload_n 0, 1, 0, 0, 0, 0, 0, 0)) none)
         (cond (Nat.beq pc 176) (some (.getfield 49, 3, 8, 14, 0, 1780, 0, 0)) none))
        (cond (Nat.blt pc 182)
         (cond (Nat.beq pc 179) (some (.putfield 130, 3, 8, 20, 0, 1792, 0, 0)) none)
         (cond (Nat.beq pc 182) (some (.return_, 1, 0, 0, 0, 0, 0, 0)) none)))))))) none
-- PrintHouseModel.raster (I)Z
def zc112 (pc : Nat) : Option z_I := cond (Nat.blt pc 237)
  (cond (Nat.blt pc 113)
   (cond (Nat.blt pc 51)
    (cond (Nat.blt pc 24)
     (cond (Nat.blt pc 12)
      (cond (Nat.blt pc 4)
       (cond (Nat.blt pc 2)
        (cond (Nat.blt pc 1)
         (cond (Nat.beq pc 0) (some (.iconst 0, 1, 0, 0, 0, 0, 0, 0)) none)
         (cond (Nat.beq pc 1) (some (.istore_n 2, 1, 0, 0, 0, 0, 0, 0)) none))
        (cond (Nat.blt pc 3)
         (cond (Nat.beq pc 2) (some (.iload_n 2, 1, 0, 0, 0, 0, 0, 0)) none)
         (cond (Nat.beq pc 3) (some (.iconst 3, 1, 0, 0, 0, 0, 3, 0)) none)))
       (cond (Nat.blt pc 8)
        (cond (Nat.blt pc 7)
         (cond (Nat.beq pc 4) (some (.if_icmp .ge 231, 3, 235, 0, 0, 0, 0, 0)) none)
         (cond (Nat.beq pc 7) (some (.aload_n 0, 1, 0, 0, 0, 0, 0, 0)) none))
        (cond (Nat.blt pc 11)
         (cond (Nat.beq pc 8) (some (.invokevirtual 72, 3, 102, 0, 0, 1980, 0, 0)) none)
         (cond (Nat.beq pc 11) (some (.iconst 1, 1, 0, 0, 0, 0, 1, 0)) none))))
      (cond (Nat.blt pc 16)
       (cond (Nat.blt pc 14)
        (cond (Nat.blt pc 13)
         (cond (Nat.beq pc 12) (some (.iadd, 1, 0, 0, 0, 0, 0, 0)) none)
         (cond (Nat.beq pc 13) (some (.istore_n 3, 1, 0, 0, 0, 0, 0, 0)) none))
        (cond (Nat.blt pc 15)
         (cond (Nat.beq pc 14) (some (.aload_n 0, 1, 0, 0, 0, 0, 0, 0)) none)
         (cond (Nat.beq pc 15) (some (.dup, 1, 0, 0, 0, 0, 0, 0)) none)))
       (cond (Nat.blt pc 20)
        (cond (Nat.blt pc 19)
         (cond (Nat.beq pc 16) (some (.getfield 49, 3, 8, 14, 0, 1780, 0, 0)) none)
         (cond (Nat.beq pc 19) (some (.iconst 1, 1, 0, 0, 0, 0, 1, 0)) none))
        (cond (Nat.blt pc 21)
         (cond (Nat.beq pc 20) (some (.iadd, 1, 0, 0, 0, 0, 0, 0)) none)
         (cond (Nat.beq pc 21) (some (.putfield 49, 3, 8, 14, 0, 1780, 0, 0)) none)))))
     (cond (Nat.blt pc 36)
      (cond (Nat.blt pc 30)
       (cond (Nat.blt pc 26)
        (cond (Nat.blt pc 25)
         (cond (Nat.beq pc 24) (some (.iload_n 3, 1, 0, 0, 0, 0, 0, 0)) none)
         (cond (Nat.beq pc 25) (some (.iconst 1, 1, 0, 0, 0, 0, 1, 0)) none))
        (cond (Nat.blt pc 29)
         (cond (Nat.beq pc 26) (some (.if_icmp .lt 10, 3, 36, 0, 0, 0, 0, 0)) none)
         (cond (Nat.beq pc 29) (some (.iload_n 2, 1, 0, 0, 0, 0, 0, 0)) none)))
       (cond (Nat.blt pc 32)
        (cond (Nat.blt pc 31)
         (cond (Nat.beq pc 30) (some (.iload_n 3, 1, 0, 0, 0, 0, 0, 0)) none)
         (cond (Nat.beq pc 31) (some (.iadd, 1, 0, 0, 0, 0, 0, 0)) none))
        (cond (Nat.blt pc 33)
         (cond (Nat.beq pc 32) (some (.iconst 3, 1, 0, 0, 0, 0, 3, 0)) none)
         (cond (Nat.beq pc 33) (some (.if_icmp .le 5, 3, 38, 0, 0, 0, 0, 0)) none))))
      (cond (Nat.blt pc 41)
       (cond (Nat.blt pc 38)
        (cond (Nat.blt pc 37)
         (cond (Nat.beq pc 36) (some (.iconst 0, 1, 0, 0, 0, 0, 0, 0)) none)
         (cond (Nat.beq pc 37) (some (.ireturn, 1, 0, 0, 1, 0, 0, 0)) none))
        (cond (Nat.blt pc 39)
         (cond (Nat.beq pc 38) (some (.iconst 0, 1, 0, 0, 0, 0, 0, 0)) none)
         (cond (Nat.beq pc 39) (some (.istore 4, 2, 0, 0, 0, 0, 0, 0)) none)))
       (cond (Nat.blt pc 44)
        (cond (Nat.blt pc 43)
         (cond (Nat.beq pc 41) (some (.iload 4, 2, 0, 0, 0, 0, 0, 0)) none)
         (cond (Nat.beq pc 43) (some (.iconst 4, 1, 0, 0, 0, 0, 4, 0)) none))
        (cond (Nat.blt pc 47)
         (cond (Nat.beq pc 44) (some (.if_icmp .ge 184, 3, 228, 0, 0, 0, 0, 0)) none)
         (cond (Nat.blt pc 48)
          (cond (Nat.beq pc 47) (some (.aload_n 0, 1, 0, 0, 0, 0, 0, 0)) none)
          (cond (Nat.beq pc 48) (some (.invokevirtual 72, 3, 102, 0, 0, 1980, 0, 0)) none)))))))
    (cond (Nat.blt pc 83)
     (cond (Nat.blt pc 65)
      (cond (Nat.blt pc 58)
       (cond (Nat.blt pc 54)
        (cond (Nat.blt pc 53)
         (cond (Nat.beq pc 51) (some (.istore 5, 2, 0, 0, 0, 0, 0, 0)) none)
         (cond (Nat.beq pc 53) (some (.aload_n 0, 1, 0, 0, 0, 0, 0, 0)) none))
        (cond (Nat.blt pc 55)
         (cond (Nat.beq pc 54) (some (.dup, 1, 0, 0, 0, 0, 0, 0)) none)
         (cond (Nat.beq pc 55) (some (.getfield 49, 3, 8, 14, 0, 1780, 0, 0)) none)))
       (cond (Nat.blt pc 60)
        (cond (Nat.blt pc 59)
         (cond (Nat.beq pc 58) (some (.iconst 1, 1, 0, 0, 0, 0, 1, 0)) none)
         (cond (Nat.beq pc 59) (some (.iadd, 1, 0, 0, 0, 0, 0, 0)) none))
        (cond (Nat.blt pc 63)
         (cond (Nat.beq pc 60) (some (.putfield 49, 3, 8, 14, 0, 1780, 0, 0)) none)
         (cond (Nat.beq pc 63) (some (.iload 5, 2, 0, 0, 0, 0, 0, 0)) none))))
      (cond (Nat.blt pc 76)
       (cond (Nat.blt pc 70)
        (cond (Nat.blt pc 68)
         (cond (Nat.beq pc 65) (some (.ifCond .lt 11, 3, 76, 0, 0, 0, 0, 0)) none)
         (cond (Nat.beq pc 68) (some (.iload 5, 2, 0, 0, 0, 0, 0, 0)) none))
        (cond (Nat.blt pc 73)
         (cond (Nat.beq pc 70) (some (.sipush 128, 3, 0, 0, 0, 0, 128, 0)) none)
         (cond (Nat.beq pc 73) (some (.if_icmp .ne 5, 3, 78, 0, 0, 0, 0, 0)) none)))
       (cond (Nat.blt pc 78)
        (cond (Nat.blt pc 77)
         (cond (Nat.beq pc 76) (some (.iconst 0, 1, 0, 0, 0, 0, 0, 0)) none)
         (cond (Nat.beq pc 77) (some (.ireturn, 1, 0, 0, 1, 0, 0, 0)) none))
        (cond (Nat.blt pc 80)
         (cond (Nat.beq pc 78) (some (.iload 5, 2, 0, 0, 0, 0, 0, 0)) none)
         (cond (Nat.beq pc 80) (some (.sipush 128, 3, 0, 0, 0, 0, 128, 0)) none)))))
     (cond (Nat.blt pc 99)
      (cond (Nat.blt pc 90)
       (cond (Nat.blt pc 88)
        (cond (Nat.blt pc 86)
         (cond (Nat.beq pc 83) (some (.if_icmp .ge 10, 3, 93, 0, 0, 0, 0, 0)) none)
         (cond (Nat.beq pc 86) (some (.iload 5, 2, 0, 0, 0, 0, 0, 0)) none))
        (cond (Nat.blt pc 89)
         (cond (Nat.beq pc 88) (some (.iconst 1, 1, 0, 0, 0, 0, 1, 0)) none)
         (cond (Nat.beq pc 89) (some (.iadd, 1, 0, 0, 0, 0, 0, 0)) none)))
       (cond (Nat.blt pc 96)
        (cond (Nat.blt pc 93)
         (cond (Nat.beq pc 90) (some (.goto 9, 3, 99, 0, 0, 0, 0, 0)) none)
         (cond (Nat.beq pc 93) (some (.sipush 257, 3, 0, 0, 0, 0, 257, 0)) none))
        (cond (Nat.blt pc 98)
         (cond (Nat.beq pc 96) (some (.iload 5, 2, 0, 0, 0, 0, 0, 0)) none)
         (cond (Nat.beq pc 98) (some (.isub, 1, 0, 0, 0, 0, 0, 0)) none))))
      (cond (Nat.blt pc 106)
       (cond (Nat.blt pc 103)
        (cond (Nat.blt pc 101)
         (cond (Nat.beq pc 99) (some (.istore 6, 2, 0, 0, 0, 0, 0, 0)) none)
         (cond (Nat.beq pc 101) (some (.iload 4, 2, 0, 0, 0, 0, 0, 0)) none))
        (cond (Nat.blt pc 105)
         (cond (Nat.beq pc 103) (some (.iload 6, 2, 0, 0, 0, 0, 0, 0)) none)
         (cond (Nat.beq pc 105) (some (.iadd, 1, 0, 0, 0, 0, 0, 0)) none)))
       (cond (Nat.blt pc 110)
        (cond (Nat.blt pc 107)
         (cond (Nat.beq pc 106) (some (.iconst 4, 1, 0, 0, 0, 0, 4, 0)) none)
         (cond (Nat.beq pc 107) (some (.if_icmp .le 5, 3, 112, 0, 0, 0, 0, 0)) none))
        (cond (Nat.blt pc 111)
         (cond (Nat.beq pc 110) (some (.iconst 0, 1, 0, 0, 0, 0, 0, 0)) none)
         (cond (Nat.blt pc 112)
          (cond (Nat.beq pc 111) (some (.ireturn, 1, 0, 0, 1, 0, 0, 0)) none)
          (cond (Nat.beq pc 112) (some (.iconst 0, 1, 0, 0, 0, 0, 0, 0)) none))))))))
   (cond (Nat.blt pc 176)
    (cond (Nat.blt pc 145)
     (cond (Nat.blt pc 130)
      (cond (Nat.blt pc 122)
       (cond (Nat.blt pc 117)
        (cond (Nat.blt pc 115)
         (cond (Nat.beq pc 113) (some (.istore 7, 2, 0, 0, 0, 0, 0, 0)) none)
         (cond (Nat.beq pc 115) (some (.iload 7, 2, 0, 0, 0, 0, 0, 0)) none))
        (cond (Nat.blt pc 119)
         (cond (Nat.beq pc 117) (some (.iload 6, 2, 0, 0, 0, 0, 0, 0)) none)
         (cond (Nat.beq pc 119) (some (.if_icmp .ge 84, 3, 203, 0, 0, 0, 0, 0)) none)))
       (cond (Nat.blt pc 126)
        (cond (Nat.blt pc 123)
         (cond (Nat.beq pc 122) (some (.aload_n 0, 1, 0, 0, 0, 0, 0, 0)) none)
         (cond (Nat.beq pc 123) (some (.invokevirtual 72, 3, 102, 0, 0, 1980, 0, 0)) none))
        (cond (Nat.blt pc 128)
         (cond (Nat.beq pc 126) (some (.istore 8, 2, 0, 0, 0, 0, 0, 0)) none)
         (cond (Nat.beq pc 128) (some (.iload 8, 2, 0, 0, 0, 0, 0, 0)) none))))
      (cond (Nat.blt pc 136)
       (cond (Nat.blt pc 134)
        (cond (Nat.blt pc 133)
         (cond (Nat.beq pc 130) (some (.ifCond .ge 5, 3, 135, 0, 0, 0, 0, 0)) none)
         (cond (Nat.beq pc 133) (some (.iconst 0, 1, 0, 0, 0, 0, 0, 0)) none))
        (cond (Nat.blt pc 135)
         (cond (Nat.beq pc 134) (some (.ireturn, 1, 0, 0, 1, 0, 0, 0)) none)
         (cond (Nat.beq pc 135) (some (.aload_n 0, 1, 0, 0, 0, 0, 0, 0)) none)))
       (cond (Nat.blt pc 140)
        (cond (Nat.blt pc 137)
         (cond (Nat.beq pc 136) (some (.dup, 1, 0, 0, 0, 0, 0, 0)) none)
         (cond (Nat.beq pc 137) (some (.getfield 49, 3, 8, 14, 0, 1780, 0, 0)) none))
        (cond (Nat.blt pc 142)
         (cond (Nat.beq pc 140) (some (.iload 5, 2, 0, 0, 0, 0, 0, 0)) none)
         (cond (Nat.beq pc 142) (some (.sipush 128, 3, 0, 0, 0, 0, 128, 0)) none)))))
     (cond (Nat.blt pc 160)
      (cond (Nat.blt pc 153)
       (cond (Nat.blt pc 149)
        (cond (Nat.blt pc 148)
         (cond (Nat.beq pc 145) (some (.if_icmp .le 7, 3, 152, 0, 0, 0, 0, 0)) none)
         (cond (Nat.beq pc 148) (some (.iconst 1, 1, 0, 0, 0, 0, 1, 0)) none))
        (cond (Nat.blt pc 152)
         (cond (Nat.beq pc 149) (some (.goto 4, 3, 153, 0, 0, 0, 0, 0)) none)
         (cond (Nat.beq pc 152) (some (.iconst 0, 1, 0, 0, 0, 0, 0, 0)) none)))
       (cond (Nat.blt pc 157)
        (cond (Nat.blt pc 154)
         (cond (Nat.beq pc 153) (some (.iadd, 1, 0, 0, 0, 0, 0, 0)) none)
         (cond (Nat.beq pc 154) (some (.putfield 49, 3, 8, 14, 0, 1780, 0, 0)) none))
        (cond (Nat.blt pc 158)
         (cond (Nat.beq pc 157) (some (.iconst 0, 1, 0, 0, 0, 0, 0, 0)) none)
         (cond (Nat.beq pc 158) (some (.istore 9, 2, 0, 0, 0, 0, 0, 0)) none))))
      (cond (Nat.blt pc 167)
       (cond (Nat.blt pc 163)
        (cond (Nat.blt pc 162)
         (cond (Nat.beq pc 160) (some (.iload 9, 2, 0, 0, 0, 0, 0, 0)) none)
         (cond (Nat.beq pc 162) (some (.iload_n 3, 1, 0, 0, 0, 0, 0, 0)) none))
        (cond (Nat.blt pc 166)
         (cond (Nat.beq pc 163) (some (.if_icmp .ge 31, 3, 194, 0, 0, 0, 0, 0)) none)
         (cond (Nat.beq pc 166) (some (.iload_n 1, 1, 0, 0, 0, 0, 0, 0)) none)))
       (cond (Nat.blt pc 171)
        (cond (Nat.blt pc 170)
         (cond (Nat.beq pc 167) (some (.ifCond .lt 27, 3, 194, 0, 0, 0, 0, 0)) none)
         (cond (Nat.beq pc 170) (some (.aload_n 0, 1, 0, 0, 0, 0, 0, 0)) none))
        (cond (Nat.blt pc 174)
         (cond (Nat.beq pc 171) (some (.getfield 16, 3, 8, 6, 2, 1764, 0, 0)) none)
         (cond (Nat.blt pc 175)
          (cond (Nat.beq pc 174) (some (.iload_n 1, 1, 0, 0, 0, 0, 0, 0)) none)
          (cond (Nat.beq pc 175) (some (.iconst 4, 1, 0, 0, 0, 0, 4, 0)) none)))))))
    (cond (Nat.blt pc 205)
     (cond (Nat.blt pc 187)
      (cond (Nat.blt pc 181)
       (cond (Nat.blt pc 179)
        (cond (Nat.blt pc 177)
         (cond (Nat.beq pc 176) (some (.iload_n 2, 1, 0, 0, 0, 0, 0, 0)) none)
         (cond (Nat.beq pc 177) (some (.iload 9, 2, 0, 0, 0, 0, 0, 0)) none))
        (cond (Nat.blt pc 180)
         (cond (Nat.beq pc 179) (some (.iadd, 1, 0, 0, 0, 0, 0, 0)) none)
         (cond (Nat.beq pc 180) (some (.imul, 1, 0, 0, 0, 0, 0, 0)) none)))
       (cond (Nat.blt pc 184)
        (cond (Nat.blt pc 182)
         (cond (Nat.beq pc 181) (some (.iadd, 1, 0, 0, 0, 0, 0, 0)) none)
         (cond (Nat.beq pc 182) (some (.iload 4, 2, 0, 0, 0, 0, 0, 0)) none))
        (cond (Nat.blt pc 185)
         (cond (Nat.beq pc 184) (some (.iadd, 1, 0, 0, 0, 0, 0, 0)) none)
         (cond (Nat.beq pc 185) (some (.iload 8, 2, 0, 0, 0, 0, 0, 0)) none))))
      (cond (Nat.blt pc 197)
       (cond (Nat.blt pc 191)
        (cond (Nat.blt pc 188)
         (cond (Nat.beq pc 187) (some (.iastore, 1, 0, 0, 0, 0, 0, 0)) none)
         (cond (Nat.beq pc 188) (some (.iinc 9 1, 3, 0, 0, 0, 0, 1, 0)) none))
        (cond (Nat.blt pc 194)
         (cond (Nat.beq pc 191) (some (.goto (-31), 3, 160, 0, 0, 0, 0, 0)) none)
         (cond (Nat.beq pc 194) (some (.iinc 4 1, 3, 0, 0, 0, 0, 1, 0)) none)))
       (cond (Nat.blt pc 203)
        (cond (Nat.blt pc 200)
         (cond (Nat.beq pc 197) (some (.iinc 7 1, 3, 0, 0, 0, 0, 1, 0)) none)
         (cond (Nat.beq pc 200) (some (.goto (-85), 3, 115, 0, 0, 0, 0, 0)) none))
        (cond (Nat.blt pc 204)
         (cond (Nat.beq pc 203) (some (.aload_n 0, 1, 0, 0, 0, 0, 0, 0)) none)
         (cond (Nat.beq pc 204) (some (.dup, 1, 0, 0, 0, 0, 0, 0)) none)))))
     (cond (Nat.blt pc 222)
      (cond (Nat.blt pc 216)
       (cond (Nat.blt pc 210)
        (cond (Nat.blt pc 208)
         (cond (Nat.beq pc 205) (some (.getfield 49, 3, 8, 14, 0, 1780, 0, 0)) none)
         (cond (Nat.beq pc 208) (some (.iload 5, 2, 0, 0, 0, 0, 0, 0)) none))
        (cond (Nat.blt pc 213)
         (cond (Nat.beq pc 210) (some (.sipush 128, 3, 0, 0, 0, 0, 128, 0)) none)
         (cond (Nat.beq pc 213) (some (.if_icmp .ge 7, 3, 220, 0, 0, 0, 0, 0)) none)))
       (cond (Nat.blt pc 220)
        (cond (Nat.blt pc 217)
         (cond (Nat.beq pc 216) (some (.iconst 1, 1, 0, 0, 0, 0, 1, 0)) none)
         (cond (Nat.beq pc 217) (some (.goto 4, 3, 221, 0, 0, 0, 0, 0)) none))
        (cond (Nat.blt pc 221)
         (cond (Nat.beq pc 220) (some (.iconst 0, 1, 0, 0, 0, 0, 0, 0)) none)
         (cond (Nat.beq pc 221) (some (.iadd, 1, 0, 0, 0, 0, 0, 0)) none))))
      (cond (Nat.blt pc 230)
       (cond (Nat.blt pc 228)
        (cond (Nat.blt pc 225)
         (cond (Nat.beq pc 222) (some (.putfield 49, 3, 8, 14, 0, 1780, 0, 0)) none)
         (cond (Nat.beq pc 225) (some (.goto (-184), 3, 41, 0, 0, 0, 0, 0)) none))
        (cond (Nat.blt pc 229)
         (cond (Nat.beq pc 228) (some (.iload_n 2, 1, 0, 0, 0, 0, 0, 0)) none)
         (cond (Nat.beq pc 229) (some (.iload_n 3, 1, 0, 0, 0, 0, 0, 0)) none)))
       (cond (Nat.blt pc 232)
        (cond (Nat.blt pc 231)
         (cond (Nat.beq pc 230) (some (.iadd, 1, 0, 0, 0, 0, 0, 0)) none)
         (cond (Nat.beq pc 231) (some (.istore_n 2, 1, 0, 0, 0, 0, 0, 0)) none))
        (cond (Nat.blt pc 235)
         (cond (Nat.beq pc 232) (some (.goto (-230), 3, 2, 0, 0, 0, 0, 0)) none)
         (cond (Nat.blt pc 236)
          (cond (Nat.beq pc 235) (some (.iconst 1, 1, 0, 0, 0, 0, 1, 0)) none)
          (cond (Nat.beq pc 236) (some (.ireturn, 1, 0, 0, 1, 0, 0, 0)) none))))))))) none
-- PrintHouseModel.pages ()I
def zc113 (pc : Nat) : Option z_I := cond (Nat.blt pc 85)
  (cond (Nat.blt pc 42)
   (cond (Nat.blt pc 21)
    (cond (Nat.blt pc 9)
     (cond (Nat.blt pc 2)
      (cond (Nat.blt pc 1)
       (cond (Nat.beq pc 0) (some (.aload_n 0, 1, 0, 0, 0, 0, 0, 0)) none)
       (cond (Nat.beq pc 1) (some (.aload_n 0, 1, 0, 0, 0, 0, 0, 0)) none))
      (cond (Nat.blt pc 5)
       (cond (Nat.beq pc 2) (some (.getfield 130, 3, 8, 20, 0, 1792, 0, 0)) none)
       (cond (Nat.blt pc 8)
        (cond (Nat.beq pc 5) (some (.putfield 49, 3, 8, 14, 0, 1780, 0, 0)) none)
        (cond (Nat.beq pc 8) (some (.iconst 0, 1, 0, 0, 0, 0, 0, 0)) none))))
     (cond (Nat.blt pc 14)
      (cond (Nat.blt pc 10)
       (cond (Nat.beq pc 9) (some (.istore_n 1, 1, 0, 0, 0, 0, 0, 0)) none)
       (cond (Nat.blt pc 11)
        (cond (Nat.beq pc 10) (some (.aload_n 0, 1, 0, 0, 0, 0, 0, 0)) none)
        (cond (Nat.beq pc 11) (some (.getfield 49, 3, 8, 14, 0, 1780, 0, 0)) none)))
      (cond (Nat.blt pc 15)
       (cond (Nat.beq pc 14) (some (.aload_n 0, 1, 0, 0, 0, 0, 0, 0)) none)
       (cond (Nat.blt pc 18)
        (cond (Nat.beq pc 15) (some (.getfield 44, 3, 8, 2, 0, 1756, 0, 0)) none)
        (cond (Nat.beq pc 18) (some (.if_icmp .ge 65, 3, 83, 0, 0, 0, 0, 0)) none)))))
    (cond (Nat.blt pc 34)
     (cond (Nat.blt pc 27)
      (cond (Nat.blt pc 22)
       (cond (Nat.beq pc 21) (some (.aload_n 0, 1, 0, 0, 0, 0, 0, 0)) none)
       (cond (Nat.blt pc 25)
        (cond (Nat.beq pc 22) (some (.invokevirtual 72, 3, 102, 0, 0, 1980, 0, 0)) none)
        (cond (Nat.beq pc 25) (some (.bipush 80, 2, 0, 0, 0, 0, 80, 0)) none)))
      (cond (Nat.blt pc 30)
       (cond (Nat.beq pc 27) (some (.if_icmp .ne 7, 3, 34, 0, 0, 0, 0, 0)) none)
       (cond (Nat.blt pc 31)
        (cond (Nat.beq pc 30) (some (.iconst 1, 1, 0, 0, 0, 0, 1, 0)) none)
        (cond (Nat.beq pc 31) (some (.goto 4, 3, 35, 0, 0, 0, 0, 0)) none))))
     (cond (Nat.blt pc 37)
      (cond (Nat.blt pc 35)
       (cond (Nat.beq pc 34) (some (.iconst 0, 1, 0, 0, 0, 0, 0, 0)) none)
       (cond (Nat.blt pc 36)
        (cond (Nat.beq pc 35) (some (.istore_n 2, 1, 0, 0, 0, 0, 0, 0)) none)
        (cond (Nat.beq pc 36) (some (.aload_n 0, 1, 0, 0, 0, 0, 0, 0)) none)))
      (cond (Nat.blt pc 38)
       (cond (Nat.beq pc 37) (some (.dup, 1, 0, 0, 0, 0, 0, 0)) none)
       (cond (Nat.blt pc 41)
        (cond (Nat.beq pc 38) (some (.getfield 49, 3, 8, 14, 0, 1780, 0, 0)) none)
        (cond (Nat.beq pc 41) (some (.iconst 1, 1, 0, 0, 0, 0, 1, 0)) none))))))
   (cond (Nat.blt pc 63)
    (cond (Nat.blt pc 51)
     (cond (Nat.blt pc 46)
      (cond (Nat.blt pc 43)
       (cond (Nat.beq pc 42) (some (.iadd, 1, 0, 0, 0, 0, 0, 0)) none)
       (cond (Nat.beq pc 43) (some (.putfield 49, 3, 8, 14, 0, 1780, 0, 0)) none))
      (cond (Nat.blt pc 47)
       (cond (Nat.beq pc 46) (some (.iload_n 2, 1, 0, 0, 0, 0, 0, 0)) none)
       (cond (Nat.blt pc 50)
        (cond (Nat.beq pc 47) (some (.ifCond .eq 28, 3, 75, 0, 0, 0, 0, 0)) none)
        (cond (Nat.beq pc 50) (some (.aload_n 0, 1, 0, 0, 0, 0, 0, 0)) none))))
     (cond (Nat.blt pc 57)
      (cond (Nat.blt pc 52)
       (cond (Nat.beq pc 51) (some (.iload_n 1, 1, 0, 0, 0, 0, 0, 0)) none)
       (cond (Nat.blt pc 54)
        (cond (Nat.beq pc 52) (some (.bipush 6, 2, 0, 0, 0, 0, 6, 0)) none)
        (cond (Nat.beq pc 54) (some (.if_icmp .ge 14, 3, 68, 0, 0, 0, 0, 0)) none)))
      (cond (Nat.blt pc 60)
       (cond (Nat.beq pc 57) (some (.sipush 1800, 3, 0, 0, 0, 0, 1800, 0)) none)
       (cond (Nat.blt pc 62)
        (cond (Nat.beq pc 60) (some (.bipush 12, 2, 0, 0, 0, 0, 12, 0)) none)
        (cond (Nat.beq pc 62) (some (.iload_n 1, 1, 0, 0, 0, 0, 0, 0)) none)))))
    (cond (Nat.blt pc 75)
     (cond (Nat.blt pc 68)
      (cond (Nat.blt pc 64)
       (cond (Nat.beq pc 63) (some (.imul, 1, 0, 0, 0, 0, 0, 0)) none)
       (cond (Nat.blt pc 65)
        (cond (Nat.beq pc 64) (some (.iadd, 1, 0, 0, 0, 0, 0, 0)) none)
        (cond (Nat.beq pc 65) (some (.goto 4, 3, 69, 0, 0, 0, 0, 0)) none)))
      (cond (Nat.blt pc 69)
       (cond (Nat.beq pc 68) (some (.iconst (-1), 1, 0, 0, 0, 0, (-1), 0)) none)
       (cond (Nat.blt pc 72)
        (cond (Nat.beq pc 69) (some (.invokevirtual 133, 3, 112, 0, 0, 2078, 0, 0)) none)
        (cond (Nat.beq pc 72) (some (.ifCond .ne 5, 3, 77, 0, 0, 0, 0, 0)) none))))
     (cond (Nat.blt pc 80)
      (cond (Nat.blt pc 76)
       (cond (Nat.beq pc 75) (some (.iconst 0, 1, 0, 0, 0, 0, 0, 0)) none)
       (cond (Nat.blt pc 77)
        (cond (Nat.beq pc 76) (some (.ireturn, 1, 0, 0, 0, 0, 0, 0)) none)
        (cond (Nat.beq pc 77) (some (.iinc 1 1, 3, 0, 0, 0, 0, 1, 0)) none)))
      (cond (Nat.blt pc 83)
       (cond (Nat.beq pc 80) (some (.goto (-70), 3, 10, 0, 0, 0, 0, 0)) none)
       (cond (Nat.blt pc 84)
        (cond (Nat.beq pc 83) (some (.iload_n 1, 1, 0, 0, 0, 0, 0, 0)) none)
        (cond (Nat.beq pc 84) (some (.ireturn, 1, 0, 0, 0, 0, 0, 0)) none))))))) none
-- PrintHouseModel.find (I)I
def zc114 (pc : Nat) : Option z_I := cond (Nat.blt pc 33)
  (cond (Nat.blt pc 17)
   (cond (Nat.blt pc 7)
    (cond (Nat.blt pc 2)
     (cond (Nat.blt pc 1)
      (cond (Nat.beq pc 0) (some (.iconst 0, 1, 0, 0, 0, 0, 0, 0)) none)
      (cond (Nat.beq pc 1) (some (.istore_n 2, 1, 0, 0, 0, 0, 0, 0)) none))
     (cond (Nat.blt pc 3)
      (cond (Nat.beq pc 2) (some (.iload_n 2, 1, 0, 0, 0, 0, 0, 0)) none)
      (cond (Nat.blt pc 4)
       (cond (Nat.beq pc 3) (some (.aload_n 0, 1, 0, 0, 0, 0, 0, 0)) none)
       (cond (Nat.beq pc 4) (some (.getfield 137, 3, 8, 4, 0, 1760, 0, 0)) none))))
    (cond (Nat.blt pc 11)
     (cond (Nat.blt pc 10)
      (cond (Nat.beq pc 7) (some (.if_icmp .ge 24, 3, 31, 0, 0, 0, 0, 0)) none)
      (cond (Nat.beq pc 10) (some (.aload_n 0, 1, 0, 0, 0, 0, 0, 0)) none))
     (cond (Nat.blt pc 14)
      (cond (Nat.beq pc 11) (some (.getfield 13, 3, 8, 5, 2, 1762, 0, 0)) none)
      (cond (Nat.blt pc 16)
       (cond (Nat.beq pc 14) (some (.bipush 10, 2, 0, 0, 0, 0, 10, 0)) none)
       (cond (Nat.beq pc 16) (some (.iload_n 2, 1, 0, 0, 0, 0, 0, 0)) none)))))
   (cond (Nat.blt pc 24)
    (cond (Nat.blt pc 19)
     (cond (Nat.blt pc 18)
      (cond (Nat.beq pc 17) (some (.imul, 1, 0, 0, 0, 0, 0, 0)) none)
      (cond (Nat.beq pc 18) (some (.iaload, 1, 0, 0, 0, 0, 0, 0)) none))
     (cond (Nat.blt pc 20)
      (cond (Nat.beq pc 19) (some (.iload_n 1, 1, 0, 0, 0, 0, 0, 0)) none)
      (cond (Nat.blt pc 23)
       (cond (Nat.beq pc 20) (some (.if_icmp .ne 5, 3, 25, 0, 0, 0, 0, 0)) none)
       (cond (Nat.beq pc 23) (some (.iload_n 2, 1, 0, 0, 0, 0, 0, 0)) none))))
    (cond (Nat.blt pc 28)
     (cond (Nat.blt pc 25)
      (cond (Nat.beq pc 24) (some (.ireturn, 1, 0, 0, 0, 0, 0, 0)) none)
      (cond (Nat.beq pc 25) (some (.iinc 2 1, 3, 0, 0, 0, 0, 1, 0)) none))
     (cond (Nat.blt pc 31)
      (cond (Nat.beq pc 28) (some (.goto (-26), 3, 2, 0, 0, 0, 0, 0)) none)
      (cond (Nat.blt pc 32)
       (cond (Nat.beq pc 31) (some (.iconst (-1), 1, 0, 0, 0, 0, (-1), 0)) none)
       (cond (Nat.beq pc 32) (some (.ireturn, 1, 0, 0, 0, 0, 0, 0)) none)))))) none
-- PrintHouseModel.hasEnded (I)Z
def zc115 (pc : Nat) : Option z_I := cond (Nat.blt pc 21)
  (cond (Nat.blt pc 10)
   (cond (Nat.blt pc 6)
    (cond (Nat.blt pc 1)
     (cond (Nat.beq pc 0) (some (.aload_n 0, 1, 0, 0, 0, 0, 0, 0)) none)
     (cond (Nat.blt pc 4)
      (cond (Nat.beq pc 1) (some (.getfield 13, 3, 8, 5, 2, 1762, 0, 0)) none)
      (cond (Nat.beq pc 4) (some (.bipush 10, 2, 0, 0, 0, 0, 10, 0)) none)))
    (cond (Nat.blt pc 8)
     (cond (Nat.blt pc 7)
      (cond (Nat.beq pc 6) (some (.iload_n 1, 1, 0, 0, 0, 0, 0, 0)) none)
      (cond (Nat.beq pc 7) (some (.imul, 1, 0, 0, 0, 0, 0, 0)) none))
     (cond (Nat.blt pc 9)
      (cond (Nat.beq pc 8) (some (.iconst 1, 1, 0, 0, 0, 0, 1, 0)) none)
      (cond (Nat.beq pc 9) (some (.iadd, 1, 0, 0, 0, 0, 0, 0)) none))))
   (cond (Nat.blt pc 15)
    (cond (Nat.blt pc 11)
     (cond (Nat.beq pc 10) (some (.iaload, 1, 0, 0, 0, 0, 0, 0)) none)
     (cond (Nat.blt pc 12)
      (cond (Nat.beq pc 11) (some (.iconst 5, 1, 0, 0, 0, 0, 5, 0)) none)
      (cond (Nat.beq pc 12) (some (.if_icmp .le 7, 3, 19, 0, 0, 0, 0, 0)) none)))
    (cond (Nat.blt pc 19)
     (cond (Nat.blt pc 16)
      (cond (Nat.beq pc 15) (some (.iconst 1, 1, 0, 0, 0, 0, 1, 0)) none)
      (cond (Nat.beq pc 16) (some (.goto 4, 3, 20, 0, 0, 0, 0, 0)) none))
     (cond (Nat.blt pc 20)
      (cond (Nat.beq pc 19) (some (.iconst 0, 1, 0, 0, 0, 0, 0, 0)) none)
      (cond (Nat.beq pc 20) (some (.ireturn, 1, 0, 0, 1, 0, 0, 0)) none))))) none
-- PrintHouseModel.blocks ()I
def zc116 (pc : Nat) : Option z_I := cond (Nat.blt pc 49)
  (cond (Nat.blt pc 25)
   (cond (Nat.blt pc 9)
    (cond (Nat.blt pc 3)
     (cond (Nat.blt pc 1)
      (cond (Nat.beq pc 0) (some (.iconst 0, 1, 0, 0, 0, 0, 0, 0)) none)
      (cond (Nat.blt pc 2)
       (cond (Nat.beq pc 1) (some (.istore_n 1, 1, 0, 0, 0, 0, 0, 0)) none)
       (cond (Nat.beq pc 2) (some (.iconst 0, 1, 0, 0, 0, 0, 0, 0)) none)))
     (cond (Nat.blt pc 5)
      (cond (Nat.blt pc 4)
       (cond (Nat.beq pc 3) (some (.istore_n 2, 1, 0, 0, 0, 0, 0, 0)) none)
       (cond (Nat.beq pc 4) (some (.iload_n 2, 1, 0, 0, 0, 0, 0, 0)) none))
      (cond (Nat.blt pc 6)
       (cond (Nat.beq pc 5) (some (.aload_n 0, 1, 0, 0, 0, 0, 0, 0)) none)
       (cond (Nat.beq pc 6) (some (.getfield 137, 3, 8, 4, 0, 1760, 0, 0)) none))))
    (cond (Nat.blt pc 15)
     (cond (Nat.blt pc 13)
      (cond (Nat.blt pc 12)
       (cond (Nat.beq pc 9) (some (.if_icmp .ge 38, 3, 47, 0, 0, 0, 0, 0)) none)
       (cond (Nat.beq pc 12) (some (.iload_n 1, 1, 0, 0, 0, 0, 0, 0)) none))
      (cond (Nat.blt pc 14)
       (cond (Nat.beq pc 13) (some (.aload_n 0, 1, 0, 0, 0, 0, 0, 0)) none)
       (cond (Nat.beq pc 14) (some (.iload_n 2, 1, 0, 0, 0, 0, 0, 0)) none)))
     (cond (Nat.blt pc 21)
      (cond (Nat.blt pc 18)
       (cond (Nat.beq pc 15) (some (.invokevirtual 140, 3, 115, 0, 0, 2094, 0, 0)) none)
       (cond (Nat.beq pc 18) (some (.ifCond .eq 7, 3, 25, 0, 0, 0, 0, 0)) none))
      (cond (Nat.blt pc 22)
       (cond (Nat.beq pc 21) (some (.iconst 0, 1, 0, 0, 0, 0, 0, 0)) none)
       (cond (Nat.beq pc 22) (some (.goto 17, 3, 39, 0, 0, 0, 0, 0)) none)))))
   (cond (Nat.blt pc 37)
    (cond (Nat.blt pc 32)
     (cond (Nat.blt pc 27)
      (cond (Nat.blt pc 26)
       (cond (Nat.beq pc 25) (some (.iconst 1, 1, 0, 0, 0, 0, 1, 0)) none)
       (cond (Nat.beq pc 26) (some (.aload_n 0, 1, 0, 0, 0, 0, 0, 0)) none))
      (cond (Nat.blt pc 30)
       (cond (Nat.beq pc 27) (some (.getfield 13, 3, 8, 5, 2, 1762, 0, 0)) none)
       (cond (Nat.beq pc 30) (some (.bipush 10, 2, 0, 0, 0, 0, 10, 0)) none)))
     (cond (Nat.blt pc 34)
      (cond (Nat.blt pc 33)
       (cond (Nat.beq pc 32) (some (.iload_n 2, 1, 0, 0, 0, 0, 0, 0)) none)
       (cond (Nat.beq pc 33) (some (.imul, 1, 0, 0, 0, 0, 0, 0)) none))
      (cond (Nat.blt pc 36)
       (cond (Nat.beq pc 34) (some (.bipush 7, 2, 0, 0, 0, 0, 7, 0)) none)
       (cond (Nat.beq pc 36) (some (.iadd, 1, 0, 0, 0, 0, 0, 0)) none))))
    (cond (Nat.blt pc 41)
     (cond (Nat.blt pc 39)
      (cond (Nat.blt pc 38)
       (cond (Nat.beq pc 37) (some (.iaload, 1, 0, 0, 0, 0, 0, 0)) none)
       (cond (Nat.beq pc 38) (some (.iadd, 1, 0, 0, 0, 0, 0, 0)) none))
      (cond (Nat.blt pc 40)
       (cond (Nat.beq pc 39) (some (.iadd, 1, 0, 0, 0, 0, 0, 0)) none)
       (cond (Nat.beq pc 40) (some (.istore_n 1, 1, 0, 0, 0, 0, 0, 0)) none)))
     (cond (Nat.blt pc 47)
      (cond (Nat.blt pc 44)
       (cond (Nat.beq pc 41) (some (.iinc 2 1, 3, 0, 0, 0, 0, 1, 0)) none)
       (cond (Nat.beq pc 44) (some (.goto (-40), 3, 4, 0, 0, 0, 0, 0)) none))
      (cond (Nat.blt pc 48)
       (cond (Nat.beq pc 47) (some (.iload_n 1, 1, 0, 0, 0, 0, 0, 0)) none)
       (cond (Nat.beq pc 48) (some (.ireturn, 1, 0, 0, 0, 0, 0, 0)) none)))))) none
end
section
-- PrintHouseModel.isKnown (I)Z
def zc117 (pc : Nat) : Option z_I := cond (Nat.blt pc 34)
  (cond (Nat.blt pc 17)
   (cond (Nat.blt pc 6)
    (cond (Nat.blt pc 2)
     (cond (Nat.blt pc 1)
      (cond (Nat.beq pc 0) (some (.iload_n 0, 1, 0, 0, 0, 0, 0, 0)) none)
      (cond (Nat.beq pc 1) (some (.iconst 2, 1, 0, 0, 0, 0, 2, 0)) none))
     (cond (Nat.blt pc 5)
      (cond (Nat.beq pc 2) (some (.if_icmp .eq 26, 3, 28, 0, 0, 0, 0, 0)) none)
      (cond (Nat.beq pc 5) (some (.iload_n 0, 1, 0, 0, 0, 0, 0, 0)) none)))
    (cond (Nat.blt pc 10)
     (cond (Nat.blt pc 8)
      (cond (Nat.beq pc 6) (some (.bipush 8, 2, 0, 0, 0, 0, 8, 0)) none)
      (cond (Nat.beq pc 8) (some (.bipush 10, 2, 0, 0, 0, 0, 10, 0)) none))
     (cond (Nat.blt pc 13)
      (cond (Nat.beq pc 10) (some (.invokestatic 97, 3, 108, 0, 0, 2034, 0, 0)) none)
      (cond (Nat.blt pc 16)
       (cond (Nat.beq pc 13) (some (.ifCond .ne 15, 3, 28, 0, 0, 0, 0, 0)) none)
       (cond (Nat.beq pc 16) (some (.iload_n 0, 1, 0, 0, 0, 0, 0, 0)) none)))))
   (cond (Nat.blt pc 25)
    (cond (Nat.blt pc 22)
     (cond (Nat.blt pc 19)
      (cond (Nat.beq pc 17) (some (.bipush 12, 2, 0, 0, 0, 0, 12, 0)) none)
      (cond (Nat.beq pc 19) (some (.if_icmp .eq 9, 3, 28, 0, 0, 0, 0, 0)) none))
     (cond (Nat.blt pc 23)
      (cond (Nat.beq pc 22) (some (.iload_n 0, 1, 0, 0, 0, 0, 0, 0)) none)
      (cond (Nat.beq pc 23) (some (.bipush 13, 2, 0, 0, 0, 0, 13, 0)) none)))
    (cond (Nat.blt pc 29)
     (cond (Nat.blt pc 28)
      (cond (Nat.beq pc 25) (some (.if_icmp .ne 7, 3, 32, 0, 0, 0, 0, 0)) none)
      (cond (Nat.beq pc 28) (some (.iconst 1, 1, 0, 0, 0, 0, 1, 0)) none))
     (cond (Nat.blt pc 32)
      (cond (Nat.beq pc 29) (some (.goto 4, 3, 33, 0, 0, 0, 0, 0)) none)
      (cond (Nat.blt pc 33)
       (cond (Nat.beq pc 32) (some (.iconst 0, 1, 0, 0, 0, 0, 0, 0)) none)
       (cond (Nat.beq pc 33) (some (.ireturn, 1, 0, 0, 1, 0, 0, 0)) none)))))) none
-- PrintHouseModel.printable ()I
def zc118 (pc : Nat) : Option z_I := cond (Nat.blt pc 105)
  (cond (Nat.blt pc 51)
   (cond (Nat.blt pc 25)
    (cond (Nat.blt pc 15)
     (cond (Nat.blt pc 5)
      (cond (Nat.blt pc 3)
       (cond (Nat.beq pc 0) (some (.sipush 250, 3, 0, 0, 0, 0, 250, 0)) none)
       (cond (Nat.blt pc 4)
        (cond (Nat.beq pc 3) (some (.istore_n 1, 1, 0, 0, 0, 0, 0, 0)) none)
        (cond (Nat.beq pc 4) (some (.aload_n 0, 1, 0, 0, 0, 0, 0, 0)) none)))
      (cond (Nat.blt pc 11)
       (cond (Nat.blt pc 8)
        (cond (Nat.beq pc 5) (some (.getfield 94, 3, 8, 18, 1, 1788, 0, 0)) none)
        (cond (Nat.beq pc 8) (some (.ifCond .eq 35, 3, 43, 0, 0, 0, 0, 0)) none))
       (cond (Nat.blt pc 12)
        (cond (Nat.beq pc 11) (some (.aload_n 0, 1, 0, 0, 0, 0, 0, 0)) none)
        (cond (Nat.beq pc 12) (some (.getfield 13, 3, 8, 5, 2, 1762, 0, 0)) none))))
     (cond (Nat.blt pc 19)
      (cond (Nat.blt pc 16)
       (cond (Nat.beq pc 15) (some (.iload_n 1, 1, 0, 0, 0, 0, 0, 0)) none)
       (cond (Nat.blt pc 18)
        (cond (Nat.beq pc 16) (some (.bipush 6, 2, 0, 0, 0, 0, 6, 0)) none)
        (cond (Nat.beq pc 18) (some (.iadd, 1, 0, 0, 0, 0, 0, 0)) none)))
      (cond (Nat.blt pc 21)
       (cond (Nat.blt pc 20)
        (cond (Nat.beq pc 19) (some (.iaload, 1, 0, 0, 0, 0, 0, 0)) none)
        (cond (Nat.beq pc 20) (some (.iconst 1, 1, 0, 0, 0, 0, 1, 0)) none))
       (cond (Nat.blt pc 24)
        (cond (Nat.beq pc 21) (some (.if_icmp .ne 26, 3, 47, 0, 0, 0, 0, 0)) none)
        (cond (Nat.beq pc 24) (some (.aload_n 0, 1, 0, 0, 0, 0, 0, 0)) none)))))
    (cond (Nat.blt pc 38)
     (cond (Nat.blt pc 32)
      (cond (Nat.blt pc 28)
       (cond (Nat.beq pc 25) (some (.getfield 105, 3, 8, 19, 1, 1790, 0, 0)) none)
       (cond (Nat.blt pc 31)
        (cond (Nat.beq pc 28) (some (.ifCond .eq 19, 3, 47, 0, 0, 0, 0, 0)) none)
        (cond (Nat.beq pc 31) (some (.aload_n 0, 1, 0, 0, 0, 0, 0, 0)) none)))
      (cond (Nat.blt pc 36)
       (cond (Nat.blt pc 35)
        (cond (Nat.beq pc 32) (some (.getfield 13, 3, 8, 5, 2, 1762, 0, 0)) none)
        (cond (Nat.beq pc 35) (some (.iload_n 1, 1, 0, 0, 0, 0, 0, 0)) none))
       (cond (Nat.blt pc 37)
        (cond (Nat.beq pc 36) (some (.iconst 4, 1, 0, 0, 0, 0, 4, 0)) none)
        (cond (Nat.beq pc 37) (some (.iadd, 1, 0, 0, 0, 0, 0, 0)) none))))
     (cond (Nat.blt pc 43)
      (cond (Nat.blt pc 39)
       (cond (Nat.beq pc 38) (some (.iaload, 1, 0, 0, 0, 0, 0, 0)) none)
       (cond (Nat.blt pc 40)
        (cond (Nat.beq pc 39) (some (.iconst 1, 1, 0, 0, 0, 0, 1, 0)) none)
        (cond (Nat.beq pc 40) (some (.if_icmp .eq 7, 3, 47, 0, 0, 0, 0, 0)) none)))
      (cond (Nat.blt pc 47)
       (cond (Nat.blt pc 46)
        (cond (Nat.beq pc 43) (some (.sipush 1035, 3, 0, 0, 0, 0, 1035, 0)) none)
        (cond (Nat.beq pc 46) (some (.ireturn, 1, 0, 0, 0, 0, 0, 0)) none))
       (cond (Nat.blt pc 48)
        (cond (Nat.beq pc 47) (some (.aload_n 0, 1, 0, 0, 0, 0, 0, 0)) none)
        (cond (Nat.beq pc 48) (some (.invokevirtual 143, 3, 113, 0, 0, 2070, 0, 0)) none))))))
   (cond (Nat.blt pc 75)
    (cond (Nat.blt pc 61)
     (cond (Nat.blt pc 56)
      (cond (Nat.blt pc 52)
       (cond (Nat.beq pc 51) (some (.istore_n 2, 1, 0, 0, 0, 0, 0, 0)) none)
       (cond (Nat.blt pc 53)
        (cond (Nat.beq pc 52) (some (.aload_n 0, 1, 0, 0, 0, 0, 0, 0)) none)
        (cond (Nat.beq pc 53) (some (.getfield 13, 3, 8, 5, 2, 1762, 0, 0)) none)))
      (cond (Nat.blt pc 59)
       (cond (Nat.blt pc 57)
        (cond (Nat.beq pc 56) (some (.iload_n 1, 1, 0, 0, 0, 0, 0, 0)) none)
        (cond (Nat.beq pc 57) (some (.bipush 7, 2, 0, 0, 0, 0, 7, 0)) none))
       (cond (Nat.blt pc 60)
        (cond (Nat.beq pc 59) (some (.iadd, 1, 0, 0, 0, 0, 0, 0)) none)
        (cond (Nat.beq pc 60) (some (.iload_n 2, 1, 0, 0, 0, 0, 0, 0)) none))))
     (cond (Nat.blt pc 66)
      (cond (Nat.blt pc 62)
       (cond (Nat.beq pc 61) (some (.iastore, 1, 0, 0, 0, 0, 0, 0)) none)
       (cond (Nat.blt pc 63)
        (cond (Nat.beq pc 62) (some (.iload_n 2, 1, 0, 0, 0, 0, 0, 0)) none)
        (cond (Nat.beq pc 63) (some (.ifCond .ne 9, 3, 72, 0, 0, 0, 0, 0)) none)))
      (cond (Nat.blt pc 72)
       (cond (Nat.blt pc 69)
        (cond (Nat.beq pc 66) (some (.sipush 1041, 3, 0, 0, 0, 0, 1041, 0)) none)
        (cond (Nat.beq pc 69) (some (.goto 35, 3, 104, 0, 0, 0, 0, 0)) none))
       (cond (Nat.blt pc 73)
        (cond (Nat.beq pc 72) (some (.iload_n 2, 1, 0, 0, 0, 0, 0, 0)) none)
        (cond (Nat.beq pc 73) (some (.bipush 6, 2, 0, 0, 0, 0, 6, 0)) none)))))
    (cond (Nat.blt pc 90)
     (cond (Nat.blt pc 84)
      (cond (Nat.blt pc 78)
       (cond (Nat.beq pc 75) (some (.if_icmp .le 9, 3, 84, 0, 0, 0, 0, 0)) none)
       (cond (Nat.blt pc 81)
        (cond (Nat.beq pc 78) (some (.sipush 1032, 3, 0, 0, 0, 0, 1032, 0)) none)
        (cond (Nat.beq pc 81) (some (.goto 23, 3, 104, 0, 0, 0, 0, 0)) none)))
      (cond (Nat.blt pc 88)
       (cond (Nat.blt pc 85)
        (cond (Nat.beq pc 84) (some (.aload_n 0, 1, 0, 0, 0, 0, 0, 0)) none)
        (cond (Nat.beq pc 85) (some (.invokevirtual 146, 3, 116, 0, 0, 2086, 0, 0)) none))
       (cond (Nat.blt pc 89)
        (cond (Nat.beq pc 88) (some (.iconst 1, 1, 0, 0, 0, 0, 1, 0)) none)
        (cond (Nat.beq pc 89) (some (.iadd, 1, 0, 0, 0, 0, 0, 0)) none))))
     (cond (Nat.blt pc 97)
      (cond (Nat.blt pc 92)
       (cond (Nat.blt pc 91)
        (cond (Nat.beq pc 90) (some (.iload_n 2, 1, 0, 0, 0, 0, 0, 0)) none)
        (cond (Nat.beq pc 91) (some (.iadd, 1, 0, 0, 0, 0, 0, 0)) none))
       (cond (Nat.blt pc 94)
        (cond (Nat.beq pc 92) (some (.bipush 36, 2, 0, 0, 0, 0, 36, 0)) none)
        (cond (Nat.beq pc 94) (some (.if_icmp .le 9, 3, 103, 0, 0, 0, 0, 0)) none)))
      (cond (Nat.blt pc 103)
       (cond (Nat.blt pc 100)
        (cond (Nat.beq pc 97) (some (.sipush 1287, 3, 0, 0, 0, 0, 1287, 0)) none)
        (cond (Nat.beq pc 100) (some (.goto 4, 3, 104, 0, 0, 0, 0, 0)) none))
       (cond (Nat.blt pc 104)
        (cond (Nat.beq pc 103) (some (.iconst 0, 1, 0, 0, 0, 0, 0, 0)) none)
        (cond (Nat.beq pc 104) (some (.ireturn, 1, 0, 0, 0, 0, 0, 0)) none))))))) none
-- PrintHouseModel.statusOf (I)I
def zc119 (pc : Nat) : Option z_I := cond (Nat.blt pc 196)
  (cond (Nat.blt pc 102)
   (cond (Nat.blt pc 47)
    (cond (Nat.blt pc 22)
     (cond (Nat.blt pc 12)
      (cond (Nat.blt pc 5)
       (cond (Nat.blt pc 1)
        (cond (Nat.beq pc 0) (some (.aload_n 0, 1, 0, 0, 0, 0, 0, 0)) none)
        (cond (Nat.blt pc 4)
         (cond (Nat.beq pc 1) (some (.getfield 44, 3, 8, 2, 0, 1756, 0, 0)) none)
         (cond (Nat.beq pc 4) (some (.iconst 1, 1, 0, 0, 0, 0, 1, 0)) none)))
       (cond (Nat.blt pc 8)
        (cond (Nat.beq pc 5) (some (.if_icmp .le 27, 3, 32, 0, 0, 0, 0, 0)) none)
        (cond (Nat.blt pc 9)
         (cond (Nat.beq pc 8) (some (.aload_n 0, 1, 0, 0, 0, 0, 0, 0)) none)
         (cond (Nat.beq pc 9) (some (.getfield 7, 3, 8, 3, 2, 1758, 0, 0)) none))))
      (cond (Nat.blt pc 15)
       (cond (Nat.blt pc 13)
        (cond (Nat.beq pc 12) (some (.iconst 0, 1, 0, 0, 0, 0, 0, 0)) none)
        (cond (Nat.blt pc 14)
         (cond (Nat.beq pc 13) (some (.iaload, 1, 0, 0, 0, 0, 0, 0)) none)
         (cond (Nat.beq pc 14) (some (.iconst 1, 1, 0, 0, 0, 0, 1, 0)) none)))
       (cond (Nat.blt pc 18)
        (cond (Nat.beq pc 15) (some (.if_icmp .ne 13, 3, 28, 0, 0, 0, 0, 0)) none)
        (cond (Nat.blt pc 19)
         (cond (Nat.beq pc 18) (some (.aload_n 0, 1, 0, 0, 0, 0, 0, 0)) none)
         (cond (Nat.beq pc 19) (some (.getfield 7, 3, 8, 3, 2, 1758, 0, 0)) none)))))
     (cond (Nat.blt pc 32)
      (cond (Nat.blt pc 25)
       (cond (Nat.blt pc 23)
        (cond (Nat.beq pc 22) (some (.iconst 1, 1, 0, 0, 0, 0, 1, 0)) none)
        (cond (Nat.blt pc 24)
         (cond (Nat.beq pc 23) (some (.iaload, 1, 0, 0, 0, 0, 0, 0)) none)
         (cond (Nat.beq pc 24) (some (.iconst 1, 1, 0, 0, 0, 0, 1, 0)) none)))
       (cond (Nat.blt pc 28)
        (cond (Nat.beq pc 25) (some (.if_icmp .eq 7, 3, 32, 0, 0, 0, 0, 0)) none)
        (cond (Nat.blt pc 31)
         (cond (Nat.beq pc 28) (some (.sipush 1283, 3, 0, 0, 0, 0, 1283, 0)) none)
         (cond (Nat.beq pc 31) (some (.ireturn, 1, 0, 0, 0, 0, 0, 0)) none))))
      (cond (Nat.blt pc 37)
       (cond (Nat.blt pc 33)
        (cond (Nat.beq pc 32) (some (.aload_n 0, 1, 0, 0, 0, 0, 0, 0)) none)
        (cond (Nat.blt pc 36)
         (cond (Nat.beq pc 33) (some (.invokevirtual 149, 3, 111, 0, 0, 1956, 0, 0)) none)
         (cond (Nat.beq pc 36) (some (.aload_n 0, 1, 0, 0, 0, 0, 0, 0)) none)))
       (cond (Nat.blt pc 43)
        (cond (Nat.blt pc 40)
         (cond (Nat.beq pc 37) (some (.getfield 52, 3, 8, 13, 1, 1778, 0, 0)) none)
         (cond (Nat.beq pc 40) (some (.ifCond .ne 7, 3, 47, 0, 0, 0, 0, 0)) none))
        (cond (Nat.blt pc 46)
         (cond (Nat.beq pc 43) (some (.sipush 1024, 3, 0, 0, 0, 0, 1024, 0)) none)
         (cond (Nat.beq pc 46) (some (.ireturn, 1, 0, 0, 0, 0, 0, 0)) none))))))
    (cond (Nat.blt pc 72)
     (cond (Nat.blt pc 59)
      (cond (Nat.blt pc 54)
       (cond (Nat.blt pc 48)
        (cond (Nat.beq pc 47) (some (.iload_n 1, 1, 0, 0, 0, 0, 0, 0)) none)
        (cond (Nat.blt pc 51)
         (cond (Nat.beq pc 48) (some (.invokestatic 152, 3, 117, 0, 0, 2056, 0, 0)) none)
         (cond (Nat.beq pc 51) (some (.ifCond .ne 7, 3, 58, 0, 0, 0, 0, 0)) none)))
       (cond (Nat.blt pc 57)
        (cond (Nat.beq pc 54) (some (.sipush 1281, 3, 0, 0, 0, 0, 1281, 0)) none)
        (cond (Nat.blt pc 58)
         (cond (Nat.beq pc 57) (some (.ireturn, 1, 0, 0, 0, 0, 0, 0)) none)
         (cond (Nat.beq pc 58) (some (.iload_n 1, 1, 0, 0, 0, 0, 0, 0)) none))))
      (cond (Nat.blt pc 64)
       (cond (Nat.blt pc 60)
        (cond (Nat.beq pc 59) (some (.iconst 2, 1, 0, 0, 0, 0, 2, 0)) none)
        (cond (Nat.blt pc 63)
         (cond (Nat.beq pc 60) (some (.if_icmp .ne 8, 3, 68, 0, 0, 0, 0, 0)) none)
         (cond (Nat.beq pc 63) (some (.aload_n 0, 1, 0, 0, 0, 0, 0, 0)) none)))
       (cond (Nat.blt pc 68)
        (cond (Nat.blt pc 67)
         (cond (Nat.beq pc 64) (some (.invokevirtual 155, 3, 118, 0, 0, 2062, 0, 0)) none)
         (cond (Nat.beq pc 67) (some (.ireturn, 1, 0, 0, 0, 0, 0, 0)) none))
        (cond (Nat.blt pc 69)
         (cond (Nat.beq pc 68) (some (.aload_n 0, 1, 0, 0, 0, 0, 0, 0)) none)
         (cond (Nat.beq pc 69) (some (.getfield 124, 3, 8, 15, 1, 1782, 0, 0)) none)))))
     (cond (Nat.blt pc 86)
      (cond (Nat.blt pc 79)
       (cond (Nat.blt pc 75)
        (cond (Nat.beq pc 72) (some (.ifCond .ne 27, 3, 99, 0, 0, 0, 0, 0)) none)
        (cond (Nat.blt pc 76)
         (cond (Nat.beq pc 75) (some (.aload_n 0, 1, 0, 0, 0, 0, 0, 0)) none)
         (cond (Nat.beq pc 76) (some (.getfield 130, 3, 8, 20, 0, 1792, 0, 0)) none)))
       (cond (Nat.blt pc 80)
        (cond (Nat.beq pc 79) (some (.aload_n 0, 1, 0, 0, 0, 0, 0, 0)) none)
        (cond (Nat.blt pc 83)
         (cond (Nat.beq pc 80) (some (.getfield 44, 3, 8, 2, 0, 1756, 0, 0)) none)
         (cond (Nat.beq pc 83) (some (.if_icmp .lt 16, 3, 99, 0, 0, 0, 0, 0)) none))))
      (cond (Nat.blt pc 92)
       (cond (Nat.blt pc 87)
        (cond (Nat.beq pc 86) (some (.iload_n 1, 1, 0, 0, 0, 0, 0, 0)) none)
        (cond (Nat.blt pc 89)
         (cond (Nat.beq pc 87) (some (.bipush 10, 2, 0, 0, 0, 0, 10, 0)) none)
         (cond (Nat.beq pc 89) (some (.if_icmp .eq 14, 3, 103, 0, 0, 0, 0, 0)) none)))
       (cond (Nat.blt pc 96)
        (cond (Nat.blt pc 93)
         (cond (Nat.beq pc 92) (some (.aload_n 0, 1, 0, 0, 0, 0, 0, 0)) none)
         (cond (Nat.beq pc 93) (some (.getfield 82, 3, 8, 16, 1, 1784, 0, 0)) none))
        (cond (Nat.blt pc 99)
         (cond (Nat.beq pc 96) (some (.ifCond .ne 7, 3, 103, 0, 0, 0, 0, 0)) none)
         (cond (Nat.beq pc 99) (some (.sipush 1024, 3, 0, 0, 0, 0, 1024, 0)) none)))))))
   (cond (Nat.blt pc 143)
    (cond (Nat.blt pc 124)
     (cond (Nat.blt pc 111)
      (cond (Nat.blt pc 106)
       (cond (Nat.blt pc 103)
        (cond (Nat.beq pc 102) (some (.ireturn, 1, 0, 0, 0, 0, 0, 0)) none)
        (cond (Nat.blt pc 104)
         (cond (Nat.beq pc 103) (some (.iload_n 1, 1, 0, 0, 0, 0, 0, 0)) none)
         (cond (Nat.beq pc 104) (some (.bipush 10, 2, 0, 0, 0, 0, 10, 0)) none)))
       (cond (Nat.blt pc 109)
        (cond (Nat.beq pc 106) (some (.if_icmp .ne 5, 3, 111, 0, 0, 0, 0, 0)) none)
        (cond (Nat.blt pc 110)
         (cond (Nat.beq pc 109) (some (.iconst 0, 1, 0, 0, 0, 0, 0, 0)) none)
         (cond (Nat.beq pc 110) (some (.ireturn, 1, 0, 0, 0, 0, 0, 0)) none))))
      (cond (Nat.blt pc 116)
       (cond (Nat.blt pc 112)
        (cond (Nat.beq pc 111) (some (.aload_n 0, 1, 0, 0, 0, 0, 0, 0)) none)
        (cond (Nat.blt pc 113)
         (cond (Nat.beq pc 112) (some (.aload_n 0, 1, 0, 0, 0, 0, 0, 0)) none)
         (cond (Nat.beq pc 113) (some (.getfield 85, 3, 8, 17, 0, 1786, 0, 0)) none)))
       (cond (Nat.blt pc 120)
        (cond (Nat.blt pc 119)
         (cond (Nat.beq pc 116) (some (.invokevirtual 158, 3, 114, 0, 0, 2102, 0, 0)) none)
         (cond (Nat.beq pc 119) (some (.istore_n 2, 1, 0, 0, 0, 0, 0, 0)) none))
        (cond (Nat.blt pc 121)
         (cond (Nat.beq pc 120) (some (.iload_n 2, 1, 0, 0, 0, 0, 0, 0)) none)
         (cond (Nat.beq pc 121) (some (.ifCond .ge 7, 3, 128, 0, 0, 0, 0, 0)) none)))))
     (cond (Nat.blt pc 135)
      (cond (Nat.blt pc 129)
       (cond (Nat.blt pc 127)
        (cond (Nat.beq pc 124) (some (.sipush 1030, 3, 0, 0, 0, 0, 1030, 0)) none)
        (cond (Nat.blt pc 128)
         (cond (Nat.beq pc 127) (some (.ireturn, 1, 0, 0, 0, 0, 0, 0)) none)
         (cond (Nat.beq pc 128) (some (.aload_n 0, 1, 0, 0, 0, 0, 0, 0)) none)))
       (cond (Nat.blt pc 132)
        (cond (Nat.beq pc 129) (some (.getfield 13, 3, 8, 5, 2, 1762, 0, 0)) none)
        (cond (Nat.blt pc 134)
         (cond (Nat.beq pc 132) (some (.bipush 10, 2, 0, 0, 0, 0, 10, 0)) none)
         (cond (Nat.beq pc 134) (some (.iload_n 2, 1, 0, 0, 0, 0, 0, 0)) none))))
      (cond (Nat.blt pc 138)
       (cond (Nat.blt pc 136)
        (cond (Nat.beq pc 135) (some (.imul, 1, 0, 0, 0, 0, 0, 0)) none)
        (cond (Nat.blt pc 137)
         (cond (Nat.beq pc 136) (some (.iconst 1, 1, 0, 0, 0, 0, 1, 0)) none)
         (cond (Nat.beq pc 137) (some (.iadd, 1, 0, 0, 0, 0, 0, 0)) none)))
       (cond (Nat.blt pc 140)
        (cond (Nat.blt pc 139)
         (cond (Nat.beq pc 138) (some (.iaload, 1, 0, 0, 0, 0, 0, 0)) none)
         (cond (Nat.beq pc 139) (some (.istore_n 3, 1, 0, 0, 0, 0, 0, 0)) none))
        (cond (Nat.blt pc 141)
         (cond (Nat.beq pc 140) (some (.iload_n 1, 1, 0, 0, 0, 0, 0, 0)) none)
         (cond (Nat.beq pc 141) (some (.bipush 9, 2, 0, 0, 0, 0, 9, 0)) none))))))
    (cond (Nat.blt pc 169)
     (cond (Nat.blt pc 155)
      (cond (Nat.blt pc 149)
       (cond (Nat.blt pc 146)
        (cond (Nat.beq pc 143) (some (.if_icmp .eq 33, 3, 176, 0, 0, 0, 0, 0)) none)
        (cond (Nat.blt pc 147)
         (cond (Nat.beq pc 146) (some (.iload_n 1, 1, 0, 0, 0, 0, 0, 0)) none)
         (cond (Nat.beq pc 147) (some (.bipush 8, 2, 0, 0, 0, 0, 8, 0)) none)))
       (cond (Nat.blt pc 152)
        (cond (Nat.beq pc 149) (some (.if_icmp .ne 12, 3, 161, 0, 0, 0, 0, 0)) none)
        (cond (Nat.blt pc 153)
         (cond (Nat.beq pc 152) (some (.iload_n 3, 1, 0, 0, 0, 0, 0, 0)) none)
         (cond (Nat.beq pc 153) (some (.bipush 7, 2, 0, 0, 0, 0, 7, 0)) none))))
      (cond (Nat.blt pc 162)
       (cond (Nat.blt pc 158)
        (cond (Nat.beq pc 155) (some (.if_icmp .ge 25, 3, 180, 0, 0, 0, 0, 0)) none)
        (cond (Nat.blt pc 161)
         (cond (Nat.beq pc 158) (some (.goto 18, 3, 176, 0, 0, 0, 0, 0)) none)
         (cond (Nat.beq pc 161) (some (.iload_n 3, 1, 0, 0, 0, 0, 0, 0)) none)))
       (cond (Nat.blt pc 165)
        (cond (Nat.blt pc 163)
         (cond (Nat.beq pc 162) (some (.iload_n 1, 1, 0, 0, 0, 0, 0, 0)) none)
         (cond (Nat.beq pc 163) (some (.bipush 12, 2, 0, 0, 0, 0, 12, 0)) none))
        (cond (Nat.blt pc 168)
         (cond (Nat.beq pc 165) (some (.if_icmp .ne 7, 3, 172, 0, 0, 0, 0, 0)) none)
         (cond (Nat.beq pc 168) (some (.iconst 3, 1, 0, 0, 0, 0, 3, 0)) none)))))
     (cond (Nat.blt pc 181)
      (cond (Nat.blt pc 176)
       (cond (Nat.blt pc 172)
        (cond (Nat.beq pc 169) (some (.goto 4, 3, 173, 0, 0, 0, 0, 0)) none)
        (cond (Nat.blt pc 173)
         (cond (Nat.beq pc 172) (some (.iconst 4, 1, 0, 0, 0, 0, 4, 0)) none)
         (cond (Nat.beq pc 173) (some (.if_icmp .ne 7, 3, 180, 0, 0, 0, 0, 0)) none)))
       (cond (Nat.blt pc 177)
        (cond (Nat.beq pc 176) (some (.iconst 1, 1, 0, 0, 0, 0, 1, 0)) none)
        (cond (Nat.blt pc 180)
         (cond (Nat.beq pc 177) (some (.goto 4, 3, 181, 0, 0, 0, 0, 0)) none)
         (cond (Nat.beq pc 180) (some (.iconst 0, 1, 0, 0, 0, 0, 0, 0)) none))))
      (cond (Nat.blt pc 188)
       (cond (Nat.blt pc 183)
        (cond (Nat.beq pc 181) (some (.istore 4, 2, 0, 0, 0, 0, 0, 0)) none)
        (cond (Nat.blt pc 185)
         (cond (Nat.beq pc 183) (some (.iload 4, 2, 0, 0, 0, 0, 0, 0)) none)
         (cond (Nat.beq pc 185) (some (.ifCond .eq 7, 3, 192, 0, 0, 0, 0, 0)) none)))
       (cond (Nat.blt pc 192)
        (cond (Nat.blt pc 189)
         (cond (Nat.beq pc 188) (some (.iconst 0, 1, 0, 0, 0, 0, 0, 0)) none)
         (cond (Nat.beq pc 189) (some (.goto 6, 3, 195, 0, 0, 0, 0, 0)) none))
        (cond (Nat.blt pc 195)
         (cond (Nat.beq pc 192) (some (.sipush 1028, 3, 0, 0, 0, 0, 1028, 0)) none)
         (cond (Nat.beq pc 195) (some (.ireturn, 1, 0, 0, 0, 0, 0, 0)) none)))))))) none
-- PrintHouseModel.write (I)Z
def zc120 (pc : Nat) : Option z_I := cond (Nat.blt pc 66)
  (cond (Nat.blt pc 32)
   (cond (Nat.blt pc 15)
    (cond (Nat.blt pc 4)
     (cond (Nat.blt pc 2)
      (cond (Nat.blt pc 1)
       (cond (Nat.beq pc 0) (some (.iconst 0, 1, 0, 0, 0, 0, 0, 0)) none)
       (cond (Nat.beq pc 1) (some (.istore_n 2, 1, 0, 0, 0, 0, 0, 0)) none))
      (cond (Nat.blt pc 3)
       (cond (Nat.beq pc 2) (some (.iload_n 2, 1, 0, 0, 0, 0, 0, 0)) none)
       (cond (Nat.beq pc 3) (some (.iload_n 1, 1, 0, 0, 0, 0, 0, 0)) none)))
     (cond (Nat.blt pc 8)
      (cond (Nat.blt pc 7)
       (cond (Nat.beq pc 4) (some (.if_icmp .ge 60, 3, 64, 0, 0, 0, 0, 0)) none)
       (cond (Nat.beq pc 7) (some (.aload_n 0, 1, 0, 0, 0, 0, 0, 0)) none))
      (cond (Nat.blt pc 11)
       (cond (Nat.beq pc 8) (some (.getfield 161, 3, 8, 11, 1, 1774, 0, 0)) none)
       (cond (Nat.blt pc 14)
        (cond (Nat.beq pc 11) (some (.ifCond .eq 16, 3, 27, 0, 0, 0, 0, 0)) none)
        (cond (Nat.beq pc 14) (some (.aload_n 0, 1, 0, 0, 0, 0, 0, 0)) none)))))
    (cond (Nat.blt pc 25)
     (cond (Nat.blt pc 21)
      (cond (Nat.blt pc 18)
       (cond (Nat.beq pc 15) (some (.getfield 164, 3, 8, 12, 0, 1776, 0, 0)) none)
       (cond (Nat.beq pc 18) (some (.ifCond .ne 9, 3, 27, 0, 0, 0, 0, 0)) none))
      (cond (Nat.blt pc 22)
       (cond (Nat.beq pc 21) (some (.aload_n 0, 1, 0, 0, 0, 0, 0, 0)) none)
       (cond (Nat.beq pc 22) (some (.invokevirtual 167, 3, 121, 0, 0, 2134, 0, 0)) none)))
     (cond (Nat.blt pc 27)
      (cond (Nat.blt pc 26)
       (cond (Nat.beq pc 25) (some (.iconst 0, 1, 0, 0, 0, 0, 0, 0)) none)
       (cond (Nat.beq pc 26) (some (.ireturn, 1, 0, 0, 1, 0, 0, 0)) none))
      (cond (Nat.blt pc 28)
       (cond (Nat.beq pc 27) (some (.aload_n 0, 1, 0, 0, 0, 0, 0, 0)) none)
       (cond (Nat.blt pc 29)
        (cond (Nat.beq pc 28) (some (.dup, 1, 0, 0, 0, 0, 0, 0)) none)
        (cond (Nat.beq pc 29) (some (.getfield 164, 3, 8, 12, 0, 1776, 0, 0)) none))))))
   (cond (Nat.blt pc 49)
    (cond (Nat.blt pc 40)
     (cond (Nat.blt pc 36)
      (cond (Nat.blt pc 33)
       (cond (Nat.beq pc 32) (some (.aload_n 0, 1, 0, 0, 0, 0, 0, 0)) none)
       (cond (Nat.beq pc 33) (some (.getfield 161, 3, 8, 11, 1, 1774, 0, 0)) none))
      (cond (Nat.blt pc 39)
       (cond (Nat.beq pc 36) (some (.ifCond .eq 7, 3, 43, 0, 0, 0, 0, 0)) none)
       (cond (Nat.beq pc 39) (some (.iconst 1, 1, 0, 0, 0, 0, 1, 0)) none)))
     (cond (Nat.blt pc 44)
      (cond (Nat.blt pc 43)
       (cond (Nat.beq pc 40) (some (.goto 4, 3, 44, 0, 0, 0, 0, 0)) none)
       (cond (Nat.beq pc 43) (some (.iconst 0, 1, 0, 0, 0, 0, 0, 0)) none))
      (cond (Nat.blt pc 45)
       (cond (Nat.beq pc 44) (some (.isub, 1, 0, 0, 0, 0, 0, 0)) none)
       (cond (Nat.blt pc 48)
        (cond (Nat.beq pc 45) (some (.putfield 164, 3, 8, 12, 0, 1776, 0, 0)) none)
        (cond (Nat.beq pc 48) (some (.aload_n 0, 1, 0, 0, 0, 0, 0, 0)) none)))))
    (cond (Nat.blt pc 55)
     (cond (Nat.blt pc 53)
      (cond (Nat.blt pc 50)
       (cond (Nat.beq pc 49) (some (.dup, 1, 0, 0, 0, 0, 0, 0)) none)
       (cond (Nat.beq pc 50) (some (.getfield 170, 3, 8, 8, 0, 1768, 0, 0)) none))
      (cond (Nat.blt pc 54)
       (cond (Nat.beq pc 53) (some (.iconst 1, 1, 0, 0, 0, 0, 1, 0)) none)
       (cond (Nat.beq pc 54) (some (.iadd, 1, 0, 0, 0, 0, 0, 0)) none)))
     (cond (Nat.blt pc 61)
      (cond (Nat.blt pc 58)
       (cond (Nat.beq pc 55) (some (.putfield 170, 3, 8, 8, 0, 1768, 0, 0)) none)
       (cond (Nat.beq pc 58) (some (.iinc 2 1, 3, 0, 0, 0, 0, 1, 0)) none))
      (cond (Nat.blt pc 64)
       (cond (Nat.beq pc 61) (some (.goto (-59), 3, 2, 0, 0, 0, 0, 0)) none)
       (cond (Nat.blt pc 65)
        (cond (Nat.beq pc 64) (some (.iconst 1, 1, 0, 0, 0, 0, 1, 0)) none)
        (cond (Nat.beq pc 65) (some (.ireturn, 1, 0, 0, 1, 0, 0, 0)) none))))))) none
-- PrintHouseModel.goDown ()V
def zc121 (pc : Nat) : Option z_I := cond (Nat.blt pc 76)
  (cond (Nat.blt pc 37)
   (cond (Nat.blt pc 17)
    (cond (Nat.blt pc 7)
     (cond (Nat.blt pc 2)
      (cond (Nat.blt pc 1)
       (cond (Nat.beq pc 0) (some (.aload_n 0, 1, 0, 0, 0, 0, 0, 0)) none)
       (cond (Nat.beq pc 1) (some (.iconst 1, 1, 0, 0, 0, 0, 1, 0)) none))
      (cond (Nat.blt pc 5)
       (cond (Nat.beq pc 2) (some (.putfield 173, 3, 8, 1, 1, 1754, 0, 0)) none)
       (cond (Nat.blt pc 6)
        (cond (Nat.beq pc 5) (some (.aload_n 0, 1, 0, 0, 0, 0, 0, 0)) none)
        (cond (Nat.beq pc 6) (some (.iconst 0, 1, 0, 0, 0, 0, 0, 0)) none))))
     (cond (Nat.blt pc 12)
      (cond (Nat.blt pc 10)
       (cond (Nat.beq pc 7) (some (.putfield 161, 3, 8, 11, 1, 1774, 0, 0)) none)
       (cond (Nat.blt pc 11)
        (cond (Nat.beq pc 10) (some (.aload_n 0, 1, 0, 0, 0, 0, 0, 0)) none)
        (cond (Nat.beq pc 11) (some (.iconst (-1), 1, 0, 0, 0, 0, (-1), 0)) none)))
      (cond (Nat.blt pc 15)
       (cond (Nat.beq pc 12) (some (.putfield 26, 3, 8, 23, 0, 1798, 0, 0)) none)
       (cond (Nat.blt pc 16)
        (cond (Nat.beq pc 15) (some (.iconst 0, 1, 0, 0, 0, 0, 0, 0)) none)
        (cond (Nat.beq pc 16) (some (.istore_n 1, 1, 0, 0, 0, 0, 0, 0)) none)))))
    (cond (Nat.blt pc 29)
     (cond (Nat.blt pc 22)
      (cond (Nat.blt pc 18)
       (cond (Nat.beq pc 17) (some (.iload_n 1, 1, 0, 0, 0, 0, 0, 0)) none)
       (cond (Nat.blt pc 19)
        (cond (Nat.beq pc 18) (some (.aload_n 0, 1, 0, 0, 0, 0, 0, 0)) none)
        (cond (Nat.beq pc 19) (some (.getfield 137, 3, 8, 4, 0, 1760, 0, 0)) none)))
      (cond (Nat.blt pc 25)
       (cond (Nat.beq pc 22) (some (.if_icmp .ge 53, 3, 75, 0, 0, 0, 0, 0)) none)
       (cond (Nat.blt pc 26)
        (cond (Nat.beq pc 25) (some (.aload_n 0, 1, 0, 0, 0, 0, 0, 0)) none)
        (cond (Nat.beq pc 26) (some (.getfield 13, 3, 8, 5, 2, 1762, 0, 0)) none))))
     (cond (Nat.blt pc 33)
      (cond (Nat.blt pc 31)
       (cond (Nat.beq pc 29) (some (.bipush 10, 2, 0, 0, 0, 0, 10, 0)) none)
       (cond (Nat.blt pc 32)
        (cond (Nat.beq pc 31) (some (.iload_n 1, 1, 0, 0, 0, 0, 0, 0)) none)
        (cond (Nat.beq pc 32) (some (.imul, 1, 0, 0, 0, 0, 0, 0)) none)))
      (cond (Nat.blt pc 35)
       (cond (Nat.beq pc 33) (some (.bipush 8, 2, 0, 0, 0, 0, 8, 0)) none)
       (cond (Nat.blt pc 36)
        (cond (Nat.beq pc 35) (some (.iadd, 1, 0, 0, 0, 0, 0, 0)) none)
        (cond (Nat.beq pc 36) (some (.aload_n 0, 1, 0, 0, 0, 0, 0, 0)) none))))))
   (cond (Nat.blt pc 56)
    (cond (Nat.blt pc 45)
     (cond (Nat.blt pc 42)
      (cond (Nat.blt pc 40)
       (cond (Nat.beq pc 37) (some (.getfield 13, 3, 8, 5, 2, 1762, 0, 0)) none)
       (cond (Nat.beq pc 40) (some (.bipush 10, 2, 0, 0, 0, 0, 10, 0)) none))
      (cond (Nat.blt pc 43)
       (cond (Nat.beq pc 42) (some (.iload_n 1, 1, 0, 0, 0, 0, 0, 0)) none)
       (cond (Nat.blt pc 44)
        (cond (Nat.beq pc 43) (some (.imul, 1, 0, 0, 0, 0, 0, 0)) none)
        (cond (Nat.beq pc 44) (some (.iconst 1, 1, 0, 0, 0, 0, 1, 0)) none))))
     (cond (Nat.blt pc 49)
      (cond (Nat.blt pc 46)
       (cond (Nat.beq pc 45) (some (.iadd, 1, 0, 0, 0, 0, 0, 0)) none)
       (cond (Nat.blt pc 47)
        (cond (Nat.beq pc 46) (some (.iaload, 1, 0, 0, 0, 0, 0, 0)) none)
        (cond (Nat.beq pc 47) (some (.bipush 9, 2, 0, 0, 0, 0, 9, 0)) none)))
      (cond (Nat.blt pc 52)
       (cond (Nat.beq pc 49) (some (.if_icmp .ne 18, 3, 67, 0, 0, 0, 0, 0)) none)
       (cond (Nat.blt pc 53)
        (cond (Nat.beq pc 52) (some (.aload_n 0, 1, 0, 0, 0, 0, 0, 0)) none)
        (cond (Nat.beq pc 53) (some (.getfield 13, 3, 8, 5, 2, 1762, 0, 0)) none)))))
    (cond (Nat.blt pc 64)
     (cond (Nat.blt pc 60)
      (cond (Nat.blt pc 58)
       (cond (Nat.beq pc 56) (some (.bipush 10, 2, 0, 0, 0, 0, 10, 0)) none)
       (cond (Nat.blt pc 59)
        (cond (Nat.beq pc 58) (some (.iload_n 1, 1, 0, 0, 0, 0, 0, 0)) none)
        (cond (Nat.beq pc 59) (some (.imul, 1, 0, 0, 0, 0, 0, 0)) none)))
      (cond (Nat.blt pc 62)
       (cond (Nat.beq pc 60) (some (.bipush 8, 2, 0, 0, 0, 0, 8, 0)) none)
       (cond (Nat.blt pc 63)
        (cond (Nat.beq pc 62) (some (.iadd, 1, 0, 0, 0, 0, 0, 0)) none)
        (cond (Nat.beq pc 63) (some (.iaload, 1, 0, 0, 0, 0, 0, 0)) none))))
     (cond (Nat.blt pc 69)
      (cond (Nat.blt pc 67)
       (cond (Nat.beq pc 64) (some (.goto 4, 3, 68, 0, 0, 0, 0, 0)) none)
       (cond (Nat.blt pc 68)
        (cond (Nat.beq pc 67) (some (.iconst 0, 1, 0, 0, 0, 0, 0, 0)) none)
        (cond (Nat.beq pc 68) (some (.iastore, 1, 0, 0, 0, 0, 0, 0)) none)))
      (cond (Nat.blt pc 72)
       (cond (Nat.beq pc 69) (some (.iinc 1 1, 3, 0, 0, 0, 0, 1, 0)) none)
       (cond (Nat.blt pc 75)
        (cond (Nat.beq pc 72) (some (.goto (-55), 3, 17, 0, 0, 0, 0, 0)) none)
        (cond (Nat.beq pc 75) (some (.return_, 1, 0, 0, 0, 0, 0, 0)) none))))))) none
-- PrintHouseModel.forget ()V
def zc122 (pc : Nat) : Option z_I := cond (Nat.blt pc 41)
  (cond (Nat.blt pc 17)
   (cond (Nat.blt pc 5)
    (cond (Nat.blt pc 2)
     (cond (Nat.blt pc 1)
      (cond (Nat.beq pc 0) (some (.iconst 0, 1, 0, 0, 0, 0, 0, 0)) none)
      (cond (Nat.beq pc 1) (some (.istore_n 1, 1, 0, 0, 0, 0, 0, 0)) none))
     (cond (Nat.blt pc 3)
      (cond (Nat.beq pc 2) (some (.iconst 0, 1, 0, 0, 0, 0, 0, 0)) none)
      (cond (Nat.blt pc 4)
       (cond (Nat.beq pc 3) (some (.istore_n 2, 1, 0, 0, 0, 0, 0, 0)) none)
       (cond (Nat.beq pc 4) (some (.iload_n 2, 1, 0, 0, 0, 0, 0, 0)) none))))
    (cond (Nat.blt pc 12)
     (cond (Nat.blt pc 6)
      (cond (Nat.beq pc 5) (some (.aload_n 0, 1, 0, 0, 0, 0, 0, 0)) none)
      (cond (Nat.blt pc 9)
       (cond (Nat.beq pc 6) (some (.getfield 137, 3, 8, 4, 0, 1760, 0, 0)) none)
       (cond (Nat.beq pc 9) (some (.if_icmp .ge 26, 3, 35, 0, 0, 0, 0, 0)) none)))
     (cond (Nat.blt pc 13)
      (cond (Nat.beq pc 12) (some (.aload_n 0, 1, 0, 0, 0, 0, 0, 0)) none)
      (cond (Nat.blt pc 14)
       (cond (Nat.beq pc 13) (some (.iload_n 2, 1, 0, 0, 0, 0, 0, 0)) none)
       (cond (Nat.beq pc 14) (some (.invokevirtual 140, 3, 115, 0, 0, 2094, 0, 0)) none)))))
   (cond (Nat.blt pc 29)
    (cond (Nat.blt pc 22)
     (cond (Nat.blt pc 20)
      (cond (Nat.beq pc 17) (some (.ifCond .ne 12, 3, 29, 0, 0, 0, 0, 0)) none)
      (cond (Nat.blt pc 21)
       (cond (Nat.beq pc 20) (some (.aload_n 0, 1, 0, 0, 0, 0, 0, 0)) none)
       (cond (Nat.beq pc 21) (some (.iload_n 2, 1, 0, 0, 0, 0, 0, 0)) none)))
     (cond (Nat.blt pc 23)
      (cond (Nat.beq pc 22) (some (.iload_n 1, 1, 0, 0, 0, 0, 0, 0)) none)
      (cond (Nat.blt pc 26)
       (cond (Nat.beq pc 23) (some (.invokevirtual 176, 3, 123, 0, 0, 2150, 0, 0)) none)
       (cond (Nat.beq pc 26) (some (.iinc 1 1, 3, 0, 0, 0, 0, 1, 0)) none))))
    (cond (Nat.blt pc 36)
     (cond (Nat.blt pc 32)
      (cond (Nat.beq pc 29) (some (.iinc 2 1, 3, 0, 0, 0, 0, 1, 0)) none)
      (cond (Nat.blt pc 35)
       (cond (Nat.beq pc 32) (some (.goto (-28), 3, 4, 0, 0, 0, 0, 0)) none)
       (cond (Nat.beq pc 35) (some (.aload_n 0, 1, 0, 0, 0, 0, 0, 0)) none)))
     (cond (Nat.blt pc 37)
      (cond (Nat.beq pc 36) (some (.iload_n 1, 1, 0, 0, 0, 0, 0, 0)) none)
      (cond (Nat.blt pc 40)
       (cond (Nat.beq pc 37) (some (.putfield 137, 3, 8, 4, 0, 1760, 0, 0)) none)
       (cond (Nat.beq pc 40) (some (.return_, 1, 0, 0, 0, 0, 0, 0)) none)))))) none
-- PrintHouseModel.copy (II)V
def zc123 (pc : Nat) : Option z_I := cond (Nat.blt pc 73)
  (cond (Nat.blt pc 36)
   (cond (Nat.blt pc 17)
    (cond (Nat.blt pc 8)
     (cond (Nat.blt pc 2)
      (cond (Nat.blt pc 1)
       (cond (Nat.beq pc 0) (some (.iconst 0, 1, 0, 0, 0, 0, 0, 0)) none)
       (cond (Nat.beq pc 1) (some (.istore_n 3, 1, 0, 0, 0, 0, 0, 0)) none))
      (cond (Nat.blt pc 3)
       (cond (Nat.beq pc 2) (some (.iload_n 3, 1, 0, 0, 0, 0, 0, 0)) none)
       (cond (Nat.blt pc 5)
        (cond (Nat.beq pc 3) (some (.bipush 10, 2, 0, 0, 0, 0, 10, 0)) none)
        (cond (Nat.beq pc 5) (some (.if_icmp .ge 31, 3, 36, 0, 0, 0, 0, 0)) none))))
     (cond (Nat.blt pc 14)
      (cond (Nat.blt pc 9)
       (cond (Nat.beq pc 8) (some (.aload_n 0, 1, 0, 0, 0, 0, 0, 0)) none)
       (cond (Nat.blt pc 12)
        (cond (Nat.beq pc 9) (some (.getfield 13, 3, 8, 5, 2, 1762, 0, 0)) none)
        (cond (Nat.beq pc 12) (some (.bipush 10, 2, 0, 0, 0, 0, 10, 0)) none)))
      (cond (Nat.blt pc 15)
       (cond (Nat.beq pc 14) (some (.iload_n 2, 1, 0, 0, 0, 0, 0, 0)) none)
       (cond (Nat.blt pc 16)
        (cond (Nat.beq pc 15) (some (.imul, 1, 0, 0, 0, 0, 0, 0)) none)
        (cond (Nat.beq pc 16) (some (.iload_n 3, 1, 0, 0, 0, 0, 0, 0)) none)))))
    (cond (Nat.blt pc 26)
     (cond (Nat.blt pc 22)
      (cond (Nat.blt pc 18)
       (cond (Nat.beq pc 17) (some (.iadd, 1, 0, 0, 0, 0, 0, 0)) none)
       (cond (Nat.blt pc 19)
        (cond (Nat.beq pc 18) (some (.aload_n 0, 1, 0, 0, 0, 0, 0, 0)) none)
        (cond (Nat.beq pc 19) (some (.getfield 13, 3, 8, 5, 2, 1762, 0, 0)) none)))
      (cond (Nat.blt pc 24)
       (cond (Nat.beq pc 22) (some (.bipush 10, 2, 0, 0, 0, 0, 10, 0)) none)
       (cond (Nat.blt pc 25)
        (cond (Nat.beq pc 24) (some (.iload_n 1, 1, 0, 0, 0, 0, 0, 0)) none)
        (cond (Nat.beq pc 25) (some (.imul, 1, 0, 0, 0, 0, 0, 0)) none))))
     (cond (Nat.blt pc 29)
      (cond (Nat.blt pc 27)
       (cond (Nat.beq pc 26) (some (.iload_n 3, 1, 0, 0, 0, 0, 0, 0)) none)
       (cond (Nat.blt pc 28)
        (cond (Nat.beq pc 27) (some (.iadd, 1, 0, 0, 0, 0, 0, 0)) none)
        (cond (Nat.beq pc 28) (some (.iaload, 1, 0, 0, 0, 0, 0, 0)) none)))
      (cond (Nat.blt pc 30)
       (cond (Nat.beq pc 29) (some (.iastore, 1, 0, 0, 0, 0, 0, 0)) none)
       (cond (Nat.blt pc 33)
        (cond (Nat.beq pc 30) (some (.iinc 3 1, 3, 0, 0, 0, 0, 1, 0)) none)
        (cond (Nat.beq pc 33) (some (.goto (-31), 3, 2, 0, 0, 0, 0, 0)) none))))))
   (cond (Nat.blt pc 54)
    (cond (Nat.blt pc 45)
     (cond (Nat.blt pc 39)
      (cond (Nat.blt pc 37)
       (cond (Nat.beq pc 36) (some (.iconst 0, 1, 0, 0, 0, 0, 0, 0)) none)
       (cond (Nat.blt pc 38)
        (cond (Nat.beq pc 37) (some (.istore_n 3, 1, 0, 0, 0, 0, 0, 0)) none)
        (cond (Nat.beq pc 38) (some (.iload_n 3, 1, 0, 0, 0, 0, 0, 0)) none)))
      (cond (Nat.blt pc 41)
       (cond (Nat.beq pc 39) (some (.bipush 72, 2, 0, 0, 0, 0, 72, 0)) none)
       (cond (Nat.blt pc 44)
        (cond (Nat.beq pc 41) (some (.if_icmp .ge 31, 3, 72, 0, 0, 0, 0, 0)) none)
        (cond (Nat.beq pc 44) (some (.aload_n 0, 1, 0, 0, 0, 0, 0, 0)) none))))
     (cond (Nat.blt pc 51)
      (cond (Nat.blt pc 48)
       (cond (Nat.beq pc 45) (some (.getfield 16, 3, 8, 6, 2, 1764, 0, 0)) none)
       (cond (Nat.blt pc 50)
        (cond (Nat.beq pc 48) (some (.bipush 72, 2, 0, 0, 0, 0, 72, 0)) none)
        (cond (Nat.beq pc 50) (some (.iload_n 2, 1, 0, 0, 0, 0, 0, 0)) none)))
      (cond (Nat.blt pc 52)
       (cond (Nat.beq pc 51) (some (.imul, 1, 0, 0, 0, 0, 0, 0)) none)
       (cond (Nat.blt pc 53)
        (cond (Nat.beq pc 52) (some (.iload_n 3, 1, 0, 0, 0, 0, 0, 0)) none)
        (cond (Nat.beq pc 53) (some (.iadd, 1, 0, 0, 0, 0, 0, 0)) none)))))
    (cond (Nat.blt pc 63)
     (cond (Nat.blt pc 60)
      (cond (Nat.blt pc 55)
       (cond (Nat.beq pc 54) (some (.aload_n 0, 1, 0, 0, 0, 0, 0, 0)) none)
       (cond (Nat.blt pc 58)
        (cond (Nat.beq pc 55) (some (.getfield 16, 3, 8, 6, 2, 1764, 0, 0)) none)
        (cond (Nat.beq pc 58) (some (.bipush 72, 2, 0, 0, 0, 0, 72, 0)) none)))
      (cond (Nat.blt pc 61)
       (cond (Nat.beq pc 60) (some (.iload_n 1, 1, 0, 0, 0, 0, 0, 0)) none)
       (cond (Nat.blt pc 62)
        (cond (Nat.beq pc 61) (some (.imul, 1, 0, 0, 0, 0, 0, 0)) none)
        (cond (Nat.beq pc 62) (some (.iload_n 3, 1, 0, 0, 0, 0, 0, 0)) none))))
     (cond (Nat.blt pc 66)
      (cond (Nat.blt pc 64)
       (cond (Nat.beq pc 63) (some (.iadd, 1, 0, 0, 0, 0, 0, 0)) none)
       (cond (Nat.blt pc 65)
        (cond (Nat.beq pc 64) (some (.iaload, 1, 0, 0, 0, 0, 0, 0)) none)
        (cond (Nat.beq pc 65) (some (.iastore, 1, 0, 0, 0, 0, 0, 0)) none)))
      (cond (Nat.blt pc 69)
       (cond (Nat.beq pc 66) (some (.iinc 3 1, 3, 0, 0, 0, 0, 1, 0)) none)
       (cond (Nat.blt pc 72)
        (cond (Nat.beq pc 69) (some (.goto (-31), 3, 38, 0, 0, 0, 0, 0)) none)
        (cond (Nat.beq pc 72) (some (.return_, 1, 0, 0, 0, 0, 0, 0)) none))))))) none
-- PrintHouseModel.transact (I)Z
def zc124 (pc : Nat) : Option z_I := cond (Nat.blt pc 59)
  (cond (Nat.blt pc 29)
   (cond (Nat.blt pc 16)
    (cond (Nat.blt pc 6)
     (cond (Nat.blt pc 4)
      (cond (Nat.blt pc 1)
       (cond (Nat.beq pc 0) (some (.aload_n 0, 1, 0, 0, 0, 0, 0, 0)) none)
       (cond (Nat.beq pc 1) (some (.getfield 180, 3, 8, 9, 0, 1770, 0, 0)) none))
      (cond (Nat.blt pc 5)
       (cond (Nat.beq pc 4) (some (.iload_n 1, 1, 0, 0, 0, 0, 0, 0)) none)
       (cond (Nat.beq pc 5) (some (.iadd, 1, 0, 0, 0, 0, 0, 0)) none)))
     (cond (Nat.blt pc 11)
      (cond (Nat.blt pc 8)
       (cond (Nat.beq pc 6) (some (.bipush 40, 2, 0, 0, 0, 0, 40, 0)) none)
       (cond (Nat.beq pc 8) (some (.if_icmp .le 29, 3, 37, 0, 0, 0, 0, 0)) none))
      (cond (Nat.blt pc 12)
       (cond (Nat.beq pc 11) (some (.aload_n 0, 1, 0, 0, 0, 0, 0, 0)) none)
       (cond (Nat.blt pc 15)
        (cond (Nat.beq pc 12) (some (.invokevirtual 146, 3, 116, 0, 0, 2086, 0, 0)) none)
        (cond (Nat.beq pc 15) (some (.istore_n 2, 1, 0, 0, 0, 0, 0, 0)) none)))))
    (cond (Nat.blt pc 20)
     (cond (Nat.blt pc 18)
      (cond (Nat.blt pc 17)
       (cond (Nat.beq pc 16) (some (.aload_n 0, 1, 0, 0, 0, 0, 0, 0)) none)
       (cond (Nat.beq pc 17) (some (.iload_n 2, 1, 0, 0, 0, 0, 0, 0)) none))
      (cond (Nat.blt pc 19)
       (cond (Nat.beq pc 18) (some (.iconst 1, 1, 0, 0, 0, 0, 1, 0)) none)
       (cond (Nat.beq pc 19) (some (.iadd, 1, 0, 0, 0, 0, 0, 0)) none)))
     (cond (Nat.blt pc 26)
      (cond (Nat.blt pc 23)
       (cond (Nat.beq pc 20) (some (.invokevirtual 183, 3, 120, 0, 0, 2126, 0, 0)) none)
       (cond (Nat.beq pc 23) (some (.ifCond .ne 5, 3, 28, 0, 0, 0, 0, 0)) none))
      (cond (Nat.blt pc 27)
       (cond (Nat.beq pc 26) (some (.iconst 0, 1, 0, 0, 0, 0, 0, 0)) none)
       (cond (Nat.blt pc 28)
        (cond (Nat.beq pc 27) (some (.ireturn, 1, 0, 0, 1, 0, 0, 0)) none)
        (cond (Nat.beq pc 28) (some (.aload_n 0, 1, 0, 0, 0, 0, 0, 0)) none))))))
   (cond (Nat.blt pc 46)
    (cond (Nat.blt pc 37)
     (cond (Nat.blt pc 33)
      (cond (Nat.blt pc 30)
       (cond (Nat.beq pc 29) (some (.iload_n 2, 1, 0, 0, 0, 0, 0, 0)) none)
       (cond (Nat.beq pc 30) (some (.putfield 180, 3, 8, 9, 0, 1770, 0, 0)) none))
      (cond (Nat.blt pc 34)
       (cond (Nat.beq pc 33) (some (.aload_n 0, 1, 0, 0, 0, 0, 0, 0)) none)
       (cond (Nat.beq pc 34) (some (.invokevirtual 186, 3, 122, 0, 0, 2142, 0, 0)) none)))
     (cond (Nat.blt pc 39)
      (cond (Nat.blt pc 38)
       (cond (Nat.beq pc 37) (some (.aload_n 0, 1, 0, 0, 0, 0, 0, 0)) none)
       (cond (Nat.beq pc 38) (some (.iload_n 1, 1, 0, 0, 0, 0, 0, 0)) none))
      (cond (Nat.blt pc 42)
       (cond (Nat.beq pc 39) (some (.invokevirtual 183, 3, 120, 0, 0, 2126, 0, 0)) none)
       (cond (Nat.blt pc 45)
        (cond (Nat.beq pc 42) (some (.ifCond .ne 5, 3, 47, 0, 0, 0, 0, 0)) none)
        (cond (Nat.beq pc 45) (some (.iconst 0, 1, 0, 0, 0, 0, 0, 0)) none)))))
    (cond (Nat.blt pc 52)
     (cond (Nat.blt pc 48)
      (cond (Nat.blt pc 47)
       (cond (Nat.beq pc 46) (some (.ireturn, 1, 0, 0, 1, 0, 0, 0)) none)
       (cond (Nat.beq pc 47) (some (.aload_n 0, 1, 0, 0, 0, 0, 0, 0)) none))
      (cond (Nat.blt pc 49)
       (cond (Nat.beq pc 48) (some (.dup, 1, 0, 0, 0, 0, 0, 0)) none)
       (cond (Nat.beq pc 49) (some (.getfield 180, 3, 8, 9, 0, 1770, 0, 0)) none)))
     (cond (Nat.blt pc 54)
      (cond (Nat.blt pc 53)
       (cond (Nat.beq pc 52) (some (.iload_n 1, 1, 0, 0, 0, 0, 0, 0)) none)
       (cond (Nat.beq pc 53) (some (.iadd, 1, 0, 0, 0, 0, 0, 0)) none))
      (cond (Nat.blt pc 57)
       (cond (Nat.beq pc 54) (some (.putfield 180, 3, 8, 9, 0, 1770, 0, 0)) none)
       (cond (Nat.blt pc 58)
        (cond (Nat.beq pc 57) (some (.iconst 1, 1, 0, 0, 0, 0, 1, 0)) none)
        (cond (Nat.beq pc 58) (some (.ireturn, 1, 0, 0, 1, 0, 0, 0)) none))))))) none
-- PrintHouseModel.change (II)Z
def zc125 (pc : Nat) : Option z_I := cond (Nat.blt pc 28)
  (cond (Nat.blt pc 16)
   (cond (Nat.blt pc 6)
    (cond (Nat.blt pc 2)
     (cond (Nat.blt pc 1)
      (cond (Nat.beq pc 0) (some (.aload_n 0, 1, 0, 0, 0, 0, 0, 0)) none)
      (cond (Nat.beq pc 1) (some (.iconst 1, 1, 0, 0, 0, 0, 1, 0)) none))
     (cond (Nat.blt pc 5)
      (cond (Nat.beq pc 2) (some (.invokevirtual 189, 3, 124, 0, 0, 2118, 0, 0)) none)
      (cond (Nat.beq pc 5) (some (.istore_n 3, 1, 0, 0, 0, 0, 0, 0)) none)))
    (cond (Nat.blt pc 10)
     (cond (Nat.blt pc 7)
      (cond (Nat.beq pc 6) (some (.iload_n 3, 1, 0, 0, 0, 0, 0, 0)) none)
      (cond (Nat.beq pc 7) (some (.ifCond .eq 19, 3, 26, 0, 0, 0, 0, 0)) none))
     (cond (Nat.blt pc 11)
      (cond (Nat.beq pc 10) (some (.aload_n 0, 1, 0, 0, 0, 0, 0, 0)) none)
      (cond (Nat.blt pc 14)
       (cond (Nat.beq pc 11) (some (.getfield 13, 3, 8, 5, 2, 1762, 0, 0)) none)
       (cond (Nat.beq pc 14) (some (.bipush 10, 2, 0, 0, 0, 0, 10, 0)) none)))))
   (cond (Nat.blt pc 23)
    (cond (Nat.blt pc 18)
     (cond (Nat.blt pc 17)
      (cond (Nat.beq pc 16) (some (.aload_n 0, 1, 0, 0, 0, 0, 0, 0)) none)
      (cond (Nat.beq pc 17) (some (.iload_n 1, 1, 0, 0, 0, 0, 0, 0)) none))
     (cond (Nat.blt pc 21)
      (cond (Nat.beq pc 18) (some (.invokevirtual 158, 3, 114, 0, 0, 2102, 0, 0)) none)
      (cond (Nat.blt pc 22)
       (cond (Nat.beq pc 21) (some (.imul, 1, 0, 0, 0, 0, 0, 0)) none)
       (cond (Nat.beq pc 22) (some (.iconst 1, 1, 0, 0, 0, 0, 1, 0)) none))))
    (cond (Nat.blt pc 25)
     (cond (Nat.blt pc 24)
      (cond (Nat.beq pc 23) (some (.iadd, 1, 0, 0, 0, 0, 0, 0)) none)
      (cond (Nat.beq pc 24) (some (.iload_n 2, 1, 0, 0, 0, 0, 0, 0)) none))
     (cond (Nat.blt pc 26)
      (cond (Nat.beq pc 25) (some (.iastore, 1, 0, 0, 0, 0, 0, 0)) none)
      (cond (Nat.blt pc 27)
       (cond (Nat.beq pc 26) (some (.iload_n 3, 1, 0, 0, 0, 0, 0, 0)) none)
       (cond (Nat.beq pc 27) (some (.ireturn, 1, 0, 0, 1, 0, 0, 0)) none)))))) none
-- PrintHouseModel.say (II)V
def zc126 (pc : Nat) : Option z_I := cond (Nat.blt pc 44)
  (cond (Nat.blt pc 20)
   (cond (Nat.blt pc 8)
    (cond (Nat.blt pc 3)
     (cond (Nat.blt pc 1)
      (cond (Nat.beq pc 0) (some (.iload_n 2, 1, 0, 0, 0, 0, 0, 0)) none)
      (cond (Nat.blt pc 2)
       (cond (Nat.beq pc 1) (some (.iconst 1, 1, 0, 0, 0, 0, 1, 0)) none)
       (cond (Nat.beq pc 2) (some (.isub, 1, 0, 0, 0, 0, 0, 0)) none)))
     (cond (Nat.blt pc 4)
      (cond (Nat.beq pc 3) (some (.istore_n 3, 1, 0, 0, 0, 0, 0, 0)) none)
      (cond (Nat.blt pc 5)
       (cond (Nat.beq pc 4) (some (.iload_n 3, 1, 0, 0, 0, 0, 0, 0)) none)
       (cond (Nat.beq pc 5) (some (.ifCond .lt 38, 3, 43, 0, 0, 0, 0, 0)) none))))
    (cond (Nat.blt pc 13)
     (cond (Nat.blt pc 9)
      (cond (Nat.beq pc 8) (some (.aload_n 0, 1, 0, 0, 0, 0, 0, 0)) none)
      (cond (Nat.blt pc 12)
       (cond (Nat.beq pc 9) (some (.getfield 29, 3, 8, 24, 2, 1800, 0, 0)) none)
       (cond (Nat.beq pc 12) (some (.aload_n 0, 1, 0, 0, 0, 0, 0, 0)) none)))
     (cond (Nat.blt pc 17)
      (cond (Nat.blt pc 16)
       (cond (Nat.beq pc 13) (some (.getfield 26, 3, 8, 23, 0, 1798, 0, 0)) none)
       (cond (Nat.beq pc 16) (some (.iload_n 1, 1, 0, 0, 0, 0, 0, 0)) none))
      (cond (Nat.blt pc 19)
       (cond (Nat.beq pc 17) (some (.bipush 8, 2, 0, 0, 0, 0, 8, 0)) none)
       (cond (Nat.beq pc 19) (some (.iload_n 3, 1, 0, 0, 0, 0, 0, 0)) none)))))
   (cond (Nat.blt pc 29)
    (cond (Nat.blt pc 25)
     (cond (Nat.blt pc 21)
      (cond (Nat.beq pc 20) (some (.imul, 1, 0, 0, 0, 0, 0, 0)) none)
      (cond (Nat.blt pc 22)
       (cond (Nat.beq pc 21) (some (.ishr, 1, 0, 0, 0, 0, 0, 0)) none)
       (cond (Nat.beq pc 22) (some (.sipush 255, 3, 0, 0, 0, 0, 255, 0)) none)))
     (cond (Nat.blt pc 27)
      (cond (Nat.blt pc 26)
       (cond (Nat.beq pc 25) (some (.iand, 1, 0, 0, 0, 0, 0, 0)) none)
       (cond (Nat.beq pc 26) (some (.iastore, 1, 0, 0, 0, 0, 0, 0)) none))
      (cond (Nat.blt pc 28)
       (cond (Nat.beq pc 27) (some (.aload_n 0, 1, 0, 0, 0, 0, 0, 0)) none)
       (cond (Nat.beq pc 28) (some (.dup, 1, 0, 0, 0, 0, 0, 0)) none))))
    (cond (Nat.blt pc 34)
     (cond (Nat.blt pc 32)
      (cond (Nat.beq pc 29) (some (.getfield 26, 3, 8, 23, 0, 1798, 0, 0)) none)
      (cond (Nat.blt pc 33)
       (cond (Nat.beq pc 32) (some (.iconst 1, 1, 0, 0, 0, 0, 1, 0)) none)
       (cond (Nat.beq pc 33) (some (.iadd, 1, 0, 0, 0, 0, 0, 0)) none)))
     (cond (Nat.blt pc 40)
      (cond (Nat.blt pc 37)
       (cond (Nat.beq pc 34) (some (.putfield 26, 3, 8, 23, 0, 1798, 0, 0)) none)
       (cond (Nat.beq pc 37) (some (.iinc 3 (-1), 3, 0, 0, 0, 0, (-1), 0)) none))
      (cond (Nat.blt pc 43)
       (cond (Nat.beq pc 40) (some (.goto (-36), 3, 4, 0, 0, 0, 0, 0)) none)
       (cond (Nat.beq pc 43) (some (.return_, 1, 0, 0, 0, 0, 0, 0)) none)))))) none
-- PrintHouseModel.integer (IJI)V
def zc127 (pc : Nat) : Option z_I := cond (Nat.blt pc 61)
  (cond (Nat.blt pc 28)
   (cond (Nat.blt pc 14)
    (cond (Nat.blt pc 7)
     (cond (Nat.blt pc 3)
      (cond (Nat.blt pc 1)
       (cond (Nat.beq pc 0) (some (.aload_n 0, 1, 0, 0, 0, 0, 0, 0)) none)
       (cond (Nat.beq pc 1) (some (.bipush 33, 2, 0, 0, 0, 0, 33, 0)) none))
      (cond (Nat.blt pc 4)
       (cond (Nat.beq pc 3) (some (.iconst 1, 1, 0, 0, 0, 0, 1, 0)) none)
       (cond (Nat.beq pc 4) (some (.invokevirtual 192, 3, 126, 0, 0, 2166, 0, 0)) none)))
     (cond (Nat.blt pc 9)
      (cond (Nat.blt pc 8)
       (cond (Nat.beq pc 7) (some (.aload_n 0, 1, 0, 0, 0, 0, 0, 0)) none)
       (cond (Nat.beq pc 8) (some (.iload_n 1, 1, 0, 0, 0, 0, 0, 0)) none))
      (cond (Nat.blt pc 10)
       (cond (Nat.beq pc 9) (some (.iconst 2, 1, 0, 0, 0, 0, 2, 0)) none)
       (cond (Nat.blt pc 13)
        (cond (Nat.beq pc 10) (some (.invokevirtual 192, 3, 126, 0, 0, 2166, 0, 0)) none)
        (cond (Nat.beq pc 13) (some (.iconst 0, 1, 0, 0, 0, 0, 0, 0)) none)))))
    (cond (Nat.blt pc 22)
     (cond (Nat.blt pc 18)
      (cond (Nat.blt pc 16)
       (cond (Nat.beq pc 14) (some (.istore 5, 2, 0, 0, 0, 0, 0, 0)) none)
       (cond (Nat.beq pc 16) (some (.iload 5, 2, 0, 0, 0, 0, 0, 0)) none))
      (cond (Nat.blt pc 19)
       (cond (Nat.beq pc 18) (some (.iload_n 1, 1, 0, 0, 0, 0, 0, 0)) none)
       (cond (Nat.beq pc 19) (some (.if_icmp .ge 28, 3, 47, 0, 0, 0, 0, 0)) none)))
     (cond (Nat.blt pc 24)
      (cond (Nat.blt pc 23)
       (cond (Nat.beq pc 22) (some (.aload_n 0, 1, 0, 0, 0, 0, 0, 0)) none)
       (cond (Nat.beq pc 23) (some (.lload_n 2, 1, 0, 0, 0, 0, 0, 0)) none))
      (cond (Nat.blt pc 25)
       (cond (Nat.beq pc 24) (some (.iconst 5, 1, 0, 0, 0, 0, 5, 0)) none)
       (cond (Nat.blt pc 27)
        (cond (Nat.beq pc 25) (some (.iload 5, 2, 0, 0, 0, 0, 0, 0)) none)
        (cond (Nat.beq pc 27) (some (.imul, 1, 0, 0, 0, 0, 0, 0)) none))))))
   (cond (Nat.blt pc 44)
    (cond (Nat.blt pc 34)
     (cond (Nat.blt pc 32)
      (cond (Nat.blt pc 29)
       (cond (Nat.beq pc 28) (some (.lshr, 1, 0, 0, 0, 0, 0, 0)) none)
       (cond (Nat.beq pc 29) (some (.ldc2_w 56, 3, 0, 0, 0, 1011, 0, 31)) none))
      (cond (Nat.blt pc 33)
       (cond (Nat.beq pc 32) (some (.land, 1, 0, 0, 0, 0, 0, 0)) none)
       (cond (Nat.beq pc 33) (some (.l2i, 1, 0, 0, 0, 0, 0, 0)) none)))
     (cond (Nat.blt pc 37)
      (cond (Nat.blt pc 36)
       (cond (Nat.beq pc 34) (some (.bipush 96, 2, 0, 0, 0, 0, 96, 0)) none)
       (cond (Nat.beq pc 36) (some (.iadd, 1, 0, 0, 0, 0, 0, 0)) none))
      (cond (Nat.blt pc 38)
       (cond (Nat.beq pc 37) (some (.iconst 1, 1, 0, 0, 0, 0, 1, 0)) none)
       (cond (Nat.blt pc 41)
        (cond (Nat.beq pc 38) (some (.invokevirtual 192, 3, 126, 0, 0, 2166, 0, 0)) none)
        (cond (Nat.beq pc 41) (some (.iinc 5 1, 3, 0, 0, 0, 0, 1, 0)) none)))))
    (cond (Nat.blt pc 53)
     (cond (Nat.blt pc 48)
      (cond (Nat.blt pc 47)
       (cond (Nat.beq pc 44) (some (.goto (-28), 3, 16, 0, 0, 0, 0, 0)) none)
       (cond (Nat.beq pc 47) (some (.aload_n 0, 1, 0, 0, 0, 0, 0, 0)) none))
      (cond (Nat.blt pc 49)
       (cond (Nat.beq pc 48) (some (.iconst 4, 1, 0, 0, 0, 0, 4, 0)) none)
       (cond (Nat.blt pc 50)
        (cond (Nat.beq pc 49) (some (.iconst 2, 1, 0, 0, 0, 0, 2, 0)) none)
        (cond (Nat.beq pc 50) (some (.invokevirtual 192, 3, 126, 0, 0, 2166, 0, 0)) none))))
     (cond (Nat.blt pc 56)
      (cond (Nat.blt pc 54)
       (cond (Nat.beq pc 53) (some (.aload_n 0, 1, 0, 0, 0, 0, 0, 0)) none)
       (cond (Nat.beq pc 54) (some (.iload 4, 2, 0, 0, 0, 0, 0, 0)) none))
      (cond (Nat.blt pc 57)
       (cond (Nat.beq pc 56) (some (.iconst 4, 1, 0, 0, 0, 0, 4, 0)) none)
       (cond (Nat.blt pc 60)
        (cond (Nat.beq pc 57) (some (.invokevirtual 192, 3, 126, 0, 0, 2166, 0, 0)) none)
        (cond (Nat.beq pc 60) (some (.return_, 1, 0, 0, 0, 0, 0, 0)) none))))))) none
-- PrintHouseModel.tell (IZ)V
def zc128 (pc : Nat) : Option z_I := cond (Nat.blt pc 114)
  (cond (Nat.blt pc 55)
   (cond (Nat.blt pc 26)
    (cond (Nat.blt pc 11)
     (cond (Nat.blt pc 5)
      (cond (Nat.blt pc 3)
       (cond (Nat.blt pc 2)
        (cond (Nat.beq pc 0) (some (.bipush 10, 2, 0, 0, 0, 0, 10, 0)) none)
        (cond (Nat.beq pc 2) (some (.iload_n 1, 1, 0, 0, 0, 0, 0, 0)) none))
       (cond (Nat.blt pc 4)
        (cond (Nat.beq pc 3) (some (.imul, 1, 0, 0, 0, 0, 0, 0)) none)
        (cond (Nat.beq pc 4) (some (.istore_n 3, 1, 0, 0, 0, 0, 0, 0)) none)))
      (cond (Nat.blt pc 7)
       (cond (Nat.blt pc 6)
        (cond (Nat.beq pc 5) (some (.aload_n 0, 1, 0, 0, 0, 0, 0, 0)) none)
        (cond (Nat.beq pc 6) (some (.iconst 2, 1, 0, 0, 0, 0, 2, 0)) none))
       (cond (Nat.blt pc 8)
        (cond (Nat.beq pc 7) (some (.iconst 1, 1, 0, 0, 0, 0, 1, 0)) none)
        (cond (Nat.beq pc 8) (some (.invokevirtual 192, 3, 126, 0, 0, 2166, 0, 0)) none))))
     (cond (Nat.blt pc 17)
      (cond (Nat.blt pc 13)
       (cond (Nat.blt pc 12)
        (cond (Nat.beq pc 11) (some (.aload_n 0, 1, 0, 0, 0, 0, 0, 0)) none)
        (cond (Nat.beq pc 12) (some (.iconst 3, 1, 0, 0, 0, 0, 3, 0)) none))
       (cond (Nat.blt pc 16)
        (cond (Nat.beq pc 13) (some (.ldc2_w 76, 3, 0, 0, 0, 1006, 0, 2538)) none)
        (cond (Nat.beq pc 16) (some (.aload_n 0, 1, 0, 0, 0, 0, 0, 0)) none)))
      (cond (Nat.blt pc 21)
       (cond (Nat.blt pc 20)
        (cond (Nat.beq pc 17) (some (.getfield 13, 3, 8, 5, 2, 1762, 0, 0)) none)
        (cond (Nat.beq pc 20) (some (.iload_n 3, 1, 0, 0, 0, 0, 0, 0)) none))
       (cond (Nat.blt pc 22)
        (cond (Nat.beq pc 21) (some (.iaload, 1, 0, 0, 0, 0, 0, 0)) none)
        (cond (Nat.blt pc 25)
         (cond (Nat.beq pc 22) (some (.invokevirtual 195, 3, 127, 0, 0, 2206, 0, 0)) none)
         (cond (Nat.beq pc 25) (some (.aload_n 0, 1, 0, 0, 0, 0, 0, 0)) none))))))
    (cond (Nat.blt pc 38)
     (cond (Nat.blt pc 34)
      (cond (Nat.blt pc 30)
       (cond (Nat.blt pc 27)
        (cond (Nat.beq pc 26) (some (.iconst 5, 1, 0, 0, 0, 0, 5, 0)) none)
        (cond (Nat.beq pc 27) (some (.ldc2_w 199, 3, 0, 0, 0, 1107, 0, 5899923)) none))
       (cond (Nat.blt pc 31)
        (cond (Nat.beq pc 30) (some (.aload_n 0, 1, 0, 0, 0, 0, 0, 0)) none)
        (cond (Nat.beq pc 31) (some (.getfield 13, 3, 8, 5, 2, 1762, 0, 0)) none)))
      (cond (Nat.blt pc 36)
       (cond (Nat.blt pc 35)
        (cond (Nat.beq pc 34) (some (.iload_n 3, 1, 0, 0, 0, 0, 0, 0)) none)
        (cond (Nat.beq pc 35) (some (.iconst 1, 1, 0, 0, 0, 0, 1, 0)) none))
       (cond (Nat.blt pc 37)
        (cond (Nat.beq pc 36) (some (.iadd, 1, 0, 0, 0, 0, 0, 0)) none)
        (cond (Nat.beq pc 37) (some (.iaload, 1, 0, 0, 0, 0, 0, 0)) none))))
     (cond (Nat.blt pc 46)
      (cond (Nat.blt pc 42)
       (cond (Nat.blt pc 41)
        (cond (Nat.beq pc 38) (some (.invokevirtual 195, 3, 127, 0, 0, 2206, 0, 0)) none)
        (cond (Nat.beq pc 41) (some (.iload_n 2, 1, 0, 0, 0, 0, 0, 0)) none))
       (cond (Nat.blt pc 45)
        (cond (Nat.beq pc 42) (some (.ifCond .eq 71, 3, 113, 0, 0, 0, 0, 0)) none)
        (cond (Nat.beq pc 45) (some (.aload_n 0, 1, 0, 0, 0, 0, 0, 0)) none)))
      (cond (Nat.blt pc 50)
       (cond (Nat.blt pc 47)
        (cond (Nat.beq pc 46) (some (.iconst 5, 1, 0, 0, 0, 0, 5, 0)) none)
        (cond (Nat.beq pc 47) (some (.ldc2_w 201, 3, 0, 0, 0, 1108, 0, 20094000)) none))
       (cond (Nat.blt pc 51)
        (cond (Nat.beq pc 50) (some (.aload_n 0, 1, 0, 0, 0, 0, 0, 0)) none)
        (cond (Nat.blt pc 54)
         (cond (Nat.beq pc 51) (some (.getfield 13, 3, 8, 5, 2, 1762, 0, 0)) none)
         (cond (Nat.beq pc 54) (some (.iload_n 3, 1, 0, 0, 0, 0, 0, 0)) none)))))))
   (cond (Nat.blt pc 85)
    (cond (Nat.blt pc 69)
     (cond (Nat.blt pc 62)
      (cond (Nat.blt pc 58)
       (cond (Nat.blt pc 57)
        (cond (Nat.beq pc 55) (some (.bipush 7, 2, 0, 0, 0, 0, 7, 0)) none)
        (cond (Nat.beq pc 57) (some (.iadd, 1, 0, 0, 0, 0, 0, 0)) none))
       (cond (Nat.blt pc 59)
        (cond (Nat.beq pc 58) (some (.iaload, 1, 0, 0, 0, 0, 0, 0)) none)
        (cond (Nat.beq pc 59) (some (.invokevirtual 195, 3, 127, 0, 0, 2206, 0, 0)) none)))
      (cond (Nat.blt pc 65)
       (cond (Nat.blt pc 63)
        (cond (Nat.beq pc 62) (some (.aload_n 0, 1, 0, 0, 0, 0, 0, 0)) none)
        (cond (Nat.beq pc 63) (some (.bipush 6, 2, 0, 0, 0, 0, 6, 0)) none))
       (cond (Nat.blt pc 68)
        (cond (Nat.beq pc 65) (some (.ldc2_w 92, 3, 0, 0, 0, 1016, 0, 643088867)) none)
        (cond (Nat.beq pc 68) (some (.aload_n 0, 1, 0, 0, 0, 0, 0, 0)) none))))
     (cond (Nat.blt pc 75)
      (cond (Nat.blt pc 73)
       (cond (Nat.blt pc 72)
        (cond (Nat.beq pc 69) (some (.getfield 13, 3, 8, 5, 2, 1762, 0, 0)) none)
        (cond (Nat.beq pc 72) (some (.iload_n 3, 1, 0, 0, 0, 0, 0, 0)) none))
       (cond (Nat.blt pc 74)
        (cond (Nat.beq pc 73) (some (.iconst 2, 1, 0, 0, 0, 0, 2, 0)) none)
        (cond (Nat.beq pc 74) (some (.iadd, 1, 0, 0, 0, 0, 0, 0)) none)))
      (cond (Nat.blt pc 79)
       (cond (Nat.blt pc 76)
        (cond (Nat.beq pc 75) (some (.iaload, 1, 0, 0, 0, 0, 0, 0)) none)
        (cond (Nat.beq pc 76) (some (.invokevirtual 195, 3, 127, 0, 0, 2206, 0, 0)) none))
       (cond (Nat.blt pc 80)
        (cond (Nat.beq pc 79) (some (.aload_n 0, 1, 0, 0, 0, 0, 0, 0)) none)
        (cond (Nat.blt pc 82)
         (cond (Nat.beq pc 80) (some (.bipush 8, 2, 0, 0, 0, 0, 8, 0)) none)
         (cond (Nat.beq pc 82) (some (.ldc2_w 101, 3, 0, 0, 0, 1020, 0, 880789661264)) none))))))
    (cond (Nat.blt pc 98)
     (cond (Nat.blt pc 91)
      (cond (Nat.blt pc 89)
       (cond (Nat.blt pc 86)
        (cond (Nat.beq pc 85) (some (.aload_n 0, 1, 0, 0, 0, 0, 0, 0)) none)
        (cond (Nat.beq pc 86) (some (.getfield 13, 3, 8, 5, 2, 1762, 0, 0)) none))
       (cond (Nat.blt pc 90)
        (cond (Nat.beq pc 89) (some (.iload_n 3, 1, 0, 0, 0, 0, 0, 0)) none)
        (cond (Nat.beq pc 90) (some (.iconst 3, 1, 0, 0, 0, 0, 3, 0)) none)))
      (cond (Nat.blt pc 93)
       (cond (Nat.blt pc 92)
        (cond (Nat.beq pc 91) (some (.iadd, 1, 0, 0, 0, 0, 0, 0)) none)
        (cond (Nat.beq pc 92) (some (.iaload, 1, 0, 0, 0, 0, 0, 0)) none))
       (cond (Nat.blt pc 96)
        (cond (Nat.beq pc 93) (some (.invokevirtual 195, 3, 127, 0, 0, 2206, 0, 0)) none)
        (cond (Nat.blt pc 97)
         (cond (Nat.beq pc 96) (some (.aload_n 0, 1, 0, 0, 0, 0, 0, 0)) none)
         (cond (Nat.beq pc 97) (some (.iconst 4, 1, 0, 0, 0, 0, 4, 0)) none)))))
     (cond (Nat.blt pc 106)
      (cond (Nat.blt pc 102)
       (cond (Nat.blt pc 101)
        (cond (Nat.beq pc 98) (some (.ldc2_w 203, 3, 0, 0, 0, 1109, 0, 669875)) none)
        (cond (Nat.beq pc 101) (some (.aload_n 0, 1, 0, 0, 0, 0, 0, 0)) none))
       (cond (Nat.blt pc 105)
        (cond (Nat.beq pc 102) (some (.getfield 13, 3, 8, 5, 2, 1762, 0, 0)) none)
        (cond (Nat.beq pc 105) (some (.iload_n 3, 1, 0, 0, 0, 0, 0, 0)) none)))
      (cond (Nat.blt pc 109)
       (cond (Nat.blt pc 108)
        (cond (Nat.beq pc 106) (some (.bipush 8, 2, 0, 0, 0, 0, 8, 0)) none)
        (cond (Nat.beq pc 108) (some (.iadd, 1, 0, 0, 0, 0, 0, 0)) none))
       (cond (Nat.blt pc 110)
        (cond (Nat.beq pc 109) (some (.iaload, 1, 0, 0, 0, 0, 0, 0)) none)
        (cond (Nat.blt pc 113)
         (cond (Nat.beq pc 110) (some (.invokevirtual 195, 3, 127, 0, 0, 2206, 0, 0)) none)
         (cond (Nat.beq pc 113) (some (.return_, 1, 0, 0, 0, 0, 0, 0)) none)))))))) none
-- PrintHouseModel.isBefore (II)Z
def zc129 (pc : Nat) : Option z_I := cond (Nat.blt pc 135)
  (cond (Nat.blt pc 66)
   (cond (Nat.blt pc 27)
    (cond (Nat.blt pc 13)
     (cond (Nat.blt pc 8)
      (cond (Nat.blt pc 4)
       (cond (Nat.blt pc 1)
        (cond (Nat.beq pc 0) (some (.aload_n 0, 1, 0, 0, 0, 0, 0, 0)) none)
        (cond (Nat.beq pc 1) (some (.getfield 13, 3, 8, 5, 2, 1762, 0, 0)) none))
       (cond (Nat.blt pc 6)
        (cond (Nat.beq pc 4) (some (.bipush 10, 2, 0, 0, 0, 0, 10, 0)) none)
        (cond (Nat.blt pc 7)
         (cond (Nat.beq pc 6) (some (.iload_n 1, 1, 0, 0, 0, 0, 0, 0)) none)
         (cond (Nat.beq pc 7) (some (.imul, 1, 0, 0, 0, 0, 0, 0)) none))))
      (cond (Nat.blt pc 10)
       (cond (Nat.blt pc 9)
        (cond (Nat.beq pc 8) (some (.iconst 1, 1, 0, 0, 0, 0, 1, 0)) none)
        (cond (Nat.beq pc 9) (some (.iadd, 1, 0, 0, 0, 0, 0, 0)) none))
       (cond (Nat.blt pc 11)
        (cond (Nat.beq pc 10) (some (.iaload, 1, 0, 0, 0, 0, 0, 0)) none)
        (cond (Nat.blt pc 12)
         (cond (Nat.beq pc 11) (some (.istore_n 3, 1, 0, 0, 0, 0, 0, 0)) none)
         (cond (Nat.beq pc 12) (some (.aload_n 0, 1, 0, 0, 0, 0, 0, 0)) none)))))
     (cond (Nat.blt pc 21)
      (cond (Nat.blt pc 18)
       (cond (Nat.blt pc 16)
        (cond (Nat.beq pc 13) (some (.getfield 13, 3, 8, 5, 2, 1762, 0, 0)) none)
        (cond (Nat.beq pc 16) (some (.bipush 10, 2, 0, 0, 0, 0, 10, 0)) none))
       (cond (Nat.blt pc 19)
        (cond (Nat.beq pc 18) (some (.iload_n 2, 1, 0, 0, 0, 0, 0, 0)) none)
        (cond (Nat.blt pc 20)
         (cond (Nat.beq pc 19) (some (.imul, 1, 0, 0, 0, 0, 0, 0)) none)
         (cond (Nat.beq pc 20) (some (.iconst 1, 1, 0, 0, 0, 0, 1, 0)) none))))
      (cond (Nat.blt pc 23)
       (cond (Nat.blt pc 22)
        (cond (Nat.beq pc 21) (some (.iadd, 1, 0, 0, 0, 0, 0, 0)) none)
        (cond (Nat.beq pc 22) (some (.iaload, 1, 0, 0, 0, 0, 0, 0)) none))
       (cond (Nat.blt pc 25)
        (cond (Nat.beq pc 23) (some (.istore 4, 2, 0, 0, 0, 0, 0, 0)) none)
        (cond (Nat.blt pc 26)
         (cond (Nat.beq pc 25) (some (.iload_n 3, 1, 0, 0, 0, 0, 0, 0)) none)
         (cond (Nat.beq pc 26) (some (.iconst 5, 1, 0, 0, 0, 0, 5, 0)) none))))))
    (cond (Nat.blt pc 46)
     (cond (Nat.blt pc 37)
      (cond (Nat.blt pc 31)
       (cond (Nat.blt pc 30)
        (cond (Nat.beq pc 27) (some (.if_icmp .ne 7, 3, 34, 0, 0, 0, 0, 0)) none)
        (cond (Nat.beq pc 30) (some (.iconst 1, 1, 0, 0, 0, 0, 1, 0)) none))
       (cond (Nat.blt pc 34)
        (cond (Nat.beq pc 31) (some (.goto 4, 3, 35, 0, 0, 0, 0, 0)) none)
        (cond (Nat.blt pc 35)
         (cond (Nat.beq pc 34) (some (.iconst 0, 1, 0, 0, 0, 0, 0, 0)) none)
         (cond (Nat.beq pc 35) (some (.iload 4, 2, 0, 0, 0, 0, 0, 0)) none))))
      (cond (Nat.blt pc 41)
       (cond (Nat.blt pc 38)
        (cond (Nat.beq pc 37) (some (.iconst 5, 1, 0, 0, 0, 0, 5, 0)) none)
        (cond (Nat.beq pc 38) (some (.if_icmp .ne 7, 3, 45, 0, 0, 0, 0, 0)) none))
       (cond (Nat.blt pc 42)
        (cond (Nat.beq pc 41) (some (.iconst 1, 1, 0, 0, 0, 0, 1, 0)) none)
        (cond (Nat.blt pc 45)
         (cond (Nat.beq pc 42) (some (.goto 4, 3, 46, 0, 0, 0, 0, 0)) none)
         (cond (Nat.beq pc 45) (some (.iconst 0, 1, 0, 0, 0, 0, 0, 0)) none)))))
     (cond (Nat.blt pc 55)
      (cond (Nat.blt pc 50)
       (cond (Nat.blt pc 49)
        (cond (Nat.beq pc 46) (some (.if_icmp .eq 14, 3, 60, 0, 0, 0, 0, 0)) none)
        (cond (Nat.beq pc 49) (some (.iload_n 3, 1, 0, 0, 0, 0, 0, 0)) none))
       (cond (Nat.blt pc 51)
        (cond (Nat.beq pc 50) (some (.iconst 5, 1, 0, 0, 0, 0, 5, 0)) none)
        (cond (Nat.blt pc 54)
         (cond (Nat.beq pc 51) (some (.if_icmp .ne 7, 3, 58, 0, 0, 0, 0, 0)) none)
         (cond (Nat.beq pc 54) (some (.iconst 1, 1, 0, 0, 0, 0, 1, 0)) none))))
      (cond (Nat.blt pc 60)
       (cond (Nat.blt pc 58)
        (cond (Nat.beq pc 55) (some (.goto 4, 3, 59, 0, 0, 0, 0, 0)) none)
        (cond (Nat.blt pc 59)
         (cond (Nat.beq pc 58) (some (.iconst 0, 1, 0, 0, 0, 0, 0, 0)) none)
         (cond (Nat.beq pc 59) (some (.ireturn, 1, 0, 0, 1, 0, 0, 0)) none)))
       (cond (Nat.blt pc 61)
        (cond (Nat.beq pc 60) (some (.aload_n 0, 1, 0, 0, 0, 0, 0, 0)) none)
        (cond (Nat.blt pc 64)
         (cond (Nat.beq pc 61) (some (.getfield 13, 3, 8, 5, 2, 1762, 0, 0)) none)
         (cond (Nat.beq pc 64) (some (.bipush 10, 2, 0, 0, 0, 0, 10, 0)) none)))))))
   (cond (Nat.blt pc 100)
    (cond (Nat.blt pc 80)
     (cond (Nat.blt pc 71)
      (cond (Nat.blt pc 68)
       (cond (Nat.blt pc 67)
        (cond (Nat.beq pc 66) (some (.iload_n 1, 1, 0, 0, 0, 0, 0, 0)) none)
        (cond (Nat.beq pc 67) (some (.imul, 1, 0, 0, 0, 0, 0, 0)) none))
       (cond (Nat.blt pc 69)
        (cond (Nat.beq pc 68) (some (.iconst 3, 1, 0, 0, 0, 0, 3, 0)) none)
        (cond (Nat.blt pc 70)
         (cond (Nat.beq pc 69) (some (.iadd, 1, 0, 0, 0, 0, 0, 0)) none)
         (cond (Nat.beq pc 70) (some (.iaload, 1, 0, 0, 0, 0, 0, 0)) none))))
      (cond (Nat.blt pc 74)
       (cond (Nat.blt pc 73)
        (cond (Nat.beq pc 71) (some (.istore 5, 2, 0, 0, 0, 0, 0, 0)) none)
        (cond (Nat.beq pc 73) (some (.aload_n 0, 1, 0, 0, 0, 0, 0, 0)) none))
       (cond (Nat.blt pc 77)
        (cond (Nat.beq pc 74) (some (.getfield 13, 3, 8, 5, 2, 1762, 0, 0)) none)
        (cond (Nat.blt pc 79)
         (cond (Nat.beq pc 77) (some (.bipush 10, 2, 0, 0, 0, 0, 10, 0)) none)
         (cond (Nat.beq pc 79) (some (.iload_n 2, 1, 0, 0, 0, 0, 0, 0)) none)))))
     (cond (Nat.blt pc 86)
      (cond (Nat.blt pc 82)
       (cond (Nat.blt pc 81)
        (cond (Nat.beq pc 80) (some (.imul, 1, 0, 0, 0, 0, 0, 0)) none)
        (cond (Nat.beq pc 81) (some (.iconst 3, 1, 0, 0, 0, 0, 3, 0)) none))
       (cond (Nat.blt pc 83)
        (cond (Nat.beq pc 82) (some (.iadd, 1, 0, 0, 0, 0, 0, 0)) none)
        (cond (Nat.blt pc 84)
         (cond (Nat.beq pc 83) (some (.iaload, 1, 0, 0, 0, 0, 0, 0)) none)
         (cond (Nat.beq pc 84) (some (.istore 6, 2, 0, 0, 0, 0, 0, 0)) none))))
      (cond (Nat.blt pc 93)
       (cond (Nat.blt pc 88)
        (cond (Nat.beq pc 86) (some (.iload 5, 2, 0, 0, 0, 0, 0, 0)) none)
        (cond (Nat.blt pc 90)
         (cond (Nat.beq pc 88) (some (.iload 6, 2, 0, 0, 0, 0, 0, 0)) none)
         (cond (Nat.beq pc 90) (some (.if_icmp .eq 18, 3, 108, 0, 0, 0, 0, 0)) none)))
       (cond (Nat.blt pc 95)
        (cond (Nat.beq pc 93) (some (.iload 5, 2, 0, 0, 0, 0, 0, 0)) none)
        (cond (Nat.blt pc 97)
         (cond (Nat.beq pc 95) (some (.iload 6, 2, 0, 0, 0, 0, 0, 0)) none)
         (cond (Nat.beq pc 97) (some (.if_icmp .le 7, 3, 104, 0, 0, 0, 0, 0)) none))))))
    (cond (Nat.blt pc 117)
     (cond (Nat.blt pc 109)
      (cond (Nat.blt pc 104)
       (cond (Nat.blt pc 101)
        (cond (Nat.beq pc 100) (some (.iconst 1, 1, 0, 0, 0, 0, 1, 0)) none)
        (cond (Nat.beq pc 101) (some (.goto 33, 3, 134, 0, 0, 0, 0, 0)) none))
       (cond (Nat.blt pc 105)
        (cond (Nat.beq pc 104) (some (.iconst 0, 1, 0, 0, 0, 0, 0, 0)) none)
        (cond (Nat.blt pc 108)
         (cond (Nat.beq pc 105) (some (.goto 29, 3, 134, 0, 0, 0, 0, 0)) none)
         (cond (Nat.beq pc 108) (some (.aload_n 0, 1, 0, 0, 0, 0, 0, 0)) none))))
      (cond (Nat.blt pc 114)
       (cond (Nat.blt pc 112)
        (cond (Nat.beq pc 109) (some (.getfield 13, 3, 8, 5, 2, 1762, 0, 0)) none)
        (cond (Nat.beq pc 112) (some (.bipush 10, 2, 0, 0, 0, 0, 10, 0)) none))
       (cond (Nat.blt pc 115)
        (cond (Nat.beq pc 114) (some (.iload_n 1, 1, 0, 0, 0, 0, 0, 0)) none)
        (cond (Nat.blt pc 116)
         (cond (Nat.beq pc 115) (some (.imul, 1, 0, 0, 0, 0, 0, 0)) none)
         (cond (Nat.beq pc 116) (some (.iaload, 1, 0, 0, 0, 0, 0, 0)) none)))))
     (cond (Nat.blt pc 125)
      (cond (Nat.blt pc 121)
       (cond (Nat.blt pc 118)
        (cond (Nat.beq pc 117) (some (.aload_n 0, 1, 0, 0, 0, 0, 0, 0)) none)
        (cond (Nat.beq pc 118) (some (.getfield 13, 3, 8, 5, 2, 1762, 0, 0)) none))
       (cond (Nat.blt pc 123)
        (cond (Nat.beq pc 121) (some (.bipush 10, 2, 0, 0, 0, 0, 10, 0)) none)
        (cond (Nat.blt pc 124)
         (cond (Nat.beq pc 123) (some (.iload_n 2, 1, 0, 0, 0, 0, 0, 0)) none)
         (cond (Nat.beq pc 124) (some (.imul, 1, 0, 0, 0, 0, 0, 0)) none))))
      (cond (Nat.blt pc 130)
       (cond (Nat.blt pc 126)
        (cond (Nat.beq pc 125) (some (.iaload, 1, 0, 0, 0, 0, 0, 0)) none)
        (cond (Nat.blt pc 129)
         (cond (Nat.beq pc 126) (some (.if_icmp .ge 7, 3, 133, 0, 0, 0, 0, 0)) none)
         (cond (Nat.beq pc 129) (some (.iconst 1, 1, 0, 0, 0, 0, 1, 0)) none)))
       (cond (Nat.blt pc 133)
        (cond (Nat.beq pc 130) (some (.goto 4, 3, 134, 0, 0, 0, 0, 0)) none)
        (cond (Nat.blt pc 134)
         (cond (Nat.beq pc 133) (some (.iconst 0, 1, 0, 0, 0, 0, 0, 0)) none)
         (cond (Nat.beq pc 134) (some (.ireturn, 1, 0, 0, 1, 0, 0, 0)) none)))))))) none
-- PrintHouseModel.rank (I)I
def zc130 (pc : Nat) : Option z_I := cond (Nat.blt pc 50)
  (cond (Nat.blt pc 23)
   (cond (Nat.blt pc 9)
    (cond (Nat.blt pc 3)
     (cond (Nat.blt pc 1)
      (cond (Nat.beq pc 0) (some (.iconst 0, 1, 0, 0, 0, 0, 0, 0)) none)
      (cond (Nat.blt pc 2)
       (cond (Nat.beq pc 1) (some (.istore_n 2, 1, 0, 0, 0, 0, 0, 0)) none)
       (cond (Nat.beq pc 2) (some (.iconst 0, 1, 0, 0, 0, 0, 0, 0)) none)))
     (cond (Nat.blt pc 5)
      (cond (Nat.blt pc 4)
       (cond (Nat.beq pc 3) (some (.istore_n 3, 1, 0, 0, 0, 0, 0, 0)) none)
       (cond (Nat.beq pc 4) (some (.iload_n 3, 1, 0, 0, 0, 0, 0, 0)) none))
      (cond (Nat.blt pc 6)
       (cond (Nat.beq pc 5) (some (.aload_n 0, 1, 0, 0, 0, 0, 0, 0)) none)
       (cond (Nat.beq pc 6) (some (.getfield 137, 3, 8, 4, 0, 1760, 0, 0)) none))))
    (cond (Nat.blt pc 15)
     (cond (Nat.blt pc 13)
      (cond (Nat.blt pc 12)
       (cond (Nat.beq pc 9) (some (.if_icmp .ge 39, 3, 48, 0, 0, 0, 0, 0)) none)
       (cond (Nat.beq pc 12) (some (.iload_n 2, 1, 0, 0, 0, 0, 0, 0)) none))
      (cond (Nat.blt pc 14)
       (cond (Nat.beq pc 13) (some (.iload_n 3, 1, 0, 0, 0, 0, 0, 0)) none)
       (cond (Nat.beq pc 14) (some (.iload_n 1, 1, 0, 0, 0, 0, 0, 0)) none)))
     (cond (Nat.blt pc 19)
      (cond (Nat.blt pc 18)
       (cond (Nat.beq pc 15) (some (.if_icmp .eq 24, 3, 39, 0, 0, 0, 0, 0)) none)
       (cond (Nat.beq pc 18) (some (.aload_n 0, 1, 0, 0, 0, 0, 0, 0)) none))
      (cond (Nat.blt pc 20)
       (cond (Nat.beq pc 19) (some (.iload_n 3, 1, 0, 0, 0, 0, 0, 0)) none)
       (cond (Nat.beq pc 20) (some (.invokevirtual 140, 3, 115, 0, 0, 2094, 0, 0)) none)))))
   (cond (Nat.blt pc 36)
    (cond (Nat.blt pc 28)
     (cond (Nat.blt pc 26)
      (cond (Nat.beq pc 23) (some (.ifCond .ne 16, 3, 39, 0, 0, 0, 0, 0)) none)
      (cond (Nat.blt pc 27)
       (cond (Nat.beq pc 26) (some (.aload_n 0, 1, 0, 0, 0, 0, 0, 0)) none)
       (cond (Nat.beq pc 27) (some (.iload_n 3, 1, 0, 0, 0, 0, 0, 0)) none)))
     (cond (Nat.blt pc 32)
      (cond (Nat.blt pc 29)
       (cond (Nat.beq pc 28) (some (.iload_n 1, 1, 0, 0, 0, 0, 0, 0)) none)
       (cond (Nat.beq pc 29) (some (.invokevirtual 205, 3, 129, 0, 0, 2190, 0, 0)) none))
      (cond (Nat.blt pc 35)
       (cond (Nat.beq pc 32) (some (.ifCond .eq 7, 3, 39, 0, 0, 0, 0, 0)) none)
       (cond (Nat.beq pc 35) (some (.iconst 1, 1, 0, 0, 0, 0, 1, 0)) none))))
    (cond (Nat.blt pc 42)
     (cond (Nat.blt pc 40)
      (cond (Nat.blt pc 39)
       (cond (Nat.beq pc 36) (some (.goto 4, 3, 40, 0, 0, 0, 0, 0)) none)
       (cond (Nat.beq pc 39) (some (.iconst 0, 1, 0, 0, 0, 0, 0, 0)) none))
      (cond (Nat.blt pc 41)
       (cond (Nat.beq pc 40) (some (.iadd, 1, 0, 0, 0, 0, 0, 0)) none)
       (cond (Nat.beq pc 41) (some (.istore_n 2, 1, 0, 0, 0, 0, 0, 0)) none)))
     (cond (Nat.blt pc 48)
      (cond (Nat.blt pc 45)
       (cond (Nat.beq pc 42) (some (.iinc 3 1, 3, 0, 0, 0, 0, 1, 0)) none)
       (cond (Nat.beq pc 45) (some (.goto (-41), 3, 4, 0, 0, 0, 0, 0)) none))
      (cond (Nat.blt pc 49)
       (cond (Nat.beq pc 48) (some (.iload_n 2, 1, 0, 0, 0, 0, 0, 0)) none)
       (cond (Nat.beq pc 49) (some (.ireturn, 1, 0, 0, 0, 0, 0, 0)) none)))))) none
-- PrintHouseModel.list ()V
def zc131 (pc : Nat) : Option z_I := cond (Nat.blt pc 56)
  (cond (Nat.blt pc 25)
   (cond (Nat.blt pc 11)
    (cond (Nat.blt pc 3)
     (cond (Nat.blt pc 1)
      (cond (Nat.beq pc 0) (some (.iconst 0, 1, 0, 0, 0, 0, 0, 0)) none)
      (cond (Nat.blt pc 2)
       (cond (Nat.beq pc 1) (some (.istore_n 1, 1, 0, 0, 0, 0, 0, 0)) none)
       (cond (Nat.beq pc 2) (some (.iload_n 1, 1, 0, 0, 0, 0, 0, 0)) none)))
     (cond (Nat.blt pc 7)
      (cond (Nat.blt pc 4)
       (cond (Nat.beq pc 3) (some (.aload_n 0, 1, 0, 0, 0, 0, 0, 0)) none)
       (cond (Nat.beq pc 4) (some (.getfield 137, 3, 8, 4, 0, 1760, 0, 0)) none))
      (cond (Nat.blt pc 10)
       (cond (Nat.beq pc 7) (some (.if_icmp .ge 48, 3, 55, 0, 0, 0, 0, 0)) none)
       (cond (Nat.beq pc 10) (some (.iconst 0, 1, 0, 0, 0, 0, 0, 0)) none))))
    (cond (Nat.blt pc 17)
     (cond (Nat.blt pc 13)
      (cond (Nat.blt pc 12)
       (cond (Nat.beq pc 11) (some (.istore_n 2, 1, 0, 0, 0, 0, 0, 0)) none)
       (cond (Nat.beq pc 12) (some (.iload_n 2, 1, 0, 0, 0, 0, 0, 0)) none))
      (cond (Nat.blt pc 14)
       (cond (Nat.beq pc 13) (some (.aload_n 0, 1, 0, 0, 0, 0, 0, 0)) none)
       (cond (Nat.beq pc 14) (some (.getfield 137, 3, 8, 4, 0, 1760, 0, 0)) none)))
     (cond (Nat.blt pc 21)
      (cond (Nat.blt pc 20)
       (cond (Nat.beq pc 17) (some (.if_icmp .ge 32, 3, 49, 0, 0, 0, 0, 0)) none)
       (cond (Nat.beq pc 20) (some (.aload_n 0, 1, 0, 0, 0, 0, 0, 0)) none))
      (cond (Nat.blt pc 22)
       (cond (Nat.beq pc 21) (some (.iload_n 2, 1, 0, 0, 0, 0, 0, 0)) none)
       (cond (Nat.beq pc 22) (some (.invokevirtual 140, 3, 115, 0, 0, 2094, 0, 0)) none)))))
   (cond (Nat.blt pc 38)
    (cond (Nat.blt pc 30)
     (cond (Nat.blt pc 28)
      (cond (Nat.beq pc 25) (some (.ifCond .ne 18, 3, 43, 0, 0, 0, 0, 0)) none)
      (cond (Nat.blt pc 29)
       (cond (Nat.beq pc 28) (some (.aload_n 0, 1, 0, 0, 0, 0, 0, 0)) none)
       (cond (Nat.beq pc 29) (some (.iload_n 2, 1, 0, 0, 0, 0, 0, 0)) none)))
     (cond (Nat.blt pc 34)
      (cond (Nat.blt pc 33)
       (cond (Nat.beq pc 30) (some (.invokevirtual 208, 3, 130, 0, 0, 2182, 0, 0)) none)
       (cond (Nat.beq pc 33) (some (.iload_n 1, 1, 0, 0, 0, 0, 0, 0)) none))
      (cond (Nat.blt pc 37)
       (cond (Nat.beq pc 34) (some (.if_icmp .ne 9, 3, 43, 0, 0, 0, 0, 0)) none)
       (cond (Nat.beq pc 37) (some (.aload_n 0, 1, 0, 0, 0, 0, 0, 0)) none))))
    (cond (Nat.blt pc 46)
     (cond (Nat.blt pc 40)
      (cond (Nat.blt pc 39)
       (cond (Nat.beq pc 38) (some (.iload_n 2, 1, 0, 0, 0, 0, 0, 0)) none)
       (cond (Nat.beq pc 39) (some (.iconst 0, 1, 0, 0, 0, 0, 0, 0)) none))
      (cond (Nat.blt pc 43)
       (cond (Nat.beq pc 40) (some (.invokevirtual 211, 3, 128, 0, 0, 2198, 0, 0)) none)
       (cond (Nat.beq pc 43) (some (.iinc 2 1, 3, 0, 0, 0, 0, 1, 0)) none)))
     (cond (Nat.blt pc 52)
      (cond (Nat.blt pc 49)
       (cond (Nat.beq pc 46) (some (.goto (-34), 3, 12, 0, 0, 0, 0, 0)) none)
       (cond (Nat.beq pc 49) (some (.iinc 1 1, 3, 0, 0, 0, 0, 1, 0)) none))
      (cond (Nat.blt pc 55)
       (cond (Nat.beq pc 52) (some (.goto (-50), 3, 2, 0, 0, 0, 0, 0)) none)
       (cond (Nat.beq pc 55) (some (.return_, 1, 0, 0, 0, 0, 0, 0)) none)))))) none
-- PrintHouseModel.does (I)I
def zc132 (pc : Nat) : Option z_I := cond (Nat.blt pc 171)
  (cond (Nat.blt pc 80)
   (cond (Nat.blt pc 39)
    (cond (Nat.blt pc 19)
     (cond (Nat.blt pc 10)
      (cond (Nat.blt pc 5)
       (cond (Nat.blt pc 1)
        (cond (Nat.beq pc 0) (some (.iload_n 1, 1, 0, 0, 0, 0, 0, 0)) none)
        (cond (Nat.blt pc 2)
         (cond (Nat.beq pc 1) (some (.iconst 2, 1, 0, 0, 0, 0, 2, 0)) none)
         (cond (Nat.beq pc 2) (some (.if_icmp .ne 100, 3, 102, 0, 0, 0, 0, 0)) none)))
       (cond (Nat.blt pc 8)
        (cond (Nat.beq pc 5) (some (.sipush 250, 3, 0, 0, 0, 0, 250, 0)) none)
        (cond (Nat.blt pc 9)
         (cond (Nat.beq pc 8) (some (.istore_n 2, 1, 0, 0, 0, 0, 0, 0)) none)
         (cond (Nat.beq pc 9) (some (.aload_n 0, 1, 0, 0, 0, 0, 0, 0)) none))))
      (cond (Nat.blt pc 15)
       (cond (Nat.blt pc 11)
        (cond (Nat.beq pc 10) (some (.iconst 1, 1, 0, 0, 0, 0, 1, 0)) none)
        (cond (Nat.blt pc 12)
         (cond (Nat.beq pc 11) (some (.aload_n 0, 1, 0, 0, 0, 0, 0, 0)) none)
         (cond (Nat.beq pc 12) (some (.getfield 13, 3, 8, 5, 2, 1762, 0, 0)) none)))
       (cond (Nat.blt pc 16)
        (cond (Nat.beq pc 15) (some (.iload_n 2, 1, 0, 0, 0, 0, 0, 0)) none)
        (cond (Nat.blt pc 18)
         (cond (Nat.beq pc 16) (some (.bipush 7, 2, 0, 0, 0, 0, 7, 0)) none)
         (cond (Nat.beq pc 18) (some (.iadd, 1, 0, 0, 0, 0, 0, 0)) none)))))
     (cond (Nat.blt pc 29)
      (cond (Nat.blt pc 24)
       (cond (Nat.blt pc 20)
        (cond (Nat.beq pc 19) (some (.iaload, 1, 0, 0, 0, 0, 0, 0)) none)
        (cond (Nat.blt pc 21)
         (cond (Nat.beq pc 20) (some (.iadd, 1, 0, 0, 0, 0, 0, 0)) none)
         (cond (Nat.beq pc 21) (some (.invokevirtual 189, 3, 124, 0, 0, 2118, 0, 0)) none)))
       (cond (Nat.blt pc 27)
        (cond (Nat.beq pc 24) (some (.ifCond .ne 5, 3, 29, 0, 0, 0, 0, 0)) none)
        (cond (Nat.blt pc 28)
         (cond (Nat.beq pc 27) (some (.iconst (-1), 1, 0, 0, 0, 0, (-1), 0)) none)
         (cond (Nat.beq pc 28) (some (.ireturn, 1, 0, 0, 0, 0, 0, 0)) none))))
      (cond (Nat.blt pc 34)
       (cond (Nat.blt pc 30)
        (cond (Nat.beq pc 29) (some (.aload_n 0, 1, 0, 0, 0, 0, 0, 0)) none)
        (cond (Nat.blt pc 33)
         (cond (Nat.beq pc 30) (some (.getfield 13, 3, 8, 5, 2, 1762, 0, 0)) none)
         (cond (Nat.beq pc 33) (some (.iload_n 2, 1, 0, 0, 0, 0, 0, 0)) none)))
       (cond (Nat.blt pc 35)
        (cond (Nat.beq pc 34) (some (.aload_n 0, 1, 0, 0, 0, 0, 0, 0)) none)
        (cond (Nat.blt pc 38)
         (cond (Nat.beq pc 35) (some (.getfield 19, 3, 8, 7, 0, 1766, 0, 0)) none)
         (cond (Nat.beq pc 38) (some (.iastore, 1, 0, 0, 0, 0, 0, 0)) none))))))
    (cond (Nat.blt pc 56)
     (cond (Nat.blt pc 47)
      (cond (Nat.blt pc 44)
       (cond (Nat.blt pc 40)
        (cond (Nat.beq pc 39) (some (.aload_n 0, 1, 0, 0, 0, 0, 0, 0)) none)
        (cond (Nat.blt pc 43)
         (cond (Nat.beq pc 40) (some (.getfield 13, 3, 8, 5, 2, 1762, 0, 0)) none)
         (cond (Nat.beq pc 43) (some (.iload_n 2, 1, 0, 0, 0, 0, 0, 0)) none)))
       (cond (Nat.blt pc 45)
        (cond (Nat.beq pc 44) (some (.iconst 1, 1, 0, 0, 0, 0, 1, 0)) none)
        (cond (Nat.blt pc 46)
         (cond (Nat.beq pc 45) (some (.iadd, 1, 0, 0, 0, 0, 0, 0)) none)
         (cond (Nat.beq pc 46) (some (.aload_n 0, 1, 0, 0, 0, 0, 0, 0)) none))))
      (cond (Nat.blt pc 53)
       (cond (Nat.blt pc 50)
        (cond (Nat.beq pc 47) (some (.getfield 13, 3, 8, 5, 2, 1762, 0, 0)) none)
        (cond (Nat.blt pc 51)
         (cond (Nat.beq pc 50) (some (.iload_n 2, 1, 0, 0, 0, 0, 0, 0)) none)
         (cond (Nat.beq pc 51) (some (.bipush 9, 2, 0, 0, 0, 0, 9, 0)) none)))
       (cond (Nat.blt pc 54)
        (cond (Nat.beq pc 53) (some (.iadd, 1, 0, 0, 0, 0, 0, 0)) none)
        (cond (Nat.blt pc 55)
         (cond (Nat.beq pc 54) (some (.iaload, 1, 0, 0, 0, 0, 0, 0)) none)
         (cond (Nat.beq pc 55) (some (.iconst 1, 1, 0, 0, 0, 0, 1, 0)) none)))))
     (cond (Nat.blt pc 66)
      (cond (Nat.blt pc 63)
       (cond (Nat.blt pc 59)
        (cond (Nat.beq pc 56) (some (.if_icmp .ne 7, 3, 63, 0, 0, 0, 0, 0)) none)
        (cond (Nat.blt pc 60)
         (cond (Nat.beq pc 59) (some (.iconst 4, 1, 0, 0, 0, 0, 4, 0)) none)
         (cond (Nat.beq pc 60) (some (.goto 4, 3, 64, 0, 0, 0, 0, 0)) none)))
       (cond (Nat.blt pc 64)
        (cond (Nat.beq pc 63) (some (.iconst 3, 1, 0, 0, 0, 0, 3, 0)) none)
        (cond (Nat.blt pc 65)
         (cond (Nat.beq pc 64) (some (.iastore, 1, 0, 0, 0, 0, 0, 0)) none)
         (cond (Nat.beq pc 65) (some (.aload_n 0, 1, 0, 0, 0, 0, 0, 0)) none))))
      (cond (Nat.blt pc 72)
       (cond (Nat.blt pc 68)
        (cond (Nat.beq pc 66) (some (.bipush 25, 2, 0, 0, 0, 0, 25, 0)) none)
        (cond (Nat.blt pc 69)
         (cond (Nat.beq pc 68) (some (.aload_n 0, 1, 0, 0, 0, 0, 0, 0)) none)
         (cond (Nat.beq pc 69) (some (.getfield 137, 3, 8, 4, 0, 1760, 0, 0)) none)))
       (cond (Nat.blt pc 76)
        (cond (Nat.blt pc 75)
         (cond (Nat.beq pc 72) (some (.invokevirtual 176, 3, 123, 0, 0, 2150, 0, 0)) none)
         (cond (Nat.beq pc 75) (some (.aload_n 0, 1, 0, 0, 0, 0, 0, 0)) none))
        (cond (Nat.blt pc 77)
         (cond (Nat.beq pc 76) (some (.dup, 1, 0, 0, 0, 0, 0, 0)) none)
         (cond (Nat.beq pc 77) (some (.getfield 137, 3, 8, 4, 0, 1760, 0, 0)) none)))))))
   (cond (Nat.blt pc 121)
    (cond (Nat.blt pc 100)
     (cond (Nat.blt pc 90)
      (cond (Nat.blt pc 85)
       (cond (Nat.blt pc 81)
        (cond (Nat.beq pc 80) (some (.iconst 1, 1, 0, 0, 0, 0, 1, 0)) none)
        (cond (Nat.blt pc 82)
         (cond (Nat.beq pc 81) (some (.iadd, 1, 0, 0, 0, 0, 0, 0)) none)
         (cond (Nat.beq pc 82) (some (.putfield 137, 3, 8, 4, 0, 1760, 0, 0)) none)))
       (cond (Nat.blt pc 86)
        (cond (Nat.beq pc 85) (some (.aload_n 0, 1, 0, 0, 0, 0, 0, 0)) none)
        (cond (Nat.blt pc 87)
         (cond (Nat.beq pc 86) (some (.dup, 1, 0, 0, 0, 0, 0, 0)) none)
         (cond (Nat.beq pc 87) (some (.getfield 19, 3, 8, 7, 0, 1766, 0, 0)) none))))
      (cond (Nat.blt pc 95)
       (cond (Nat.blt pc 91)
        (cond (Nat.beq pc 90) (some (.iconst 1, 1, 0, 0, 0, 0, 1, 0)) none)
        (cond (Nat.blt pc 92)
         (cond (Nat.beq pc 91) (some (.iadd, 1, 0, 0, 0, 0, 0, 0)) none)
         (cond (Nat.beq pc 92) (some (.putfield 19, 3, 8, 7, 0, 1766, 0, 0)) none)))
       (cond (Nat.blt pc 96)
        (cond (Nat.beq pc 95) (some (.aload_n 0, 1, 0, 0, 0, 0, 0, 0)) none)
        (cond (Nat.blt pc 99)
         (cond (Nat.beq pc 96) (some (.getfield 19, 3, 8, 7, 0, 1766, 0, 0)) none)
         (cond (Nat.beq pc 99) (some (.iconst 1, 1, 0, 0, 0, 0, 1, 0)) none)))))
     (cond (Nat.blt pc 109)
      (cond (Nat.blt pc 103)
       (cond (Nat.blt pc 101)
        (cond (Nat.beq pc 100) (some (.isub, 1, 0, 0, 0, 0, 0, 0)) none)
        (cond (Nat.blt pc 102)
         (cond (Nat.beq pc 101) (some (.ireturn, 1, 0, 0, 0, 0, 0, 0)) none)
         (cond (Nat.beq pc 102) (some (.iload_n 1, 1, 0, 0, 0, 0, 0, 0)) none)))
       (cond (Nat.blt pc 105)
        (cond (Nat.beq pc 103) (some (.bipush 8, 2, 0, 0, 0, 0, 8, 0)) none)
        (cond (Nat.blt pc 108)
         (cond (Nat.beq pc 105) (some (.if_icmp .le 24, 3, 129, 0, 0, 0, 0, 0)) none)
         (cond (Nat.beq pc 108) (some (.iload_n 1, 1, 0, 0, 0, 0, 0, 0)) none))))
      (cond (Nat.blt pc 115)
       (cond (Nat.blt pc 111)
        (cond (Nat.beq pc 109) (some (.bipush 11, 2, 0, 0, 0, 0, 11, 0)) none)
        (cond (Nat.blt pc 114)
         (cond (Nat.beq pc 111) (some (.if_icmp .ge 18, 3, 129, 0, 0, 0, 0, 0)) none)
         (cond (Nat.beq pc 114) (some (.iload_n 1, 1, 0, 0, 0, 0, 0, 0)) none)))
       (cond (Nat.blt pc 117)
        (cond (Nat.beq pc 115) (some (.bipush 9, 2, 0, 0, 0, 0, 9, 0)) none)
        (cond (Nat.blt pc 120)
         (cond (Nat.beq pc 117) (some (.if_icmp .ne 10, 3, 127, 0, 0, 0, 0, 0)) none)
         (cond (Nat.beq pc 120) (some (.aload_n 0, 1, 0, 0, 0, 0, 0, 0)) none))))))
    (cond (Nat.blt pc 145)
     (cond (Nat.blt pc 131)
      (cond (Nat.blt pc 128)
       (cond (Nat.blt pc 124)
        (cond (Nat.beq pc 121) (some (.getfield 85, 3, 8, 17, 0, 1786, 0, 0)) none)
        (cond (Nat.blt pc 127)
         (cond (Nat.beq pc 124) (some (.goto 4, 3, 128, 0, 0, 0, 0, 0)) none)
         (cond (Nat.beq pc 127) (some (.iconst 0, 1, 0, 0, 0, 0, 0, 0)) none)))
       (cond (Nat.blt pc 129)
        (cond (Nat.beq pc 128) (some (.ireturn, 1, 0, 0, 0, 0, 0, 0)) none)
        (cond (Nat.blt pc 130)
         (cond (Nat.beq pc 129) (some (.aload_n 0, 1, 0, 0, 0, 0, 0, 0)) none)
         (cond (Nat.beq pc 130) (some (.aload_n 0, 1, 0, 0, 0, 0, 0, 0)) none))))
      (cond (Nat.blt pc 137)
       (cond (Nat.blt pc 134)
        (cond (Nat.beq pc 131) (some (.getfield 85, 3, 8, 17, 0, 1786, 0, 0)) none)
        (cond (Nat.blt pc 135)
         (cond (Nat.beq pc 134) (some (.iload_n 1, 1, 0, 0, 0, 0, 0, 0)) none)
         (cond (Nat.beq pc 135) (some (.bipush 8, 2, 0, 0, 0, 0, 8, 0)) none)))
       (cond (Nat.blt pc 140)
        (cond (Nat.beq pc 137) (some (.if_icmp .ne 8, 3, 145, 0, 0, 0, 0, 0)) none)
        (cond (Nat.blt pc 142)
         (cond (Nat.beq pc 140) (some (.bipush 7, 2, 0, 0, 0, 0, 7, 0)) none)
         (cond (Nat.beq pc 142) (some (.goto 14, 3, 156, 0, 0, 0, 0, 0)) none)))))
     (cond (Nat.blt pc 156)
      (cond (Nat.blt pc 151)
       (cond (Nat.blt pc 146)
        (cond (Nat.beq pc 145) (some (.iload_n 1, 1, 0, 0, 0, 0, 0, 0)) none)
        (cond (Nat.blt pc 148)
         (cond (Nat.beq pc 146) (some (.bipush 12, 2, 0, 0, 0, 0, 12, 0)) none)
         (cond (Nat.beq pc 148) (some (.if_icmp .ne 7, 3, 155, 0, 0, 0, 0, 0)) none)))
       (cond (Nat.blt pc 152)
        (cond (Nat.beq pc 151) (some (.iconst 4, 1, 0, 0, 0, 0, 4, 0)) none)
        (cond (Nat.blt pc 155)
         (cond (Nat.beq pc 152) (some (.goto 4, 3, 156, 0, 0, 0, 0, 0)) none)
         (cond (Nat.beq pc 155) (some (.iconst 3, 1, 0, 0, 0, 0, 3, 0)) none))))
      (cond (Nat.blt pc 163)
       (cond (Nat.blt pc 159)
        (cond (Nat.beq pc 156) (some (.invokevirtual 215, 3, 125, 0, 0, 2158, 0, 0)) none)
        (cond (Nat.blt pc 162)
         (cond (Nat.beq pc 159) (some (.ifCond .eq 10, 3, 169, 0, 0, 0, 0, 0)) none)
         (cond (Nat.beq pc 162) (some (.aload_n 0, 1, 0, 0, 0, 0, 0, 0)) none)))
       (cond (Nat.blt pc 169)
        (cond (Nat.blt pc 166)
         (cond (Nat.beq pc 163) (some (.getfield 85, 3, 8, 17, 0, 1786, 0, 0)) none)
         (cond (Nat.beq pc 166) (some (.goto 4, 3, 170, 0, 0, 0, 0, 0)) none))
        (cond (Nat.blt pc 170)
         (cond (Nat.beq pc 169) (some (.iconst (-1), 1, 0, 0, 0, 0, (-1), 0)) none)
         (cond (Nat.beq pc 170) (some (.ireturn, 1, 0, 0, 0, 0, 0, 0)) none)))))))) none
-- PrintHouseModel.request ()I
def zc133 (pc : Nat) : Option z_I := cond (Nat.blt pc 205)
  (cond (Nat.blt pc 101)
   (cond (Nat.blt pc 53)
    (cond (Nat.blt pc 26)
     (cond (Nat.blt pc 13)
      (cond (Nat.blt pc 5)
       (cond (Nat.blt pc 1)
        (cond (Nat.beq pc 0) (some (.aload_n 0, 1, 0, 0, 0, 0, 0, 0)) none)
        (cond (Nat.blt pc 2)
         (cond (Nat.beq pc 1) (some (.aload_n 0, 1, 0, 0, 0, 0, 0, 0)) none)
         (cond (Nat.beq pc 2) (some (.getfield 173, 3, 8, 1, 1, 1754, 0, 0)) none)))
       (cond (Nat.blt pc 9)
        (cond (Nat.blt pc 8)
         (cond (Nat.beq pc 5) (some (.ifCond .eq 7, 3, 12, 0, 0, 0, 0, 0)) none)
         (cond (Nat.beq pc 8) (some (.iconst 1, 1, 0, 0, 0, 0, 1, 0)) none))
        (cond (Nat.blt pc 12)
         (cond (Nat.beq pc 9) (some (.goto 4, 3, 13, 0, 0, 0, 0, 0)) none)
         (cond (Nat.beq pc 12) (some (.iconst 0, 1, 0, 0, 0, 0, 0, 0)) none))))
      (cond (Nat.blt pc 20)
       (cond (Nat.blt pc 16)
        (cond (Nat.beq pc 13) (some (.putfield 41, 3, 8, 0, 0, 1752, 0, 0)) none)
        (cond (Nat.blt pc 17)
         (cond (Nat.beq pc 16) (some (.aload_n 0, 1, 0, 0, 0, 0, 0, 0)) none)
         (cond (Nat.beq pc 17) (some (.getfield 173, 3, 8, 1, 1, 1754, 0, 0)) none)))
       (cond (Nat.blt pc 24)
        (cond (Nat.blt pc 23)
         (cond (Nat.beq pc 20) (some (.ifCond .eq 5, 3, 25, 0, 0, 0, 0, 0)) none)
         (cond (Nat.beq pc 23) (some (.iconst 0, 1, 0, 0, 0, 0, 0, 0)) none))
        (cond (Nat.blt pc 25)
         (cond (Nat.beq pc 24) (some (.ireturn, 1, 0, 0, 0, 0, 0, 0)) none)
         (cond (Nat.beq pc 25) (some (.aload_n 0, 1, 0, 0, 0, 0, 0, 0)) none)))))
     (cond (Nat.blt pc 41)
      (cond (Nat.blt pc 33)
       (cond (Nat.blt pc 29)
        (cond (Nat.beq pc 26) (some (.getfield 44, 3, 8, 2, 0, 1756, 0, 0)) none)
        (cond (Nat.blt pc 30)
         (cond (Nat.beq pc 29) (some (.iconst 3, 1, 0, 0, 0, 0, 3, 0)) none)
         (cond (Nat.beq pc 30) (some (.if_icmp .le 23, 3, 53, 0, 0, 0, 0, 0)) none)))
       (cond (Nat.blt pc 37)
        (cond (Nat.blt pc 36)
         (cond (Nat.beq pc 33) (some (.sipush 256, 3, 0, 0, 0, 0, 256, 0)) none)
         (cond (Nat.beq pc 36) (some (.aload_n 0, 1, 0, 0, 0, 0, 0, 0)) none))
        (cond (Nat.blt pc 40)
         (cond (Nat.beq pc 37) (some (.getfield 7, 3, 8, 3, 2, 1758, 0, 0)) none)
         (cond (Nat.beq pc 40) (some (.iconst 2, 1, 0, 0, 0, 0, 2, 0)) none))))
      (cond (Nat.blt pc 47)
       (cond (Nat.blt pc 43)
        (cond (Nat.blt pc 42)
         (cond (Nat.beq pc 41) (some (.iaload, 1, 0, 0, 0, 0, 0, 0)) none)
         (cond (Nat.beq pc 42) (some (.imul, 1, 0, 0, 0, 0, 0, 0)) none))
        (cond (Nat.blt pc 44)
         (cond (Nat.beq pc 43) (some (.aload_n 0, 1, 0, 0, 0, 0, 0, 0)) none)
         (cond (Nat.beq pc 44) (some (.getfield 7, 3, 8, 3, 2, 1758, 0, 0)) none)))
       (cond (Nat.blt pc 49)
        (cond (Nat.blt pc 48)
         (cond (Nat.beq pc 47) (some (.iconst 3, 1, 0, 0, 0, 0, 3, 0)) none)
         (cond (Nat.beq pc 48) (some (.iaload, 1, 0, 0, 0, 0, 0, 0)) none))
        (cond (Nat.blt pc 50)
         (cond (Nat.beq pc 49) (some (.iadd, 1, 0, 0, 0, 0, 0, 0)) none)
         (cond (Nat.beq pc 50) (some (.goto 4, 3, 54, 0, 0, 0, 0, 0)) none))))))
    (cond (Nat.blt pc 73)
     (cond (Nat.blt pc 60)
      (cond (Nat.blt pc 56)
       (cond (Nat.blt pc 54)
        (cond (Nat.beq pc 53) (some (.iconst 0, 1, 0, 0, 0, 0, 0, 0)) none)
        (cond (Nat.blt pc 55)
         (cond (Nat.beq pc 54) (some (.istore_n 1, 1, 0, 0, 0, 0, 0, 0)) none)
         (cond (Nat.beq pc 55) (some (.iconst 0, 1, 0, 0, 0, 0, 0, 0)) none)))
       (cond (Nat.blt pc 58)
        (cond (Nat.blt pc 57)
         (cond (Nat.beq pc 56) (some (.istore_n 2, 1, 0, 0, 0, 0, 0, 0)) none)
         (cond (Nat.beq pc 57) (some (.iconst 4, 1, 0, 0, 0, 0, 4, 0)) none))
        (cond (Nat.blt pc 59)
         (cond (Nat.beq pc 58) (some (.istore_n 3, 1, 0, 0, 0, 0, 0, 0)) none)
         (cond (Nat.beq pc 59) (some (.iload_n 3, 1, 0, 0, 0, 0, 0, 0)) none))))
      (cond (Nat.blt pc 66)
       (cond (Nat.blt pc 62)
        (cond (Nat.beq pc 60) (some (.bipush 8, 2, 0, 0, 0, 0, 8, 0)) none)
        (cond (Nat.blt pc 65)
         (cond (Nat.beq pc 62) (some (.if_icmp .ge 34, 3, 96, 0, 0, 0, 0, 0)) none)
         (cond (Nat.beq pc 65) (some (.iload_n 2, 1, 0, 0, 0, 0, 0, 0)) none)))
       (cond (Nat.blt pc 69)
        (cond (Nat.blt pc 68)
         (cond (Nat.beq pc 66) (some (.bipush 8, 2, 0, 0, 0, 0, 8, 0)) none)
         (cond (Nat.beq pc 68) (some (.ishl, 1, 0, 0, 0, 0, 0, 0)) none))
        (cond (Nat.blt pc 70)
         (cond (Nat.beq pc 69) (some (.aload_n 0, 1, 0, 0, 0, 0, 0, 0)) none)
         (cond (Nat.beq pc 70) (some (.getfield 44, 3, 8, 2, 0, 1756, 0, 0)) none)))))
     (cond (Nat.blt pc 87)
      (cond (Nat.blt pc 79)
       (cond (Nat.blt pc 75)
        (cond (Nat.beq pc 73) (some (.bipush 7, 2, 0, 0, 0, 0, 7, 0)) none)
        (cond (Nat.blt pc 78)
         (cond (Nat.beq pc 75) (some (.if_icmp .le 12, 3, 87, 0, 0, 0, 0, 0)) none)
         (cond (Nat.beq pc 78) (some (.aload_n 0, 1, 0, 0, 0, 0, 0, 0)) none)))
       (cond (Nat.blt pc 83)
        (cond (Nat.blt pc 82)
         (cond (Nat.beq pc 79) (some (.getfield 7, 3, 8, 3, 2, 1758, 0, 0)) none)
         (cond (Nat.beq pc 82) (some (.iload_n 3, 1, 0, 0, 0, 0, 0, 0)) none))
        (cond (Nat.blt pc 84)
         (cond (Nat.beq pc 83) (some (.iaload, 1, 0, 0, 0, 0, 0, 0)) none)
         (cond (Nat.beq pc 84) (some (.goto 4, 3, 88, 0, 0, 0, 0, 0)) none))))
      (cond (Nat.blt pc 93)
       (cond (Nat.blt pc 89)
        (cond (Nat.blt pc 88)
         (cond (Nat.beq pc 87) (some (.iconst 0, 1, 0, 0, 0, 0, 0, 0)) none)
         (cond (Nat.beq pc 88) (some (.ior, 1, 0, 0, 0, 0, 0, 0)) none))
        (cond (Nat.blt pc 90)
         (cond (Nat.beq pc 89) (some (.istore_n 2, 1, 0, 0, 0, 0, 0, 0)) none)
         (cond (Nat.beq pc 90) (some (.iinc 3 1, 3, 0, 0, 0, 0, 1, 0)) none)))
       (cond (Nat.blt pc 97)
        (cond (Nat.blt pc 96)
         (cond (Nat.beq pc 93) (some (.goto (-34), 3, 59, 0, 0, 0, 0, 0)) none)
         (cond (Nat.beq pc 96) (some (.aload_n 0, 1, 0, 0, 0, 0, 0, 0)) none))
        (cond (Nat.blt pc 98)
         (cond (Nat.beq pc 97) (some (.iload_n 1, 1, 0, 0, 0, 0, 0, 0)) none)
         (cond (Nat.beq pc 98) (some (.invokevirtual 218, 3, 119, 0, 0, 1948, 0, 0)) none)))))))
   (cond (Nat.blt pc 150)
    (cond (Nat.blt pc 125)
     (cond (Nat.blt pc 112)
      (cond (Nat.blt pc 104)
       (cond (Nat.blt pc 102)
        (cond (Nat.beq pc 101) (some (.istore_n 3, 1, 0, 0, 0, 0, 0, 0)) none)
        (cond (Nat.blt pc 103)
         (cond (Nat.beq pc 102) (some (.aload_n 0, 1, 0, 0, 0, 0, 0, 0)) none)
         (cond (Nat.beq pc 103) (some (.iconst 0, 1, 0, 0, 0, 0, 0, 0)) none)))
       (cond (Nat.blt pc 108)
        (cond (Nat.blt pc 107)
         (cond (Nat.beq pc 104) (some (.putfield 44, 3, 8, 2, 0, 1756, 0, 0)) none)
         (cond (Nat.beq pc 107) (some (.iload_n 3, 1, 0, 0, 0, 0, 0, 0)) none))
        (cond (Nat.blt pc 111)
         (cond (Nat.beq pc 108) (some (.ifCond .ne 11, 3, 119, 0, 0, 0, 0, 0)) none)
         (cond (Nat.beq pc 111) (some (.aload_n 0, 1, 0, 0, 0, 0, 0, 0)) none))))
      (cond (Nat.blt pc 119)
       (cond (Nat.blt pc 113)
        (cond (Nat.beq pc 112) (some (.iload_n 1, 1, 0, 0, 0, 0, 0, 0)) none)
        (cond (Nat.blt pc 116)
         (cond (Nat.beq pc 113) (some (.invokevirtual 221, 3, 132, 0, 0, 2110, 0, 0)) none)
         (cond (Nat.beq pc 116) (some (.goto 4, 3, 120, 0, 0, 0, 0, 0)) none)))
       (cond (Nat.blt pc 122)
        (cond (Nat.blt pc 120)
         (cond (Nat.beq pc 119) (some (.iconst 0, 1, 0, 0, 0, 0, 0, 0)) none)
         (cond (Nat.beq pc 120) (some (.istore 4, 2, 0, 0, 0, 0, 0, 0)) none))
        (cond (Nat.blt pc 124)
         (cond (Nat.beq pc 122) (some (.iload 4, 2, 0, 0, 0, 0, 0, 0)) none)
         (cond (Nat.beq pc 124) (some (.iconst (-1), 1, 0, 0, 0, 0, (-1), 0)) none)))))
     (cond (Nat.blt pc 136)
      (cond (Nat.blt pc 130)
       (cond (Nat.blt pc 128)
        (cond (Nat.beq pc 125) (some (.if_icmp .ne 5, 3, 130, 0, 0, 0, 0, 0)) none)
        (cond (Nat.blt pc 129)
         (cond (Nat.beq pc 128) (some (.iconst (-1), 1, 0, 0, 0, 0, (-1), 0)) none)
         (cond (Nat.beq pc 129) (some (.ireturn, 1, 0, 0, 0, 0, 0, 0)) none)))
       (cond (Nat.blt pc 132)
        (cond (Nat.blt pc 131)
         (cond (Nat.beq pc 130) (some (.aload_n 0, 1, 0, 0, 0, 0, 0, 0)) none)
         (cond (Nat.beq pc 131) (some (.iconst 0, 1, 0, 0, 0, 0, 0, 0)) none))
        (cond (Nat.blt pc 135)
         (cond (Nat.beq pc 132) (some (.putfield 26, 3, 8, 23, 0, 1798, 0, 0)) none)
         (cond (Nat.beq pc 135) (some (.aload_n 0, 1, 0, 0, 0, 0, 0, 0)) none))))
      (cond (Nat.blt pc 144)
       (cond (Nat.blt pc 140)
        (cond (Nat.blt pc 139)
         (cond (Nat.beq pc 136) (some (.sipush 257, 3, 0, 0, 0, 0, 257, 0)) none)
         (cond (Nat.beq pc 139) (some (.iconst 2, 1, 0, 0, 0, 0, 2, 0)) none))
        (cond (Nat.blt pc 143)
         (cond (Nat.beq pc 140) (some (.invokevirtual 192, 3, 126, 0, 0, 2166, 0, 0)) none)
         (cond (Nat.beq pc 143) (some (.aload_n 0, 1, 0, 0, 0, 0, 0, 0)) none)))
       (cond (Nat.blt pc 146)
        (cond (Nat.blt pc 145)
         (cond (Nat.beq pc 144) (some (.iload_n 3, 1, 0, 0, 0, 0, 0, 0)) none)
         (cond (Nat.beq pc 145) (some (.iconst 2, 1, 0, 0, 0, 0, 2, 0)) none))
        (cond (Nat.blt pc 149)
         (cond (Nat.beq pc 146) (some (.invokevirtual 192, 3, 126, 0, 0, 2166, 0, 0)) none)
         (cond (Nat.beq pc 149) (some (.aload_n 0, 1, 0, 0, 0, 0, 0, 0)) none))))))
    (cond (Nat.blt pc 178)
     (cond (Nat.blt pc 162)
      (cond (Nat.blt pc 155)
       (cond (Nat.blt pc 151)
        (cond (Nat.beq pc 150) (some (.iload_n 2, 1, 0, 0, 0, 0, 0, 0)) none)
        (cond (Nat.blt pc 152)
         (cond (Nat.beq pc 151) (some (.iconst 4, 1, 0, 0, 0, 0, 4, 0)) none)
         (cond (Nat.beq pc 152) (some (.invokevirtual 192, 3, 126, 0, 0, 2166, 0, 0)) none)))
       (cond (Nat.blt pc 159)
        (cond (Nat.blt pc 156)
         (cond (Nat.beq pc 155) (some (.iload_n 3, 1, 0, 0, 0, 0, 0, 0)) none)
         (cond (Nat.beq pc 156) (some (.ifCond .ne 16, 3, 172, 0, 0, 0, 0, 0)) none))
        (cond (Nat.blt pc 160)
         (cond (Nat.beq pc 159) (some (.iload_n 1, 1, 0, 0, 0, 0, 0, 0)) none)
         (cond (Nat.beq pc 160) (some (.bipush 10, 2, 0, 0, 0, 0, 10, 0)) none))))
      (cond (Nat.blt pc 172)
       (cond (Nat.blt pc 166)
        (cond (Nat.blt pc 165)
         (cond (Nat.beq pc 162) (some (.if_icmp .ne 10, 3, 172, 0, 0, 0, 0, 0)) none)
         (cond (Nat.beq pc 165) (some (.aload_n 0, 1, 0, 0, 0, 0, 0, 0)) none))
        (cond (Nat.blt pc 169)
         (cond (Nat.beq pc 166) (some (.invokevirtual 224, 3, 131, 0, 0, 2174, 0, 0)) none)
         (cond (Nat.beq pc 169) (some (.goto 28, 3, 197, 0, 0, 0, 0, 0)) none)))
       (cond (Nat.blt pc 176)
        (cond (Nat.blt pc 173)
         (cond (Nat.beq pc 172) (some (.iload_n 3, 1, 0, 0, 0, 0, 0, 0)) none)
         (cond (Nat.beq pc 173) (some (.ifCond .ne 24, 3, 197, 0, 0, 0, 0, 0)) none))
        (cond (Nat.blt pc 177)
         (cond (Nat.beq pc 176) (some (.aload_n 0, 1, 0, 0, 0, 0, 0, 0)) none)
         (cond (Nat.beq pc 177) (some (.aload_n 0, 1, 0, 0, 0, 0, 0, 0)) none)))))
     (cond (Nat.blt pc 193)
      (cond (Nat.blt pc 184)
       (cond (Nat.blt pc 180)
        (cond (Nat.beq pc 178) (some (.iload 4, 2, 0, 0, 0, 0, 0, 0)) none)
        (cond (Nat.blt pc 183)
         (cond (Nat.beq pc 180) (some (.invokevirtual 158, 3, 114, 0, 0, 2102, 0, 0)) none)
         (cond (Nat.beq pc 183) (some (.iload_n 1, 1, 0, 0, 0, 0, 0, 0)) none)))
       (cond (Nat.blt pc 189)
        (cond (Nat.blt pc 186)
         (cond (Nat.beq pc 184) (some (.bipush 9, 2, 0, 0, 0, 0, 9, 0)) none)
         (cond (Nat.beq pc 186) (some (.if_icmp .ne 7, 3, 193, 0, 0, 0, 0, 0)) none))
        (cond (Nat.blt pc 190)
         (cond (Nat.beq pc 189) (some (.iconst 1, 1, 0, 0, 0, 0, 1, 0)) none)
         (cond (Nat.beq pc 190) (some (.goto 4, 3, 194, 0, 0, 0, 0, 0)) none))))
      (cond (Nat.blt pc 199)
       (cond (Nat.blt pc 197)
        (cond (Nat.blt pc 194)
         (cond (Nat.beq pc 193) (some (.iconst 0, 1, 0, 0, 0, 0, 0, 0)) none)
         (cond (Nat.beq pc 194) (some (.invokevirtual 211, 3, 128, 0, 0, 2198, 0, 0)) none))
        (cond (Nat.blt pc 198)
         (cond (Nat.beq pc 197) (some (.aload_n 0, 1, 0, 0, 0, 0, 0, 0)) none)
         (cond (Nat.beq pc 198) (some (.iconst 3, 1, 0, 0, 0, 0, 3, 0)) none)))
       (cond (Nat.blt pc 203)
        (cond (Nat.blt pc 200)
         (cond (Nat.beq pc 199) (some (.iconst 1, 1, 0, 0, 0, 0, 1, 0)) none)
         (cond (Nat.beq pc 200) (some (.invokevirtual 192, 3, 126, 0, 0, 2166, 0, 0)) none))
        (cond (Nat.blt pc 204)
         (cond (Nat.beq pc 203) (some (.iload_n 3, 1, 0, 0, 0, 0, 0, 0)) none)
         (cond (Nat.beq pc 204) (some (.ireturn, 1, 0, 0, 0, 0, 0, 0)) none)))))))) none
-- PrintHouseModel.reply (I)I
def zc134 (pc : Nat) : Option z_I := cond (Nat.blt pc 28)
  (cond (Nat.blt pc 14)
   (cond (Nat.blt pc 6)
    (cond (Nat.blt pc 2)
     (cond (Nat.blt pc 1)
      (cond (Nat.beq pc 0) (some (.aload_n 0, 1, 0, 0, 0, 0, 0, 0)) none)
      (cond (Nat.beq pc 1) (some (.iconst 0, 1, 0, 0, 0, 0, 0, 0)) none))
     (cond (Nat.blt pc 5)
      (cond (Nat.beq pc 2) (some (.putfield 41, 3, 8, 0, 0, 1752, 0, 0)) none)
      (cond (Nat.beq pc 5) (some (.iload_n 1, 1, 0, 0, 0, 0, 0, 0)) none)))
    (cond (Nat.blt pc 10)
     (cond (Nat.blt pc 9)
      (cond (Nat.beq pc 6) (some (.ifCond .lt 11, 3, 17, 0, 0, 0, 0, 0)) none)
      (cond (Nat.beq pc 9) (some (.iload_n 1, 1, 0, 0, 0, 0, 0, 0)) none))
     (cond (Nat.blt pc 11)
      (cond (Nat.beq pc 10) (some (.aload_n 0, 1, 0, 0, 0, 0, 0, 0)) none)
      (cond (Nat.beq pc 11) (some (.getfield 26, 3, 8, 23, 0, 1798, 0, 0)) none))))
   (cond (Nat.blt pc 22)
    (cond (Nat.blt pc 18)
     (cond (Nat.blt pc 17)
      (cond (Nat.beq pc 14) (some (.if_icmp .lt 7, 3, 21, 0, 0, 0, 0, 0)) none)
      (cond (Nat.beq pc 17) (some (.iconst (-1), 1, 0, 0, 0, 0, (-1), 0)) none))
     (cond (Nat.blt pc 21)
      (cond (Nat.beq pc 18) (some (.goto 9, 3, 27, 0, 0, 0, 0, 0)) none)
      (cond (Nat.beq pc 21) (some (.aload_n 0, 1, 0, 0, 0, 0, 0, 0)) none)))
    (cond (Nat.blt pc 26)
     (cond (Nat.blt pc 25)
      (cond (Nat.beq pc 22) (some (.getfield 29, 3, 8, 24, 2, 1800, 0, 0)) none)
      (cond (Nat.beq pc 25) (some (.iload_n 1, 1, 0, 0, 0, 0, 0, 0)) none))
     (cond (Nat.blt pc 27)
      (cond (Nat.beq pc 26) (some (.iaload, 1, 0, 0, 0, 0, 0, 0)) none)
      (cond (Nat.beq pc 27) (some (.ireturn, 1, 0, 0, 0, 0, 0, 0)) none))))) none
-- PrintHouseModel.sides (I)I
def zc135 (pc : Nat) : Option z_I := cond (Nat.blt pc 31)
  (cond (Nat.blt pc 18)
   (cond (Nat.blt pc 9)
    (cond (Nat.blt pc 6)
     (cond (Nat.blt pc 1)
      (cond (Nat.beq pc 0) (some (.aload_n 0, 1, 0, 0, 0, 0, 0, 0)) none)
      (cond (Nat.blt pc 4)
       (cond (Nat.beq pc 1) (some (.getfield 13, 3, 8, 5, 2, 1762, 0, 0)) none)
       (cond (Nat.beq pc 4) (some (.bipush 10, 2, 0, 0, 0, 0, 10, 0)) none)))
     (cond (Nat.blt pc 7)
      (cond (Nat.beq pc 6) (some (.iload_n 1, 1, 0, 0, 0, 0, 0, 0)) none)
      (cond (Nat.blt pc 8)
       (cond (Nat.beq pc 7) (some (.imul, 1, 0, 0, 0, 0, 0, 0)) none)
       (cond (Nat.beq pc 8) (some (.iconst 4, 1, 0, 0, 0, 0, 4, 0)) none))))
    (cond (Nat.blt pc 12)
     (cond (Nat.blt pc 10)
      (cond (Nat.beq pc 9) (some (.iadd, 1, 0, 0, 0, 0, 0, 0)) none)
      (cond (Nat.blt pc 11)
       (cond (Nat.beq pc 10) (some (.iaload, 1, 0, 0, 0, 0, 0, 0)) none)
       (cond (Nat.beq pc 11) (some (.istore_n 2, 1, 0, 0, 0, 0, 0, 0)) none)))
     (cond (Nat.blt pc 13)
      (cond (Nat.beq pc 12) (some (.aload_n 0, 1, 0, 0, 0, 0, 0, 0)) none)
      (cond (Nat.blt pc 16)
       (cond (Nat.beq pc 13) (some (.getfield 13, 3, 8, 5, 2, 1762, 0, 0)) none)
       (cond (Nat.beq pc 16) (some (.bipush 10, 2, 0, 0, 0, 0, 10, 0)) none)))))
   (cond (Nat.blt pc 25)
    (cond (Nat.blt pc 22)
     (cond (Nat.blt pc 19)
      (cond (Nat.beq pc 18) (some (.iload_n 1, 1, 0, 0, 0, 0, 0, 0)) none)
      (cond (Nat.blt pc 20)
       (cond (Nat.beq pc 19) (some (.imul, 1, 0, 0, 0, 0, 0, 0)) none)
       (cond (Nat.beq pc 20) (some (.bipush 7, 2, 0, 0, 0, 0, 7, 0)) none)))
     (cond (Nat.blt pc 23)
      (cond (Nat.beq pc 22) (some (.iadd, 1, 0, 0, 0, 0, 0, 0)) none)
      (cond (Nat.blt pc 24)
       (cond (Nat.beq pc 23) (some (.iaload, 1, 0, 0, 0, 0, 0, 0)) none)
       (cond (Nat.beq pc 24) (some (.iload_n 2, 1, 0, 0, 0, 0, 0, 0)) none))))
    (cond (Nat.blt pc 28)
     (cond (Nat.blt pc 26)
      (cond (Nat.beq pc 25) (some (.iadd, 1, 0, 0, 0, 0, 0, 0)) none)
      (cond (Nat.blt pc 27)
       (cond (Nat.beq pc 26) (some (.iconst 1, 1, 0, 0, 0, 0, 1, 0)) none)
       (cond (Nat.beq pc 27) (some (.isub, 1, 0, 0, 0, 0, 0, 0)) none)))
     (cond (Nat.blt pc 29)
      (cond (Nat.beq pc 28) (some (.iload_n 2, 1, 0, 0, 0, 0, 0, 0)) none)
      (cond (Nat.blt pc 30)
       (cond (Nat.beq pc 29) (some (.idiv, 1, 0, 0, 0, 0, 0, 0)) none)
       (cond (Nat.beq pc 30) (some (.ireturn, 1, 0, 0, 0, 0, 0, 0)) none)))))) none
end
section
-- PrintHouseModel.sheetsOf (I)I
def zc136 (pc : Nat) : Option z_I := cond (Nat.blt pc 67)
  (cond (Nat.blt pc 32)
   (cond (Nat.blt pc 17)
    (cond (Nat.blt pc 8)
     (cond (Nat.blt pc 4)
      (cond (Nat.blt pc 1)
       (cond (Nat.beq pc 0) (some (.aload_n 0, 1, 0, 0, 0, 0, 0, 0)) none)
       (cond (Nat.beq pc 1) (some (.getfield 13, 3, 8, 5, 2, 1762, 0, 0)) none))
      (cond (Nat.blt pc 6)
       (cond (Nat.beq pc 4) (some (.bipush 10, 2, 0, 0, 0, 0, 10, 0)) none)
       (cond (Nat.blt pc 7)
        (cond (Nat.beq pc 6) (some (.iload_n 1, 1, 0, 0, 0, 0, 0, 0)) none)
        (cond (Nat.beq pc 7) (some (.imul, 1, 0, 0, 0, 0, 0, 0)) none))))
     (cond (Nat.blt pc 12)
      (cond (Nat.blt pc 10)
       (cond (Nat.beq pc 8) (some (.bipush 6, 2, 0, 0, 0, 0, 6, 0)) none)
       (cond (Nat.blt pc 11)
        (cond (Nat.beq pc 10) (some (.iadd, 1, 0, 0, 0, 0, 0, 0)) none)
        (cond (Nat.beq pc 11) (some (.iaload, 1, 0, 0, 0, 0, 0, 0)) none)))
      (cond (Nat.blt pc 13)
       (cond (Nat.beq pc 12) (some (.iconst 1, 1, 0, 0, 0, 0, 1, 0)) none)
       (cond (Nat.blt pc 16)
        (cond (Nat.beq pc 13) (some (.if_icmp .ne 22, 3, 35, 0, 0, 0, 0, 0)) none)
        (cond (Nat.beq pc 16) (some (.aload_n 0, 1, 0, 0, 0, 0, 0, 0)) none)))))
    (cond (Nat.blt pc 26)
     (cond (Nat.blt pc 22)
      (cond (Nat.blt pc 20)
       (cond (Nat.beq pc 17) (some (.getfield 13, 3, 8, 5, 2, 1762, 0, 0)) none)
       (cond (Nat.beq pc 20) (some (.bipush 10, 2, 0, 0, 0, 0, 10, 0)) none))
      (cond (Nat.blt pc 23)
       (cond (Nat.beq pc 22) (some (.iload_n 1, 1, 0, 0, 0, 0, 0, 0)) none)
       (cond (Nat.blt pc 24)
        (cond (Nat.beq pc 23) (some (.imul, 1, 0, 0, 0, 0, 0, 0)) none)
        (cond (Nat.beq pc 24) (some (.bipush 7, 2, 0, 0, 0, 0, 7, 0)) none))))
     (cond (Nat.blt pc 29)
      (cond (Nat.blt pc 27)
       (cond (Nat.beq pc 26) (some (.iadd, 1, 0, 0, 0, 0, 0, 0)) none)
       (cond (Nat.blt pc 28)
        (cond (Nat.beq pc 27) (some (.iaload, 1, 0, 0, 0, 0, 0, 0)) none)
        (cond (Nat.beq pc 28) (some (.iconst 3, 1, 0, 0, 0, 0, 3, 0)) none)))
      (cond (Nat.blt pc 30)
       (cond (Nat.beq pc 29) (some (.iadd, 1, 0, 0, 0, 0, 0, 0)) none)
       (cond (Nat.blt pc 31)
        (cond (Nat.beq pc 30) (some (.iconst 4, 1, 0, 0, 0, 0, 4, 0)) none)
        (cond (Nat.beq pc 31) (some (.idiv, 1, 0, 0, 0, 0, 0, 0)) none))))))
   (cond (Nat.blt pc 50)
    (cond (Nat.blt pc 42)
     (cond (Nat.blt pc 36)
      (cond (Nat.blt pc 35)
       (cond (Nat.beq pc 32) (some (.goto 34, 3, 66, 0, 0, 0, 0, 0)) none)
       (cond (Nat.beq pc 35) (some (.aload_n 0, 1, 0, 0, 0, 0, 0, 0)) none))
      (cond (Nat.blt pc 39)
       (cond (Nat.beq pc 36) (some (.getfield 13, 3, 8, 5, 2, 1762, 0, 0)) none)
       (cond (Nat.blt pc 41)
        (cond (Nat.beq pc 39) (some (.bipush 10, 2, 0, 0, 0, 0, 10, 0)) none)
        (cond (Nat.beq pc 41) (some (.iload_n 1, 1, 0, 0, 0, 0, 0, 0)) none))))
     (cond (Nat.blt pc 45)
      (cond (Nat.blt pc 43)
       (cond (Nat.beq pc 42) (some (.imul, 1, 0, 0, 0, 0, 0, 0)) none)
       (cond (Nat.blt pc 44)
        (cond (Nat.beq pc 43) (some (.iconst 5, 1, 0, 0, 0, 0, 5, 0)) none)
        (cond (Nat.beq pc 44) (some (.iadd, 1, 0, 0, 0, 0, 0, 0)) none)))
      (cond (Nat.blt pc 46)
       (cond (Nat.beq pc 45) (some (.iaload, 1, 0, 0, 0, 0, 0, 0)) none)
       (cond (Nat.blt pc 49)
        (cond (Nat.beq pc 46) (some (.ifCond .ne 11, 3, 57, 0, 0, 0, 0, 0)) none)
        (cond (Nat.beq pc 49) (some (.aload_n 0, 1, 0, 0, 0, 0, 0, 0)) none)))))
    (cond (Nat.blt pc 59)
     (cond (Nat.blt pc 54)
      (cond (Nat.blt pc 51)
       (cond (Nat.beq pc 50) (some (.iload_n 1, 1, 0, 0, 0, 0, 0, 0)) none)
       (cond (Nat.beq pc 51) (some (.invokevirtual 227, 3, 135, 0, 0, 2260, 0, 0)) none))
      (cond (Nat.blt pc 57)
       (cond (Nat.beq pc 54) (some (.goto 12, 3, 66, 0, 0, 0, 0, 0)) none)
       (cond (Nat.blt pc 58)
        (cond (Nat.beq pc 57) (some (.aload_n 0, 1, 0, 0, 0, 0, 0, 0)) none)
        (cond (Nat.beq pc 58) (some (.iload_n 1, 1, 0, 0, 0, 0, 0, 0)) none))))
     (cond (Nat.blt pc 64)
      (cond (Nat.blt pc 62)
       (cond (Nat.beq pc 59) (some (.invokevirtual 227, 3, 135, 0, 0, 2260, 0, 0)) none)
       (cond (Nat.blt pc 63)
        (cond (Nat.beq pc 62) (some (.iconst 1, 1, 0, 0, 0, 0, 1, 0)) none)
        (cond (Nat.beq pc 63) (some (.iadd, 1, 0, 0, 0, 0, 0, 0)) none)))
      (cond (Nat.blt pc 65)
       (cond (Nat.beq pc 64) (some (.iconst 2, 1, 0, 0, 0, 0, 2, 0)) none)
       (cond (Nat.blt pc 66)
        (cond (Nat.beq pc 65) (some (.idiv, 1, 0, 0, 0, 0, 0, 0)) none)
        (cond (Nat.beq pc 66) (some (.ireturn, 1, 0, 0, 0, 0, 0, 0)) none))))))) none
-- PrintHouseModel.pixelOf (IIII)I
def zc137 (pc : Nat) : Option z_I := cond (Nat.blt pc 46)
  (cond (Nat.blt pc 25)
   (cond (Nat.blt pc 12)
    (cond (Nat.blt pc 5)
     (cond (Nat.blt pc 1)
      (cond (Nat.beq pc 0) (some (.iload_n 2, 1, 0, 0, 0, 0, 0, 0)) none)
      (cond (Nat.blt pc 4)
       (cond (Nat.beq pc 1) (some (.ifCond .lt 19, 3, 20, 0, 0, 0, 0, 0)) none)
       (cond (Nat.beq pc 4) (some (.iload_n 2, 1, 0, 0, 0, 0, 0, 0)) none)))
     (cond (Nat.blt pc 9)
      (cond (Nat.blt pc 6)
       (cond (Nat.beq pc 5) (some (.aload_n 0, 1, 0, 0, 0, 0, 0, 0)) none)
       (cond (Nat.beq pc 6) (some (.getfield 13, 3, 8, 5, 2, 1762, 0, 0)) none))
      (cond (Nat.blt pc 11)
       (cond (Nat.beq pc 9) (some (.bipush 10, 2, 0, 0, 0, 0, 10, 0)) none)
       (cond (Nat.beq pc 11) (some (.iload_n 1, 1, 0, 0, 0, 0, 0, 0)) none))))
    (cond (Nat.blt pc 17)
     (cond (Nat.blt pc 15)
      (cond (Nat.blt pc 13)
       (cond (Nat.beq pc 12) (some (.imul, 1, 0, 0, 0, 0, 0, 0)) none)
       (cond (Nat.beq pc 13) (some (.bipush 7, 2, 0, 0, 0, 0, 7, 0)) none))
      (cond (Nat.blt pc 16)
       (cond (Nat.beq pc 15) (some (.iadd, 1, 0, 0, 0, 0, 0, 0)) none)
       (cond (Nat.beq pc 16) (some (.iaload, 1, 0, 0, 0, 0, 0, 0)) none)))
     (cond (Nat.blt pc 21)
      (cond (Nat.blt pc 20)
       (cond (Nat.beq pc 17) (some (.if_icmp .lt 7, 3, 24, 0, 0, 0, 0, 0)) none)
       (cond (Nat.beq pc 20) (some (.iconst 0, 1, 0, 0, 0, 0, 0, 0)) none))
      (cond (Nat.blt pc 24)
       (cond (Nat.beq pc 21) (some (.goto 24, 3, 45, 0, 0, 0, 0, 0)) none)
       (cond (Nat.beq pc 24) (some (.aload_n 0, 1, 0, 0, 0, 0, 0, 0)) none)))))
   (cond (Nat.blt pc 37)
    (cond (Nat.blt pc 32)
     (cond (Nat.blt pc 30)
      (cond (Nat.blt pc 28)
       (cond (Nat.beq pc 25) (some (.getfield 16, 3, 8, 6, 2, 1764, 0, 0)) none)
       (cond (Nat.beq pc 28) (some (.bipush 72, 2, 0, 0, 0, 0, 72, 0)) none))
      (cond (Nat.blt pc 31)
       (cond (Nat.beq pc 30) (some (.iload_n 1, 1, 0, 0, 0, 0, 0, 0)) none)
       (cond (Nat.beq pc 31) (some (.imul, 1, 0, 0, 0, 0, 0, 0)) none)))
     (cond (Nat.blt pc 35)
      (cond (Nat.blt pc 34)
       (cond (Nat.beq pc 32) (some (.bipush 12, 2, 0, 0, 0, 0, 12, 0)) none)
       (cond (Nat.beq pc 34) (some (.iload_n 2, 1, 0, 0, 0, 0, 0, 0)) none))
      (cond (Nat.blt pc 36)
       (cond (Nat.beq pc 35) (some (.imul, 1, 0, 0, 0, 0, 0, 0)) none)
       (cond (Nat.beq pc 36) (some (.iadd, 1, 0, 0, 0, 0, 0, 0)) none))))
    (cond (Nat.blt pc 41)
     (cond (Nat.blt pc 39)
      (cond (Nat.blt pc 38)
       (cond (Nat.beq pc 37) (some (.iconst 4, 1, 0, 0, 0, 0, 4, 0)) none)
       (cond (Nat.beq pc 38) (some (.iload_n 3, 1, 0, 0, 0, 0, 0, 0)) none))
      (cond (Nat.blt pc 40)
       (cond (Nat.beq pc 39) (some (.imul, 1, 0, 0, 0, 0, 0, 0)) none)
       (cond (Nat.beq pc 40) (some (.iadd, 1, 0, 0, 0, 0, 0, 0)) none)))
     (cond (Nat.blt pc 44)
      (cond (Nat.blt pc 43)
       (cond (Nat.beq pc 41) (some (.iload 4, 2, 0, 0, 0, 0, 0, 0)) none)
       (cond (Nat.beq pc 43) (some (.iadd, 1, 0, 0, 0, 0, 0, 0)) none))
      (cond (Nat.blt pc 45)
       (cond (Nat.beq pc 44) (some (.iaload, 1, 0, 0, 0, 0, 0, 0)) none)
       (cond (Nat.beq pc 45) (some (.ireturn, 1, 0, 0, 0, 0, 0, 0)) none)))))) none
-- PrintHouseModel.pair (IIIII)I
def zc138 (pc : Nat) : Option z_I := cond (Nat.blt pc 29)
  (cond (Nat.blt pc 14)
   (cond (Nat.blt pc 6)
    (cond (Nat.blt pc 3)
     (cond (Nat.blt pc 2)
      (cond (Nat.beq pc 0) (some (.iload 5, 2, 0, 0, 0, 0, 0, 0)) none)
      (cond (Nat.beq pc 2) (some (.iconst 3, 1, 0, 0, 0, 0, 3, 0)) none))
     (cond (Nat.blt pc 4)
      (cond (Nat.beq pc 3) (some (.irem, 1, 0, 0, 0, 0, 0, 0)) none)
      (cond (Nat.beq pc 4) (some (.istore 6, 2, 0, 0, 0, 0, 0, 0)) none)))
    (cond (Nat.blt pc 8)
     (cond (Nat.blt pc 7)
      (cond (Nat.beq pc 6) (some (.aload_n 0, 1, 0, 0, 0, 0, 0, 0)) none)
      (cond (Nat.beq pc 7) (some (.iload_n 1, 1, 0, 0, 0, 0, 0, 0)) none))
     (cond (Nat.blt pc 10)
      (cond (Nat.beq pc 8) (some (.iload 5, 2, 0, 0, 0, 0, 0, 0)) none)
      (cond (Nat.blt pc 11)
       (cond (Nat.beq pc 10) (some (.iconst 3, 1, 0, 0, 0, 0, 3, 0)) none)
       (cond (Nat.beq pc 11) (some (.if_icmp .ge 7, 3, 18, 0, 0, 0, 0, 0)) none)))))
   (cond (Nat.blt pc 20)
    (cond (Nat.blt pc 18)
     (cond (Nat.blt pc 15)
      (cond (Nat.beq pc 14) (some (.iload_n 2, 1, 0, 0, 0, 0, 0, 0)) none)
      (cond (Nat.beq pc 15) (some (.goto 4, 3, 19, 0, 0, 0, 0, 0)) none))
     (cond (Nat.blt pc 19)
      (cond (Nat.beq pc 18) (some (.iload_n 3, 1, 0, 0, 0, 0, 0, 0)) none)
      (cond (Nat.beq pc 19) (some (.iconst 2, 1, 0, 0, 0, 0, 2, 0)) none)))
    (cond (Nat.blt pc 23)
     (cond (Nat.blt pc 22)
      (cond (Nat.beq pc 20) (some (.iload 6, 2, 0, 0, 0, 0, 0, 0)) none)
      (cond (Nat.beq pc 22) (some (.isub, 1, 0, 0, 0, 0, 0, 0)) none))
     (cond (Nat.blt pc 25)
      (cond (Nat.beq pc 23) (some (.iload 4, 2, 0, 0, 0, 0, 0, 0)) none)
      (cond (Nat.blt pc 28)
       (cond (Nat.beq pc 25) (some (.invokevirtual 230, 3, 137, 0, 0, 2300, 0, 0)) none)
       (cond (Nat.beq pc 28) (some (.ireturn, 1, 0, 0, 0, 0, 0, 0)) none)))))) none
-- PrintHouseModel.plain (IIII)I
def zc139 (pc : Nat) : Option z_I := cond (Nat.blt pc 81)
  (cond (Nat.blt pc 42)
   (cond (Nat.blt pc 21)
    (cond (Nat.blt pc 10)
     (cond (Nat.blt pc 6)
      (cond (Nat.blt pc 1)
       (cond (Nat.beq pc 0) (some (.aload_n 0, 1, 0, 0, 0, 0, 0, 0)) none)
       (cond (Nat.blt pc 4)
        (cond (Nat.beq pc 1) (some (.getfield 13, 3, 8, 5, 2, 1762, 0, 0)) none)
        (cond (Nat.beq pc 4) (some (.bipush 10, 2, 0, 0, 0, 0, 10, 0)) none)))
      (cond (Nat.blt pc 8)
       (cond (Nat.blt pc 7)
        (cond (Nat.beq pc 6) (some (.iload_n 1, 1, 0, 0, 0, 0, 0, 0)) none)
        (cond (Nat.beq pc 7) (some (.imul, 1, 0, 0, 0, 0, 0, 0)) none))
       (cond (Nat.blt pc 9)
        (cond (Nat.beq pc 8) (some (.iconst 4, 1, 0, 0, 0, 0, 4, 0)) none)
        (cond (Nat.beq pc 9) (some (.iadd, 1, 0, 0, 0, 0, 0, 0)) none))))
     (cond (Nat.blt pc 15)
      (cond (Nat.blt pc 11)
       (cond (Nat.beq pc 10) (some (.iaload, 1, 0, 0, 0, 0, 0, 0)) none)
       (cond (Nat.blt pc 13)
        (cond (Nat.beq pc 11) (some (.istore 5, 2, 0, 0, 0, 0, 0, 0)) none)
        (cond (Nat.beq pc 13) (some (.iload 5, 2, 0, 0, 0, 0, 0, 0)) none)))
      (cond (Nat.blt pc 19)
       (cond (Nat.blt pc 16)
        (cond (Nat.beq pc 15) (some (.iconst 1, 1, 0, 0, 0, 0, 1, 0)) none)
        (cond (Nat.beq pc 16) (some (.if_icmp .ne 13, 3, 29, 0, 0, 0, 0, 0)) none))
       (cond (Nat.blt pc 20)
        (cond (Nat.beq pc 19) (some (.aload_n 0, 1, 0, 0, 0, 0, 0, 0)) none)
        (cond (Nat.beq pc 20) (some (.iload_n 1, 1, 0, 0, 0, 0, 0, 0)) none)))))
    (cond (Nat.blt pc 32)
     (cond (Nat.blt pc 25)
      (cond (Nat.blt pc 22)
       (cond (Nat.beq pc 21) (some (.iload_n 2, 1, 0, 0, 0, 0, 0, 0)) none)
       (cond (Nat.blt pc 23)
        (cond (Nat.beq pc 22) (some (.iload_n 3, 1, 0, 0, 0, 0, 0, 0)) none)
        (cond (Nat.beq pc 23) (some (.iload 4, 2, 0, 0, 0, 0, 0, 0)) none)))
      (cond (Nat.blt pc 29)
       (cond (Nat.blt pc 28)
        (cond (Nat.beq pc 25) (some (.invokevirtual 230, 3, 137, 0, 0, 2300, 0, 0)) none)
        (cond (Nat.beq pc 28) (some (.ireturn, 1, 0, 0, 0, 0, 0, 0)) none))
       (cond (Nat.blt pc 31)
        (cond (Nat.beq pc 29) (some (.iload 5, 2, 0, 0, 0, 0, 0, 0)) none)
        (cond (Nat.beq pc 31) (some (.iconst 2, 1, 0, 0, 0, 0, 2, 0)) none))))
     (cond (Nat.blt pc 38)
      (cond (Nat.blt pc 36)
       (cond (Nat.blt pc 35)
        (cond (Nat.beq pc 32) (some (.if_icmp .ne 22, 3, 54, 0, 0, 0, 0, 0)) none)
        (cond (Nat.beq pc 35) (some (.aload_n 0, 1, 0, 0, 0, 0, 0, 0)) none))
       (cond (Nat.blt pc 37)
        (cond (Nat.beq pc 36) (some (.iload_n 1, 1, 0, 0, 0, 0, 0, 0)) none)
        (cond (Nat.beq pc 37) (some (.iconst 2, 1, 0, 0, 0, 0, 2, 0)) none)))
      (cond (Nat.blt pc 40)
       (cond (Nat.blt pc 39)
        (cond (Nat.beq pc 38) (some (.iload_n 2, 1, 0, 0, 0, 0, 0, 0)) none)
        (cond (Nat.beq pc 39) (some (.imul, 1, 0, 0, 0, 0, 0, 0)) none))
       (cond (Nat.blt pc 41)
        (cond (Nat.beq pc 40) (some (.iconst 2, 1, 0, 0, 0, 0, 2, 0)) none)
        (cond (Nat.beq pc 41) (some (.iload_n 2, 1, 0, 0, 0, 0, 0, 0)) none))))))
   (cond (Nat.blt pc 62)
    (cond (Nat.blt pc 54)
     (cond (Nat.blt pc 45)
      (cond (Nat.blt pc 43)
       (cond (Nat.beq pc 42) (some (.imul, 1, 0, 0, 0, 0, 0, 0)) none)
       (cond (Nat.blt pc 44)
        (cond (Nat.beq pc 43) (some (.iconst 1, 1, 0, 0, 0, 0, 1, 0)) none)
        (cond (Nat.beq pc 44) (some (.iadd, 1, 0, 0, 0, 0, 0, 0)) none)))
      (cond (Nat.blt pc 48)
       (cond (Nat.blt pc 46)
        (cond (Nat.beq pc 45) (some (.iload_n 3, 1, 0, 0, 0, 0, 0, 0)) none)
        (cond (Nat.beq pc 46) (some (.iload 4, 2, 0, 0, 0, 0, 0, 0)) none))
       (cond (Nat.blt pc 51)
        (cond (Nat.beq pc 48) (some (.invokevirtual 234, 3, 138, 0, 0, 2292, 0, 0)) none)
        (cond (Nat.beq pc 51) (some (.goto 29, 3, 80, 0, 0, 0, 0, 0)) none))))
     (cond (Nat.blt pc 58)
      (cond (Nat.blt pc 56)
       (cond (Nat.blt pc 55)
        (cond (Nat.beq pc 54) (some (.aload_n 0, 1, 0, 0, 0, 0, 0, 0)) none)
        (cond (Nat.beq pc 55) (some (.iload_n 1, 1, 0, 0, 0, 0, 0, 0)) none))
       (cond (Nat.blt pc 57)
        (cond (Nat.beq pc 56) (some (.iconst 4, 1, 0, 0, 0, 0, 4, 0)) none)
        (cond (Nat.beq pc 57) (some (.iload_n 2, 1, 0, 0, 0, 0, 0, 0)) none)))
      (cond (Nat.blt pc 60)
       (cond (Nat.blt pc 59)
        (cond (Nat.beq pc 58) (some (.imul, 1, 0, 0, 0, 0, 0, 0)) none)
        (cond (Nat.beq pc 59) (some (.iconst 2, 1, 0, 0, 0, 0, 2, 0)) none))
       (cond (Nat.blt pc 61)
        (cond (Nat.beq pc 60) (some (.iload_n 3, 1, 0, 0, 0, 0, 0, 0)) none)
        (cond (Nat.beq pc 61) (some (.iconst 3, 1, 0, 0, 0, 0, 3, 0)) none)))))
    (cond (Nat.blt pc 70)
     (cond (Nat.blt pc 65)
      (cond (Nat.blt pc 63)
       (cond (Nat.beq pc 62) (some (.idiv, 1, 0, 0, 0, 0, 0, 0)) none)
       (cond (Nat.blt pc 64)
        (cond (Nat.beq pc 63) (some (.imul, 1, 0, 0, 0, 0, 0, 0)) none)
        (cond (Nat.beq pc 64) (some (.iadd, 1, 0, 0, 0, 0, 0, 0)) none)))
      (cond (Nat.blt pc 68)
       (cond (Nat.blt pc 67)
        (cond (Nat.beq pc 65) (some (.iload 4, 2, 0, 0, 0, 0, 0, 0)) none)
        (cond (Nat.beq pc 67) (some (.iconst 4, 1, 0, 0, 0, 0, 4, 0)) none))
       (cond (Nat.blt pc 69)
        (cond (Nat.beq pc 68) (some (.idiv, 1, 0, 0, 0, 0, 0, 0)) none)
        (cond (Nat.beq pc 69) (some (.iadd, 1, 0, 0, 0, 0, 0, 0)) none))))
     (cond (Nat.blt pc 75)
      (cond (Nat.blt pc 72)
       (cond (Nat.blt pc 71)
        (cond (Nat.beq pc 70) (some (.iload_n 3, 1, 0, 0, 0, 0, 0, 0)) none)
        (cond (Nat.beq pc 71) (some (.iconst 3, 1, 0, 0, 0, 0, 3, 0)) none))
       (cond (Nat.blt pc 73)
        (cond (Nat.beq pc 72) (some (.irem, 1, 0, 0, 0, 0, 0, 0)) none)
        (cond (Nat.beq pc 73) (some (.iload 4, 2, 0, 0, 0, 0, 0, 0)) none)))
      (cond (Nat.blt pc 77)
       (cond (Nat.blt pc 76)
        (cond (Nat.beq pc 75) (some (.iconst 4, 1, 0, 0, 0, 0, 4, 0)) none)
        (cond (Nat.beq pc 76) (some (.irem, 1, 0, 0, 0, 0, 0, 0)) none))
       (cond (Nat.blt pc 80)
        (cond (Nat.beq pc 77) (some (.invokevirtual 230, 3, 137, 0, 0, 2300, 0, 0)) none)
        (cond (Nat.beq pc 80) (some (.ireturn, 1, 0, 0, 0, 0, 0, 0)) none))))))) none
-- PrintHouseModel.booklet (IIZII)I
def zc140 (pc : Nat) : Option z_I := cond (Nat.blt pc 59)
  (cond (Nat.blt pc 27)
   (cond (Nat.blt pc 15)
    (cond (Nat.blt pc 7)
     (cond (Nat.blt pc 2)
      (cond (Nat.blt pc 1)
       (cond (Nat.beq pc 0) (some (.iconst 4, 1, 0, 0, 0, 0, 4, 0)) none)
       (cond (Nat.beq pc 1) (some (.aload_n 0, 1, 0, 0, 0, 0, 0, 0)) none))
      (cond (Nat.blt pc 3)
       (cond (Nat.beq pc 2) (some (.iload_n 1, 1, 0, 0, 0, 0, 0, 0)) none)
       (cond (Nat.blt pc 6)
        (cond (Nat.beq pc 3) (some (.invokevirtual 238, 3, 136, 0, 0, 2252, 0, 0)) none)
        (cond (Nat.beq pc 6) (some (.imul, 1, 0, 0, 0, 0, 0, 0)) none))))
     (cond (Nat.blt pc 10)
      (cond (Nat.blt pc 9)
       (cond (Nat.beq pc 7) (some (.istore 6, 2, 0, 0, 0, 0, 0, 0)) none)
       (cond (Nat.beq pc 9) (some (.iload_n 3, 1, 0, 0, 0, 0, 0, 0)) none))
      (cond (Nat.blt pc 13)
       (cond (Nat.beq pc 10) (some (.ifCond .eq 28, 3, 38, 0, 0, 0, 0, 0)) none)
       (cond (Nat.blt pc 14)
        (cond (Nat.beq pc 13) (some (.aload_n 0, 1, 0, 0, 0, 0, 0, 0)) none)
        (cond (Nat.beq pc 14) (some (.iload_n 1, 1, 0, 0, 0, 0, 0, 0)) none)))))
    (cond (Nat.blt pc 20)
     (cond (Nat.blt pc 17)
      (cond (Nat.blt pc 16)
       (cond (Nat.beq pc 15) (some (.iconst 2, 1, 0, 0, 0, 0, 2, 0)) none)
       (cond (Nat.beq pc 16) (some (.iload_n 2, 1, 0, 0, 0, 0, 0, 0)) none))
      (cond (Nat.blt pc 18)
       (cond (Nat.beq pc 17) (some (.imul, 1, 0, 0, 0, 0, 0, 0)) none)
       (cond (Nat.blt pc 19)
        (cond (Nat.beq pc 18) (some (.iconst 1, 1, 0, 0, 0, 0, 1, 0)) none)
        (cond (Nat.beq pc 19) (some (.iadd, 1, 0, 0, 0, 0, 0, 0)) none))))
     (cond (Nat.blt pc 24)
      (cond (Nat.blt pc 22)
       (cond (Nat.beq pc 20) (some (.iload 6, 2, 0, 0, 0, 0, 0, 0)) none)
       (cond (Nat.blt pc 23)
        (cond (Nat.beq pc 22) (some (.iconst 2, 1, 0, 0, 0, 0, 2, 0)) none)
        (cond (Nat.beq pc 23) (some (.iload_n 2, 1, 0, 0, 0, 0, 0, 0)) none)))
      (cond (Nat.blt pc 25)
       (cond (Nat.beq pc 24) (some (.imul, 1, 0, 0, 0, 0, 0, 0)) none)
       (cond (Nat.blt pc 26)
        (cond (Nat.beq pc 25) (some (.isub, 1, 0, 0, 0, 0, 0, 0)) none)
        (cond (Nat.beq pc 26) (some (.iconst 2, 1, 0, 0, 0, 0, 2, 0)) none))))))
   (cond (Nat.blt pc 44)
    (cond (Nat.blt pc 38)
     (cond (Nat.blt pc 30)
      (cond (Nat.blt pc 28)
       (cond (Nat.beq pc 27) (some (.isub, 1, 0, 0, 0, 0, 0, 0)) none)
       (cond (Nat.beq pc 28) (some (.iload 4, 2, 0, 0, 0, 0, 0, 0)) none))
      (cond (Nat.blt pc 32)
       (cond (Nat.beq pc 30) (some (.iload 5, 2, 0, 0, 0, 0, 0, 0)) none)
       (cond (Nat.blt pc 35)
        (cond (Nat.beq pc 32) (some (.invokevirtual 234, 3, 138, 0, 0, 2292, 0, 0)) none)
        (cond (Nat.beq pc 35) (some (.goto 23, 3, 58, 0, 0, 0, 0, 0)) none))))
     (cond (Nat.blt pc 40)
      (cond (Nat.blt pc 39)
       (cond (Nat.beq pc 38) (some (.aload_n 0, 1, 0, 0, 0, 0, 0, 0)) none)
       (cond (Nat.beq pc 39) (some (.iload_n 1, 1, 0, 0, 0, 0, 0, 0)) none))
      (cond (Nat.blt pc 42)
       (cond (Nat.beq pc 40) (some (.iload 6, 2, 0, 0, 0, 0, 0, 0)) none)
       (cond (Nat.blt pc 43)
        (cond (Nat.beq pc 42) (some (.iconst 2, 1, 0, 0, 0, 0, 2, 0)) none)
        (cond (Nat.beq pc 43) (some (.iload_n 2, 1, 0, 0, 0, 0, 0, 0)) none)))))
    (cond (Nat.blt pc 49)
     (cond (Nat.blt pc 46)
      (cond (Nat.blt pc 45)
       (cond (Nat.beq pc 44) (some (.imul, 1, 0, 0, 0, 0, 0, 0)) none)
       (cond (Nat.beq pc 45) (some (.isub, 1, 0, 0, 0, 0, 0, 0)) none))
      (cond (Nat.blt pc 47)
       (cond (Nat.beq pc 46) (some (.iconst 1, 1, 0, 0, 0, 0, 1, 0)) none)
       (cond (Nat.blt pc 48)
        (cond (Nat.beq pc 47) (some (.isub, 1, 0, 0, 0, 0, 0, 0)) none)
        (cond (Nat.beq pc 48) (some (.iconst 2, 1, 0, 0, 0, 0, 2, 0)) none))))
     (cond (Nat.blt pc 53)
      (cond (Nat.blt pc 50)
       (cond (Nat.beq pc 49) (some (.iload_n 2, 1, 0, 0, 0, 0, 0, 0)) none)
       (cond (Nat.blt pc 51)
        (cond (Nat.beq pc 50) (some (.imul, 1, 0, 0, 0, 0, 0, 0)) none)
        (cond (Nat.beq pc 51) (some (.iload 4, 2, 0, 0, 0, 0, 0, 0)) none)))
      (cond (Nat.blt pc 55)
       (cond (Nat.beq pc 53) (some (.iload 5, 2, 0, 0, 0, 0, 0, 0)) none)
       (cond (Nat.blt pc 58)
        (cond (Nat.beq pc 55) (some (.invokevirtual 234, 3, 138, 0, 0, 2292, 0, 0)) none)
        (cond (Nat.beq pc 58) (some (.ireturn, 1, 0, 0, 0, 0, 0, 0)) none))))))) none
-- PrintHouseModel.send (I)V
def zc141 (pc : Nat) : Option z_I := cond (Nat.blt pc 21)
  (cond (Nat.blt pc 10)
   (cond (Nat.blt pc 5)
    (cond (Nat.blt pc 1)
     (cond (Nat.beq pc 0) (some (.aload_n 0, 1, 0, 0, 0, 0, 0, 0)) none)
     (cond (Nat.blt pc 4)
      (cond (Nat.beq pc 1) (some (.getfield 35, 3, 8, 26, 2, 1804, 0, 0)) none)
      (cond (Nat.beq pc 4) (some (.aload_n 0, 1, 0, 0, 0, 0, 0, 0)) none)))
    (cond (Nat.blt pc 8)
     (cond (Nat.beq pc 5) (some (.getfield 32, 3, 8, 25, 0, 1802, 0, 0)) none)
     (cond (Nat.blt pc 9)
      (cond (Nat.beq pc 8) (some (.iload_n 1, 1, 0, 0, 0, 0, 0, 0)) none)
      (cond (Nat.beq pc 9) (some (.iastore, 1, 0, 0, 0, 0, 0, 0)) none))))
   (cond (Nat.blt pc 15)
    (cond (Nat.blt pc 11)
     (cond (Nat.beq pc 10) (some (.aload_n 0, 1, 0, 0, 0, 0, 0, 0)) none)
     (cond (Nat.blt pc 12)
      (cond (Nat.beq pc 11) (some (.dup, 1, 0, 0, 0, 0, 0, 0)) none)
      (cond (Nat.beq pc 12) (some (.getfield 32, 3, 8, 25, 0, 1802, 0, 0)) none)))
    (cond (Nat.blt pc 17)
     (cond (Nat.blt pc 16)
      (cond (Nat.beq pc 15) (some (.iconst 1, 1, 0, 0, 0, 0, 1, 0)) none)
      (cond (Nat.beq pc 16) (some (.iadd, 1, 0, 0, 0, 0, 0, 0)) none))
     (cond (Nat.blt pc 20)
      (cond (Nat.beq pc 17) (some (.putfield 32, 3, 8, 25, 0, 1802, 0, 0)) none)
      (cond (Nat.beq pc 20) (some (.return_, 1, 0, 0, 0, 0, 0, 0)) none))))) none
-- PrintHouseModel.alike (III)Z
def zc142 (pc : Nat) : Option z_I := cond (Nat.blt pc 58)
  (cond (Nat.blt pc 28)
   (cond (Nat.blt pc 14)
    (cond (Nat.blt pc 6)
     (cond (Nat.blt pc 3)
      (cond (Nat.blt pc 1)
       (cond (Nat.beq pc 0) (some (.iconst 1, 1, 0, 0, 0, 0, 1, 0)) none)
       (cond (Nat.beq pc 1) (some (.istore 4, 2, 0, 0, 0, 0, 0, 0)) none))
      (cond (Nat.blt pc 4)
       (cond (Nat.beq pc 3) (some (.iconst 0, 1, 0, 0, 0, 0, 0, 0)) none)
       (cond (Nat.beq pc 4) (some (.istore 5, 2, 0, 0, 0, 0, 0, 0)) none)))
     (cond (Nat.blt pc 9)
      (cond (Nat.blt pc 8)
       (cond (Nat.beq pc 6) (some (.iload 5, 2, 0, 0, 0, 0, 0, 0)) none)
       (cond (Nat.beq pc 8) (some (.iload_n 1, 1, 0, 0, 0, 0, 0, 0)) none))
      (cond (Nat.blt pc 12)
       (cond (Nat.beq pc 9) (some (.if_icmp .ge 46, 3, 55, 0, 0, 0, 0, 0)) none)
       (cond (Nat.beq pc 12) (some (.iload 4, 2, 0, 0, 0, 0, 0, 0)) none))))
    (cond (Nat.blt pc 22)
     (cond (Nat.blt pc 18)
      (cond (Nat.blt pc 17)
       (cond (Nat.beq pc 14) (some (.ifCond .eq 32, 3, 46, 0, 0, 0, 0, 0)) none)
       (cond (Nat.beq pc 17) (some (.aload_n 0, 1, 0, 0, 0, 0, 0, 0)) none))
      (cond (Nat.blt pc 21)
       (cond (Nat.beq pc 18) (some (.getfield 38, 3, 8, 27, 2, 1806, 0, 0)) none)
       (cond (Nat.beq pc 21) (some (.iload_n 1, 1, 0, 0, 0, 0, 0, 0)) none)))
     (cond (Nat.blt pc 24)
      (cond (Nat.blt pc 23)
       (cond (Nat.beq pc 22) (some (.iload_n 2, 1, 0, 0, 0, 0, 0, 0)) none)
       (cond (Nat.beq pc 23) (some (.imul, 1, 0, 0, 0, 0, 0, 0)) none))
      (cond (Nat.blt pc 26)
       (cond (Nat.beq pc 24) (some (.iload 5, 2, 0, 0, 0, 0, 0, 0)) none)
       (cond (Nat.blt pc 27)
        (cond (Nat.beq pc 26) (some (.iadd, 1, 0, 0, 0, 0, 0, 0)) none)
        (cond (Nat.beq pc 27) (some (.iaload, 1, 0, 0, 0, 0, 0, 0)) none))))))
   (cond (Nat.blt pc 39)
    (cond (Nat.blt pc 34)
     (cond (Nat.blt pc 32)
      (cond (Nat.blt pc 29)
       (cond (Nat.beq pc 28) (some (.aload_n 0, 1, 0, 0, 0, 0, 0, 0)) none)
       (cond (Nat.beq pc 29) (some (.getfield 38, 3, 8, 27, 2, 1806, 0, 0)) none))
      (cond (Nat.blt pc 33)
       (cond (Nat.beq pc 32) (some (.iload_n 1, 1, 0, 0, 0, 0, 0, 0)) none)
       (cond (Nat.beq pc 33) (some (.iload_n 3, 1, 0, 0, 0, 0, 0, 0)) none)))
     (cond (Nat.blt pc 37)
      (cond (Nat.blt pc 35)
       (cond (Nat.beq pc 34) (some (.imul, 1, 0, 0, 0, 0, 0, 0)) none)
       (cond (Nat.beq pc 35) (some (.iload 5, 2, 0, 0, 0, 0, 0, 0)) none))
      (cond (Nat.blt pc 38)
       (cond (Nat.beq pc 37) (some (.iadd, 1, 0, 0, 0, 0, 0, 0)) none)
       (cond (Nat.beq pc 38) (some (.iaload, 1, 0, 0, 0, 0, 0, 0)) none))))
    (cond (Nat.blt pc 47)
     (cond (Nat.blt pc 43)
      (cond (Nat.blt pc 42)
       (cond (Nat.beq pc 39) (some (.if_icmp .ne 7, 3, 46, 0, 0, 0, 0, 0)) none)
       (cond (Nat.beq pc 42) (some (.iconst 1, 1, 0, 0, 0, 0, 1, 0)) none))
      (cond (Nat.blt pc 46)
       (cond (Nat.beq pc 43) (some (.goto 4, 3, 47, 0, 0, 0, 0, 0)) none)
       (cond (Nat.beq pc 46) (some (.iconst 0, 1, 0, 0, 0, 0, 0, 0)) none)))
     (cond (Nat.blt pc 52)
      (cond (Nat.blt pc 49)
       (cond (Nat.beq pc 47) (some (.istore 4, 2, 0, 0, 0, 0, 0, 0)) none)
       (cond (Nat.beq pc 49) (some (.iinc 5 1, 3, 0, 0, 0, 0, 1, 0)) none))
      (cond (Nat.blt pc 55)
       (cond (Nat.beq pc 52) (some (.goto (-46), 3, 6, 0, 0, 0, 0, 0)) none)
       (cond (Nat.blt pc 57)
        (cond (Nat.beq pc 55) (some (.iload 4, 2, 0, 0, 0, 0, 0, 0)) none)
        (cond (Nat.beq pc 57) (some (.ireturn, 1, 0, 0, 1, 0, 0, 0)) none))))))) none
-- PrintHouseModel.row (II)V
def zc143 (pc : Nat) : Option z_I := cond (Nat.blt pc 198)
  (cond (Nat.blt pc 95)
   (cond (Nat.blt pc 44)
    (cond (Nat.blt pc 23)
     (cond (Nat.blt pc 10)
      (cond (Nat.blt pc 3)
       (cond (Nat.blt pc 1)
        (cond (Nat.beq pc 0) (some (.iconst 0, 1, 0, 0, 0, 0, 0, 0)) none)
        (cond (Nat.blt pc 2)
         (cond (Nat.beq pc 1) (some (.istore_n 3, 1, 0, 0, 0, 0, 0, 0)) none)
         (cond (Nat.beq pc 2) (some (.iload_n 3, 1, 0, 0, 0, 0, 0, 0)) none)))
       (cond (Nat.blt pc 7)
        (cond (Nat.blt pc 4)
         (cond (Nat.beq pc 3) (some (.iload_n 1, 1, 0, 0, 0, 0, 0, 0)) none)
         (cond (Nat.beq pc 4) (some (.if_icmp .ge 193, 3, 197, 0, 0, 0, 0, 0)) none))
        (cond (Nat.blt pc 8)
         (cond (Nat.beq pc 7) (some (.iconst 1, 1, 0, 0, 0, 0, 1, 0)) none)
         (cond (Nat.beq pc 8) (some (.istore 4, 2, 0, 0, 0, 0, 0, 0)) none))))
      (cond (Nat.blt pc 15)
       (cond (Nat.blt pc 13)
        (cond (Nat.blt pc 11)
         (cond (Nat.beq pc 10) (some (.iload_n 3, 1, 0, 0, 0, 0, 0, 0)) none)
         (cond (Nat.beq pc 11) (some (.iload 4, 2, 0, 0, 0, 0, 0, 0)) none))
        (cond (Nat.blt pc 14)
         (cond (Nat.beq pc 13) (some (.iadd, 1, 0, 0, 0, 0, 0, 0)) none)
         (cond (Nat.beq pc 14) (some (.iload_n 1, 1, 0, 0, 0, 0, 0, 0)) none)))
       (cond (Nat.blt pc 19)
        (cond (Nat.blt pc 18)
         (cond (Nat.beq pc 15) (some (.if_icmp .ge 35, 3, 50, 0, 0, 0, 0, 0)) none)
         (cond (Nat.beq pc 18) (some (.aload_n 0, 1, 0, 0, 0, 0, 0, 0)) none))
        (cond (Nat.blt pc 22)
         (cond (Nat.beq pc 19) (some (.getfield 38, 3, 8, 27, 2, 1806, 0, 0)) none)
         (cond (Nat.beq pc 22) (some (.iload_n 1, 1, 0, 0, 0, 0, 0, 0)) none)))))
     (cond (Nat.blt pc 32)
      (cond (Nat.blt pc 27)
       (cond (Nat.blt pc 25)
        (cond (Nat.blt pc 24)
         (cond (Nat.beq pc 23) (some (.iload_n 2, 1, 0, 0, 0, 0, 0, 0)) none)
         (cond (Nat.beq pc 24) (some (.imul, 1, 0, 0, 0, 0, 0, 0)) none))
        (cond (Nat.blt pc 26)
         (cond (Nat.beq pc 25) (some (.iload_n 3, 1, 0, 0, 0, 0, 0, 0)) none)
         (cond (Nat.beq pc 26) (some (.iadd, 1, 0, 0, 0, 0, 0, 0)) none)))
       (cond (Nat.blt pc 30)
        (cond (Nat.blt pc 29)
         (cond (Nat.beq pc 27) (some (.iload 4, 2, 0, 0, 0, 0, 0, 0)) none)
         (cond (Nat.beq pc 29) (some (.iadd, 1, 0, 0, 0, 0, 0, 0)) none))
        (cond (Nat.blt pc 31)
         (cond (Nat.beq pc 30) (some (.iaload, 1, 0, 0, 0, 0, 0, 0)) none)
         (cond (Nat.beq pc 31) (some (.aload_n 0, 1, 0, 0, 0, 0, 0, 0)) none))))
      (cond (Nat.blt pc 38)
       (cond (Nat.blt pc 36)
        (cond (Nat.blt pc 35)
         (cond (Nat.beq pc 32) (some (.getfield 38, 3, 8, 27, 2, 1806, 0, 0)) none)
         (cond (Nat.beq pc 35) (some (.iload_n 1, 1, 0, 0, 0, 0, 0, 0)) none))
        (cond (Nat.blt pc 37)
         (cond (Nat.beq pc 36) (some (.iload_n 2, 1, 0, 0, 0, 0, 0, 0)) none)
         (cond (Nat.beq pc 37) (some (.imul, 1, 0, 0, 0, 0, 0, 0)) none)))
       (cond (Nat.blt pc 40)
        (cond (Nat.blt pc 39)
         (cond (Nat.beq pc 38) (some (.iload_n 3, 1, 0, 0, 0, 0, 0, 0)) none)
         (cond (Nat.beq pc 39) (some (.iadd, 1, 0, 0, 0, 0, 0, 0)) none))
        (cond (Nat.blt pc 41)
         (cond (Nat.beq pc 40) (some (.iaload, 1, 0, 0, 0, 0, 0, 0)) none)
         (cond (Nat.beq pc 41) (some (.if_icmp .ne 9, 3, 50, 0, 0, 0, 0, 0)) none))))))
    (cond (Nat.blt pc 71)
     (cond (Nat.blt pc 59)
      (cond (Nat.blt pc 52)
       (cond (Nat.blt pc 47)
        (cond (Nat.beq pc 44) (some (.iinc 4 1, 3, 0, 0, 0, 0, 1, 0)) none)
        (cond (Nat.blt pc 50)
         (cond (Nat.beq pc 47) (some (.goto (-37), 3, 10, 0, 0, 0, 0, 0)) none)
         (cond (Nat.beq pc 50) (some (.iload 4, 2, 0, 0, 0, 0, 0, 0)) none)))
       (cond (Nat.blt pc 56)
        (cond (Nat.blt pc 53)
         (cond (Nat.beq pc 52) (some (.iconst 1, 1, 0, 0, 0, 0, 1, 0)) none)
         (cond (Nat.beq pc 53) (some (.if_icmp .le 28, 3, 81, 0, 0, 0, 0, 0)) none))
        (cond (Nat.blt pc 57)
         (cond (Nat.beq pc 56) (some (.aload_n 0, 1, 0, 0, 0, 0, 0, 0)) none)
         (cond (Nat.beq pc 57) (some (.iload 4, 2, 0, 0, 0, 0, 0, 0)) none))))
      (cond (Nat.blt pc 65)
       (cond (Nat.blt pc 61)
        (cond (Nat.blt pc 60)
         (cond (Nat.beq pc 59) (some (.iconst 1, 1, 0, 0, 0, 0, 1, 0)) none)
         (cond (Nat.beq pc 60) (some (.isub, 1, 0, 0, 0, 0, 0, 0)) none))
        (cond (Nat.blt pc 64)
         (cond (Nat.beq pc 61) (some (.invokevirtual 241, 3, 141, 0, 0, 2268, 0, 0)) none)
         (cond (Nat.beq pc 64) (some (.aload_n 0, 1, 0, 0, 0, 0, 0, 0)) none)))
       (cond (Nat.blt pc 69)
        (cond (Nat.blt pc 66)
         (cond (Nat.beq pc 65) (some (.aload_n 0, 1, 0, 0, 0, 0, 0, 0)) none)
         (cond (Nat.beq pc 66) (some (.getfield 38, 3, 8, 27, 2, 1806, 0, 0)) none))
        (cond (Nat.blt pc 70)
         (cond (Nat.beq pc 69) (some (.iload_n 1, 1, 0, 0, 0, 0, 0, 0)) none)
         (cond (Nat.beq pc 70) (some (.iload_n 2, 1, 0, 0, 0, 0, 0, 0)) none)))))
     (cond (Nat.blt pc 84)
      (cond (Nat.blt pc 75)
       (cond (Nat.blt pc 73)
        (cond (Nat.blt pc 72)
         (cond (Nat.beq pc 71) (some (.imul, 1, 0, 0, 0, 0, 0, 0)) none)
         (cond (Nat.beq pc 72) (some (.iload_n 3, 1, 0, 0, 0, 0, 0, 0)) none))
        (cond (Nat.blt pc 74)
         (cond (Nat.beq pc 73) (some (.iadd, 1, 0, 0, 0, 0, 0, 0)) none)
         (cond (Nat.beq pc 74) (some (.iaload, 1, 0, 0, 0, 0, 0, 0)) none)))
       (cond (Nat.blt pc 81)
        (cond (Nat.blt pc 78)
         (cond (Nat.beq pc 75) (some (.invokevirtual 241, 3, 141, 0, 0, 2268, 0, 0)) none)
         (cond (Nat.beq pc 78) (some (.goto 111, 3, 189, 0, 0, 0, 0, 0)) none))
        (cond (Nat.blt pc 82)
         (cond (Nat.beq pc 81) (some (.iload_n 3, 1, 0, 0, 0, 0, 0, 0)) none)
         (cond (Nat.beq pc 82) (some (.iload 4, 2, 0, 0, 0, 0, 0, 0)) none))))
      (cond (Nat.blt pc 90)
       (cond (Nat.blt pc 86)
        (cond (Nat.blt pc 85)
         (cond (Nat.beq pc 84) (some (.iadd, 1, 0, 0, 0, 0, 0, 0)) none)
         (cond (Nat.beq pc 85) (some (.iload_n 1, 1, 0, 0, 0, 0, 0, 0)) none))
        (cond (Nat.blt pc 89)
         (cond (Nat.beq pc 86) (some (.if_icmp .ge 50, 3, 136, 0, 0, 0, 0, 0)) none)
         (cond (Nat.beq pc 89) (some (.iload_n 3, 1, 0, 0, 0, 0, 0, 0)) none)))
       (cond (Nat.blt pc 93)
        (cond (Nat.blt pc 92)
         (cond (Nat.beq pc 90) (some (.iload 4, 2, 0, 0, 0, 0, 0, 0)) none)
         (cond (Nat.beq pc 92) (some (.iadd, 1, 0, 0, 0, 0, 0, 0)) none))
        (cond (Nat.blt pc 94)
         (cond (Nat.beq pc 93) (some (.iconst 1, 1, 0, 0, 0, 0, 1, 0)) none)
         (cond (Nat.beq pc 94) (some (.iadd, 1, 0, 0, 0, 0, 0, 0)) none)))))))
   (cond (Nat.blt pc 143)
    (cond (Nat.blt pc 117)
     (cond (Nat.blt pc 106)
      (cond (Nat.blt pc 100)
       (cond (Nat.blt pc 96)
        (cond (Nat.beq pc 95) (some (.iload_n 1, 1, 0, 0, 0, 0, 0, 0)) none)
        (cond (Nat.blt pc 99)
         (cond (Nat.beq pc 96) (some (.if_icmp .ge 34, 3, 130, 0, 0, 0, 0, 0)) none)
         (cond (Nat.beq pc 99) (some (.aload_n 0, 1, 0, 0, 0, 0, 0, 0)) none)))
       (cond (Nat.blt pc 104)
        (cond (Nat.blt pc 103)
         (cond (Nat.beq pc 100) (some (.getfield 38, 3, 8, 27, 2, 1806, 0, 0)) none)
         (cond (Nat.beq pc 103) (some (.iload_n 1, 1, 0, 0, 0, 0, 0, 0)) none))
        (cond (Nat.blt pc 105)
         (cond (Nat.beq pc 104) (some (.iload_n 2, 1, 0, 0, 0, 0, 0, 0)) none)
         (cond (Nat.beq pc 105) (some (.imul, 1, 0, 0, 0, 0, 0, 0)) none))))
      (cond (Nat.blt pc 111)
       (cond (Nat.blt pc 108)
        (cond (Nat.blt pc 107)
         (cond (Nat.beq pc 106) (some (.iload_n 3, 1, 0, 0, 0, 0, 0, 0)) none)
         (cond (Nat.beq pc 107) (some (.iadd, 1, 0, 0, 0, 0, 0, 0)) none))
        (cond (Nat.blt pc 110)
         (cond (Nat.beq pc 108) (some (.iload 4, 2, 0, 0, 0, 0, 0, 0)) none)
         (cond (Nat.beq pc 110) (some (.iadd, 1, 0, 0, 0, 0, 0, 0)) none)))
       (cond (Nat.blt pc 113)
        (cond (Nat.blt pc 112)
         (cond (Nat.beq pc 111) (some (.iaload, 1, 0, 0, 0, 0, 0, 0)) none)
         (cond (Nat.beq pc 112) (some (.aload_n 0, 1, 0, 0, 0, 0, 0, 0)) none))
        (cond (Nat.blt pc 116)
         (cond (Nat.beq pc 113) (some (.getfield 38, 3, 8, 27, 2, 1806, 0, 0)) none)
         (cond (Nat.beq pc 116) (some (.iload_n 1, 1, 0, 0, 0, 0, 0, 0)) none)))))
     (cond (Nat.blt pc 126)
      (cond (Nat.blt pc 121)
       (cond (Nat.blt pc 119)
        (cond (Nat.blt pc 118)
         (cond (Nat.beq pc 117) (some (.iload_n 2, 1, 0, 0, 0, 0, 0, 0)) none)
         (cond (Nat.beq pc 118) (some (.imul, 1, 0, 0, 0, 0, 0, 0)) none))
        (cond (Nat.blt pc 120)
         (cond (Nat.beq pc 119) (some (.iload_n 3, 1, 0, 0, 0, 0, 0, 0)) none)
         (cond (Nat.beq pc 120) (some (.iadd, 1, 0, 0, 0, 0, 0, 0)) none)))
       (cond (Nat.blt pc 124)
        (cond (Nat.blt pc 123)
         (cond (Nat.beq pc 121) (some (.iload 4, 2, 0, 0, 0, 0, 0, 0)) none)
         (cond (Nat.beq pc 123) (some (.iadd, 1, 0, 0, 0, 0, 0, 0)) none))
        (cond (Nat.blt pc 125)
         (cond (Nat.beq pc 124) (some (.iconst 1, 1, 0, 0, 0, 0, 1, 0)) none)
         (cond (Nat.beq pc 125) (some (.iadd, 1, 0, 0, 0, 0, 0, 0)) none))))
      (cond (Nat.blt pc 136)
       (cond (Nat.blt pc 130)
        (cond (Nat.blt pc 127)
         (cond (Nat.beq pc 126) (some (.iaload, 1, 0, 0, 0, 0, 0, 0)) none)
         (cond (Nat.beq pc 127) (some (.if_icmp .eq 9, 3, 136, 0, 0, 0, 0, 0)) none))
        (cond (Nat.blt pc 133)
         (cond (Nat.beq pc 130) (some (.iinc 4 1, 3, 0, 0, 0, 0, 1, 0)) none)
         (cond (Nat.beq pc 133) (some (.goto (-52), 3, 81, 0, 0, 0, 0, 0)) none)))
       (cond (Nat.blt pc 139)
        (cond (Nat.blt pc 137)
         (cond (Nat.beq pc 136) (some (.aload_n 0, 1, 0, 0, 0, 0, 0, 0)) none)
         (cond (Nat.beq pc 137) (some (.iload 4, 2, 0, 0, 0, 0, 0, 0)) none))
        (cond (Nat.blt pc 140)
         (cond (Nat.beq pc 139) (some (.iconst 1, 1, 0, 0, 0, 0, 1, 0)) none)
         (cond (Nat.beq pc 140) (some (.if_icmp .ne 7, 3, 147, 0, 0, 0, 0, 0)) none))))))
    (cond (Nat.blt pc 172)
     (cond (Nat.blt pc 157)
      (cond (Nat.blt pc 150)
       (cond (Nat.blt pc 144)
        (cond (Nat.beq pc 143) (some (.iconst 0, 1, 0, 0, 0, 0, 0, 0)) none)
        (cond (Nat.blt pc 147)
         (cond (Nat.beq pc 144) (some (.goto 9, 3, 153, 0, 0, 0, 0, 0)) none)
         (cond (Nat.beq pc 147) (some (.sipush 257, 3, 0, 0, 0, 0, 257, 0)) none)))
       (cond (Nat.blt pc 153)
        (cond (Nat.blt pc 152)
         (cond (Nat.beq pc 150) (some (.iload 4, 2, 0, 0, 0, 0, 0, 0)) none)
         (cond (Nat.beq pc 152) (some (.isub, 1, 0, 0, 0, 0, 0, 0)) none))
        (cond (Nat.blt pc 156)
         (cond (Nat.beq pc 153) (some (.invokevirtual 241, 3, 141, 0, 0, 2268, 0, 0)) none)
         (cond (Nat.beq pc 156) (some (.iconst 0, 1, 0, 0, 0, 0, 0, 0)) none))))
      (cond (Nat.blt pc 166)
       (cond (Nat.blt pc 161)
        (cond (Nat.blt pc 159)
         (cond (Nat.beq pc 157) (some (.istore 5, 2, 0, 0, 0, 0, 0, 0)) none)
         (cond (Nat.beq pc 159) (some (.iload 5, 2, 0, 0, 0, 0, 0, 0)) none))
        (cond (Nat.blt pc 163)
         (cond (Nat.beq pc 161) (some (.iload 4, 2, 0, 0, 0, 0, 0, 0)) none)
         (cond (Nat.beq pc 163) (some (.if_icmp .ge 26, 3, 189, 0, 0, 0, 0, 0)) none)))
       (cond (Nat.blt pc 168)
        (cond (Nat.blt pc 167)
         (cond (Nat.beq pc 166) (some (.aload_n 0, 1, 0, 0, 0, 0, 0, 0)) none)
         (cond (Nat.beq pc 167) (some (.aload_n 0, 1, 0, 0, 0, 0, 0, 0)) none))
        (cond (Nat.blt pc 171)
         (cond (Nat.beq pc 168) (some (.getfield 38, 3, 8, 27, 2, 1806, 0, 0)) none)
         (cond (Nat.beq pc 171) (some (.iload_n 1, 1, 0, 0, 0, 0, 0, 0)) none)))))
     (cond (Nat.blt pc 183)
      (cond (Nat.blt pc 176)
       (cond (Nat.blt pc 174)
        (cond (Nat.blt pc 173)
         (cond (Nat.beq pc 172) (some (.iload_n 2, 1, 0, 0, 0, 0, 0, 0)) none)
         (cond (Nat.beq pc 173) (some (.imul, 1, 0, 0, 0, 0, 0, 0)) none))
        (cond (Nat.blt pc 175)
         (cond (Nat.beq pc 174) (some (.iload_n 3, 1, 0, 0, 0, 0, 0, 0)) none)
         (cond (Nat.beq pc 175) (some (.iadd, 1, 0, 0, 0, 0, 0, 0)) none)))
       (cond (Nat.blt pc 179)
        (cond (Nat.blt pc 178)
         (cond (Nat.beq pc 176) (some (.iload 5, 2, 0, 0, 0, 0, 0, 0)) none)
         (cond (Nat.beq pc 178) (some (.iadd, 1, 0, 0, 0, 0, 0, 0)) none))
        (cond (Nat.blt pc 180)
         (cond (Nat.beq pc 179) (some (.iaload, 1, 0, 0, 0, 0, 0, 0)) none)
         (cond (Nat.beq pc 180) (some (.invokevirtual 241, 3, 141, 0, 0, 2268, 0, 0)) none))))
      (cond (Nat.blt pc 192)
       (cond (Nat.blt pc 189)
        (cond (Nat.blt pc 186)
         (cond (Nat.beq pc 183) (some (.iinc 5 1, 3, 0, 0, 0, 0, 1, 0)) none)
         (cond (Nat.beq pc 186) (some (.goto (-27), 3, 159, 0, 0, 0, 0, 0)) none))
        (cond (Nat.blt pc 190)
         (cond (Nat.beq pc 189) (some (.iload_n 3, 1, 0, 0, 0, 0, 0, 0)) none)
         (cond (Nat.beq pc 190) (some (.iload 4, 2, 0, 0, 0, 0, 0, 0)) none)))
       (cond (Nat.blt pc 194)
        (cond (Nat.blt pc 193)
         (cond (Nat.beq pc 192) (some (.iadd, 1, 0, 0, 0, 0, 0, 0)) none)
         (cond (Nat.beq pc 193) (some (.istore_n 3, 1, 0, 0, 0, 0, 0, 0)) none))
        (cond (Nat.blt pc 197)
         (cond (Nat.beq pc 194) (some (.goto (-192), 3, 2, 0, 0, 0, 0, 0)) none)
         (cond (Nat.beq pc 197) (some (.return_, 1, 0, 0, 0, 0, 0, 0)) none)))))))) none
-- PrintHouseModel.face (IIZII)V
def zc144 (pc : Nat) : Option z_I := cond (Nat.blt pc 267)
  (cond (Nat.blt pc 128)
   (cond (Nat.blt pc 60)
    (cond (Nat.blt pc 29)
     (cond (Nat.blt pc 12)
      (cond (Nat.blt pc 7)
       (cond (Nat.blt pc 4)
        (cond (Nat.blt pc 1)
         (cond (Nat.beq pc 0) (some (.aload_n 0, 1, 0, 0, 0, 0, 0, 0)) none)
         (cond (Nat.beq pc 1) (some (.getfield 13, 3, 8, 5, 2, 1762, 0, 0)) none))
        (cond (Nat.blt pc 6)
         (cond (Nat.beq pc 4) (some (.bipush 10, 2, 0, 0, 0, 0, 10, 0)) none)
         (cond (Nat.beq pc 6) (some (.iload_n 1, 1, 0, 0, 0, 0, 0, 0)) none)))
       (cond (Nat.blt pc 10)
        (cond (Nat.blt pc 8)
         (cond (Nat.beq pc 7) (some (.imul, 1, 0, 0, 0, 0, 0, 0)) none)
         (cond (Nat.beq pc 8) (some (.bipush 6, 2, 0, 0, 0, 0, 6, 0)) none))
        (cond (Nat.blt pc 11)
         (cond (Nat.beq pc 10) (some (.iadd, 1, 0, 0, 0, 0, 0, 0)) none)
         (cond (Nat.beq pc 11) (some (.iaload, 1, 0, 0, 0, 0, 0, 0)) none))))
      (cond (Nat.blt pc 20)
       (cond (Nat.blt pc 16)
        (cond (Nat.blt pc 13)
         (cond (Nat.beq pc 12) (some (.iconst 1, 1, 0, 0, 0, 0, 1, 0)) none)
         (cond (Nat.beq pc 13) (some (.if_icmp .ne 7, 3, 20, 0, 0, 0, 0, 0)) none))
        (cond (Nat.blt pc 17)
         (cond (Nat.beq pc 16) (some (.iconst 1, 1, 0, 0, 0, 0, 1, 0)) none)
         (cond (Nat.beq pc 17) (some (.goto 4, 3, 21, 0, 0, 0, 0, 0)) none)))
       (cond (Nat.blt pc 23)
        (cond (Nat.blt pc 21)
         (cond (Nat.beq pc 20) (some (.iconst 0, 1, 0, 0, 0, 0, 0, 0)) none)
         (cond (Nat.beq pc 21) (some (.istore 6, 2, 0, 0, 0, 0, 0, 0)) none))
        (cond (Nat.blt pc 24)
         (cond (Nat.beq pc 23) (some (.aload_n 0, 1, 0, 0, 0, 0, 0, 0)) none)
         (cond (Nat.blt pc 27)
          (cond (Nat.beq pc 24) (some (.getfield 13, 3, 8, 5, 2, 1762, 0, 0)) none)
          (cond (Nat.beq pc 27) (some (.bipush 10, 2, 0, 0, 0, 0, 10, 0)) none))))))
     (cond (Nat.blt pc 41)
      (cond (Nat.blt pc 33)
       (cond (Nat.blt pc 31)
        (cond (Nat.blt pc 30)
         (cond (Nat.beq pc 29) (some (.iload_n 1, 1, 0, 0, 0, 0, 0, 0)) none)
         (cond (Nat.beq pc 30) (some (.imul, 1, 0, 0, 0, 0, 0, 0)) none))
        (cond (Nat.blt pc 32)
         (cond (Nat.beq pc 31) (some (.iconst 5, 1, 0, 0, 0, 0, 5, 0)) none)
         (cond (Nat.beq pc 32) (some (.iadd, 1, 0, 0, 0, 0, 0, 0)) none)))
       (cond (Nat.blt pc 36)
        (cond (Nat.blt pc 34)
         (cond (Nat.beq pc 33) (some (.iaload, 1, 0, 0, 0, 0, 0, 0)) none)
         (cond (Nat.beq pc 34) (some (.istore 7, 2, 0, 0, 0, 0, 0, 0)) none))
        (cond (Nat.blt pc 37)
         (cond (Nat.beq pc 36) (some (.iconst 0, 1, 0, 0, 0, 0, 0, 0)) none)
         (cond (Nat.blt pc 39)
          (cond (Nat.beq pc 37) (some (.istore 8, 2, 0, 0, 0, 0, 0, 0)) none)
          (cond (Nat.beq pc 39) (some (.iload 8, 2, 0, 0, 0, 0, 0, 0)) none)))))
      (cond (Nat.blt pc 49)
       (cond (Nat.blt pc 46)
        (cond (Nat.blt pc 43)
         (cond (Nat.beq pc 41) (some (.iload 5, 2, 0, 0, 0, 0, 0, 0)) none)
         (cond (Nat.beq pc 43) (some (.if_icmp .ge 152, 3, 195, 0, 0, 0, 0, 0)) none))
        (cond (Nat.blt pc 47)
         (cond (Nat.beq pc 46) (some (.iconst 0, 1, 0, 0, 0, 0, 0, 0)) none)
         (cond (Nat.beq pc 47) (some (.istore 9, 2, 0, 0, 0, 0, 0, 0)) none)))
       (cond (Nat.blt pc 53)
        (cond (Nat.blt pc 51)
         (cond (Nat.beq pc 49) (some (.iload 9, 2, 0, 0, 0, 0, 0, 0)) none)
         (cond (Nat.beq pc 51) (some (.iload 4, 2, 0, 0, 0, 0, 0, 0)) none))
        (cond (Nat.blt pc 56)
         (cond (Nat.beq pc 53) (some (.if_icmp .ge 136, 3, 189, 0, 0, 0, 0, 0)) none)
         (cond (Nat.blt pc 57)
          (cond (Nat.beq pc 56) (some (.iload_n 3, 1, 0, 0, 0, 0, 0, 0)) none)
          (cond (Nat.beq pc 57) (some (.ifCond .eq 18, 3, 75, 0, 0, 0, 0, 0)) none)))))))
    (cond (Nat.blt pc 95)
     (cond (Nat.blt pc 78)
      (cond (Nat.blt pc 68)
       (cond (Nat.blt pc 63)
        (cond (Nat.blt pc 62)
         (cond (Nat.beq pc 60) (some (.iload 7, 2, 0, 0, 0, 0, 0, 0)) none)
         (cond (Nat.beq pc 62) (some (.iconst 2, 1, 0, 0, 0, 0, 2, 0)) none))
        (cond (Nat.blt pc 66)
         (cond (Nat.beq pc 63) (some (.if_icmp .ne 12, 3, 75, 0, 0, 0, 0, 0)) none)
         (cond (Nat.beq pc 66) (some (.iload 6, 2, 0, 0, 0, 0, 0, 0)) none)))
       (cond (Nat.blt pc 72)
        (cond (Nat.blt pc 71)
         (cond (Nat.beq pc 68) (some (.ifCond .ne 7, 3, 75, 0, 0, 0, 0, 0)) none)
         (cond (Nat.beq pc 71) (some (.iconst 1, 1, 0, 0, 0, 0, 1, 0)) none))
        (cond (Nat.blt pc 75)
         (cond (Nat.beq pc 72) (some (.goto 4, 3, 76, 0, 0, 0, 0, 0)) none)
         (cond (Nat.blt pc 76)
          (cond (Nat.beq pc 75) (some (.iconst 0, 1, 0, 0, 0, 0, 0, 0)) none)
          (cond (Nat.beq pc 76) (some (.istore 10, 2, 0, 0, 0, 0, 0, 0)) none)))))
      (cond (Nat.blt pc 86)
       (cond (Nat.blt pc 83)
        (cond (Nat.blt pc 80)
         (cond (Nat.beq pc 78) (some (.iload 10, 2, 0, 0, 0, 0, 0, 0)) none)
         (cond (Nat.beq pc 80) (some (.ifCond .eq 13, 3, 93, 0, 0, 0, 0, 0)) none))
        (cond (Nat.blt pc 85)
         (cond (Nat.beq pc 83) (some (.iload 5, 2, 0, 0, 0, 0, 0, 0)) none)
         (cond (Nat.beq pc 85) (some (.iconst 1, 1, 0, 0, 0, 0, 1, 0)) none)))
       (cond (Nat.blt pc 89)
        (cond (Nat.blt pc 87)
         (cond (Nat.beq pc 86) (some (.isub, 1, 0, 0, 0, 0, 0, 0)) none)
         (cond (Nat.beq pc 87) (some (.iload 8, 2, 0, 0, 0, 0, 0, 0)) none))
        (cond (Nat.blt pc 90)
         (cond (Nat.beq pc 89) (some (.isub, 1, 0, 0, 0, 0, 0, 0)) none)
         (cond (Nat.blt pc 93)
          (cond (Nat.beq pc 90) (some (.goto 5, 3, 95, 0, 0, 0, 0, 0)) none)
          (cond (Nat.beq pc 93) (some (.iload 8, 2, 0, 0, 0, 0, 0, 0)) none))))))
     (cond (Nat.blt pc 112)
      (cond (Nat.blt pc 104)
       (cond (Nat.blt pc 99)
        (cond (Nat.blt pc 97)
         (cond (Nat.beq pc 95) (some (.istore 11, 2, 0, 0, 0, 0, 0, 0)) none)
         (cond (Nat.beq pc 97) (some (.iload 10, 2, 0, 0, 0, 0, 0, 0)) none))
        (cond (Nat.blt pc 102)
         (cond (Nat.beq pc 99) (some (.ifCond .eq 13, 3, 112, 0, 0, 0, 0, 0)) none)
         (cond (Nat.beq pc 102) (some (.iload 4, 2, 0, 0, 0, 0, 0, 0)) none)))
       (cond (Nat.blt pc 106)
        (cond (Nat.blt pc 105)
         (cond (Nat.beq pc 104) (some (.iconst 1, 1, 0, 0, 0, 0, 1, 0)) none)
         (cond (Nat.beq pc 105) (some (.isub, 1, 0, 0, 0, 0, 0, 0)) none))
        (cond (Nat.blt pc 108)
         (cond (Nat.beq pc 106) (some (.iload 9, 2, 0, 0, 0, 0, 0, 0)) none)
         (cond (Nat.blt pc 109)
          (cond (Nat.beq pc 108) (some (.isub, 1, 0, 0, 0, 0, 0, 0)) none)
          (cond (Nat.beq pc 109) (some (.goto 5, 3, 114, 0, 0, 0, 0, 0)) none)))))
      (cond (Nat.blt pc 121)
       (cond (Nat.blt pc 116)
        (cond (Nat.blt pc 114)
         (cond (Nat.beq pc 112) (some (.iload 9, 2, 0, 0, 0, 0, 0, 0)) none)
         (cond (Nat.beq pc 114) (some (.istore 12, 2, 0, 0, 0, 0, 0, 0)) none))
        (cond (Nat.blt pc 118)
         (cond (Nat.beq pc 116) (some (.iload 7, 2, 0, 0, 0, 0, 0, 0)) none)
         (cond (Nat.beq pc 118) (some (.ifCond .ne 7, 3, 125, 0, 0, 0, 0, 0)) none)))
       (cond (Nat.blt pc 125)
        (cond (Nat.blt pc 122)
         (cond (Nat.beq pc 121) (some (.iload_n 2, 1, 0, 0, 0, 0, 0, 0)) none)
         (cond (Nat.beq pc 122) (some (.goto 16, 3, 138, 0, 0, 0, 0, 0)) none))
        (cond (Nat.blt pc 126)
         (cond (Nat.beq pc 125) (some (.iconst 2, 1, 0, 0, 0, 0, 2, 0)) none)
         (cond (Nat.blt pc 127)
          (cond (Nat.beq pc 126) (some (.iload_n 2, 1, 0, 0, 0, 0, 0, 0)) none)
          (cond (Nat.beq pc 127) (some (.imul, 1, 0, 0, 0, 0, 0, 0)) none))))))))
   (cond (Nat.blt pc 196)
    (cond (Nat.blt pc 159)
     (cond (Nat.blt pc 144)
      (cond (Nat.blt pc 136)
       (cond (Nat.blt pc 132)
        (cond (Nat.blt pc 129)
         (cond (Nat.beq pc 128) (some (.iload_n 3, 1, 0, 0, 0, 0, 0, 0)) none)
         (cond (Nat.beq pc 129) (some (.ifCond .eq 7, 3, 136, 0, 0, 0, 0, 0)) none))
        (cond (Nat.blt pc 133)
         (cond (Nat.beq pc 132) (some (.iconst 1, 1, 0, 0, 0, 0, 1, 0)) none)
         (cond (Nat.beq pc 133) (some (.goto 4, 3, 137, 0, 0, 0, 0, 0)) none)))
       (cond (Nat.blt pc 138)
        (cond (Nat.blt pc 137)
         (cond (Nat.beq pc 136) (some (.iconst 0, 1, 0, 0, 0, 0, 0, 0)) none)
         (cond (Nat.beq pc 137) (some (.iadd, 1, 0, 0, 0, 0, 0, 0)) none))
        (cond (Nat.blt pc 140)
         (cond (Nat.beq pc 138) (some (.istore 13, 2, 0, 0, 0, 0, 0, 0)) none)
         (cond (Nat.blt pc 141)
          (cond (Nat.beq pc 140) (some (.aload_n 0, 1, 0, 0, 0, 0, 0, 0)) none)
          (cond (Nat.beq pc 141) (some (.getfield 38, 3, 8, 27, 2, 1806, 0, 0)) none)))))
      (cond (Nat.blt pc 151)
       (cond (Nat.blt pc 148)
        (cond (Nat.blt pc 146)
         (cond (Nat.beq pc 144) (some (.iload 4, 2, 0, 0, 0, 0, 0, 0)) none)
         (cond (Nat.beq pc 146) (some (.iload 8, 2, 0, 0, 0, 0, 0, 0)) none))
        (cond (Nat.blt pc 149)
         (cond (Nat.beq pc 148) (some (.imul, 1, 0, 0, 0, 0, 0, 0)) none)
         (cond (Nat.beq pc 149) (some (.iload 9, 2, 0, 0, 0, 0, 0, 0)) none)))
       (cond (Nat.blt pc 154)
        (cond (Nat.blt pc 152)
         (cond (Nat.beq pc 151) (some (.iadd, 1, 0, 0, 0, 0, 0, 0)) none)
         (cond (Nat.beq pc 152) (some (.iload 6, 2, 0, 0, 0, 0, 0, 0)) none))
        (cond (Nat.blt pc 157)
         (cond (Nat.beq pc 154) (some (.ifCond .eq 17, 3, 171, 0, 0, 0, 0, 0)) none)
         (cond (Nat.blt pc 158)
          (cond (Nat.beq pc 157) (some (.aload_n 0, 1, 0, 0, 0, 0, 0, 0)) none)
          (cond (Nat.beq pc 158) (some (.iload_n 1, 1, 0, 0, 0, 0, 0, 0)) none))))))
     (cond (Nat.blt pc 175)
      (cond (Nat.blt pc 165)
       (cond (Nat.blt pc 161)
        (cond (Nat.blt pc 160)
         (cond (Nat.beq pc 159) (some (.iload_n 2, 1, 0, 0, 0, 0, 0, 0)) none)
         (cond (Nat.beq pc 160) (some (.iload_n 3, 1, 0, 0, 0, 0, 0, 0)) none))
        (cond (Nat.blt pc 163)
         (cond (Nat.beq pc 161) (some (.iload 11, 2, 0, 0, 0, 0, 0, 0)) none)
         (cond (Nat.beq pc 163) (some (.iload 12, 2, 0, 0, 0, 0, 0, 0)) none)))
       (cond (Nat.blt pc 171)
        (cond (Nat.blt pc 168)
         (cond (Nat.beq pc 165) (some (.invokevirtual 245, 3, 140, 0, 0, 2284, 0, 0)) none)
         (cond (Nat.beq pc 168) (some (.goto 14, 3, 182, 0, 0, 0, 0, 0)) none))
        (cond (Nat.blt pc 172)
         (cond (Nat.beq pc 171) (some (.aload_n 0, 1, 0, 0, 0, 0, 0, 0)) none)
         (cond (Nat.blt pc 173)
          (cond (Nat.beq pc 172) (some (.iload_n 1, 1, 0, 0, 0, 0, 0, 0)) none)
          (cond (Nat.beq pc 173) (some (.iload 13, 2, 0, 0, 0, 0, 0, 0)) none)))))
      (cond (Nat.blt pc 183)
       (cond (Nat.blt pc 179)
        (cond (Nat.blt pc 177)
         (cond (Nat.beq pc 175) (some (.iload 11, 2, 0, 0, 0, 0, 0, 0)) none)
         (cond (Nat.beq pc 177) (some (.iload 12, 2, 0, 0, 0, 0, 0, 0)) none))
        (cond (Nat.blt pc 182)
         (cond (Nat.beq pc 179) (some (.invokevirtual 249, 3, 139, 0, 0, 2308, 0, 0)) none)
         (cond (Nat.beq pc 182) (some (.iastore, 1, 0, 0, 0, 0, 0, 0)) none)))
       (cond (Nat.blt pc 189)
        (cond (Nat.blt pc 186)
         (cond (Nat.beq pc 183) (some (.iinc 9 1, 3, 0, 0, 0, 0, 1, 0)) none)
         (cond (Nat.beq pc 186) (some (.goto (-137), 3, 49, 0, 0, 0, 0, 0)) none))
        (cond (Nat.blt pc 192)
         (cond (Nat.beq pc 189) (some (.iinc 8 1, 3, 0, 0, 0, 0, 1, 0)) none)
         (cond (Nat.blt pc 195)
          (cond (Nat.beq pc 192) (some (.goto (-153), 3, 39, 0, 0, 0, 0, 0)) none)
          (cond (Nat.beq pc 195) (some (.iconst 0, 1, 0, 0, 0, 0, 0, 0)) none)))))))
    (cond (Nat.blt pc 231)
     (cond (Nat.blt pc 213)
      (cond (Nat.blt pc 205)
       (cond (Nat.blt pc 200)
        (cond (Nat.blt pc 198)
         (cond (Nat.beq pc 196) (some (.istore 8, 2, 0, 0, 0, 0, 0, 0)) none)
         (cond (Nat.beq pc 198) (some (.iload 8, 2, 0, 0, 0, 0, 0, 0)) none))
        (cond (Nat.blt pc 202)
         (cond (Nat.beq pc 200) (some (.iload 5, 2, 0, 0, 0, 0, 0, 0)) none)
         (cond (Nat.beq pc 202) (some (.if_icmp .ge 64, 3, 266, 0, 0, 0, 0, 0)) none)))
       (cond (Nat.blt pc 208)
        (cond (Nat.blt pc 206)
         (cond (Nat.beq pc 205) (some (.iconst 1, 1, 0, 0, 0, 0, 1, 0)) none)
         (cond (Nat.beq pc 206) (some (.istore 9, 2, 0, 0, 0, 0, 0, 0)) none))
        (cond (Nat.blt pc 210)
         (cond (Nat.beq pc 208) (some (.iload 8, 2, 0, 0, 0, 0, 0, 0)) none)
         (cond (Nat.blt pc 212)
          (cond (Nat.beq pc 210) (some (.iload 9, 2, 0, 0, 0, 0, 0, 0)) none)
          (cond (Nat.beq pc 212) (some (.iadd, 1, 0, 0, 0, 0, 0, 0)) none)))))
      (cond (Nat.blt pc 221)
       (cond (Nat.blt pc 218)
        (cond (Nat.blt pc 215)
         (cond (Nat.beq pc 213) (some (.iload 5, 2, 0, 0, 0, 0, 0, 0)) none)
         (cond (Nat.beq pc 215) (some (.if_icmp .ge 25, 3, 240, 0, 0, 0, 0, 0)) none))
        (cond (Nat.blt pc 219)
         (cond (Nat.beq pc 218) (some (.aload_n 0, 1, 0, 0, 0, 0, 0, 0)) none)
         (cond (Nat.beq pc 219) (some (.iload 4, 2, 0, 0, 0, 0, 0, 0)) none)))
       (cond (Nat.blt pc 225)
        (cond (Nat.blt pc 223)
         (cond (Nat.beq pc 221) (some (.iload 8, 2, 0, 0, 0, 0, 0, 0)) none)
         (cond (Nat.beq pc 223) (some (.iload 8, 2, 0, 0, 0, 0, 0, 0)) none))
        (cond (Nat.blt pc 227)
         (cond (Nat.beq pc 225) (some (.iload 9, 2, 0, 0, 0, 0, 0, 0)) none)
         (cond (Nat.blt pc 228)
          (cond (Nat.beq pc 227) (some (.iadd, 1, 0, 0, 0, 0, 0, 0)) none)
          (cond (Nat.beq pc 228) (some (.invokevirtual 252, 3, 142, 0, 0, 2316, 0, 0)) none))))))
     (cond (Nat.blt pc 249)
      (cond (Nat.blt pc 241)
       (cond (Nat.blt pc 237)
        (cond (Nat.blt pc 234)
         (cond (Nat.beq pc 231) (some (.ifCond .eq 9, 3, 240, 0, 0, 0, 0, 0)) none)
         (cond (Nat.beq pc 234) (some (.iinc 9 1, 3, 0, 0, 0, 0, 1, 0)) none))
        (cond (Nat.blt pc 240)
         (cond (Nat.beq pc 237) (some (.goto (-29), 3, 208, 0, 0, 0, 0, 0)) none)
         (cond (Nat.beq pc 240) (some (.aload_n 0, 1, 0, 0, 0, 0, 0, 0)) none)))
       (cond (Nat.blt pc 244)
        (cond (Nat.blt pc 243)
         (cond (Nat.beq pc 241) (some (.iload 9, 2, 0, 0, 0, 0, 0, 0)) none)
         (cond (Nat.beq pc 243) (some (.iconst 1, 1, 0, 0, 0, 0, 1, 0)) none))
        (cond (Nat.blt pc 245)
         (cond (Nat.beq pc 244) (some (.isub, 1, 0, 0, 0, 0, 0, 0)) none)
         (cond (Nat.blt pc 248)
          (cond (Nat.beq pc 245) (some (.invokevirtual 241, 3, 141, 0, 0, 2268, 0, 0)) none)
          (cond (Nat.beq pc 248) (some (.aload_n 0, 1, 0, 0, 0, 0, 0, 0)) none)))))
      (cond (Nat.blt pc 258)
       (cond (Nat.blt pc 253)
        (cond (Nat.blt pc 251)
         (cond (Nat.beq pc 249) (some (.iload 4, 2, 0, 0, 0, 0, 0, 0)) none)
         (cond (Nat.beq pc 251) (some (.iload 8, 2, 0, 0, 0, 0, 0, 0)) none))
        (cond (Nat.blt pc 256)
         (cond (Nat.beq pc 253) (some (.invokevirtual 255, 3, 143, 0, 0, 2324, 0, 0)) none)
         (cond (Nat.beq pc 256) (some (.iload 8, 2, 0, 0, 0, 0, 0, 0)) none)))
       (cond (Nat.blt pc 261)
        (cond (Nat.blt pc 260)
         (cond (Nat.beq pc 258) (some (.iload 9, 2, 0, 0, 0, 0, 0, 0)) none)
         (cond (Nat.beq pc 260) (some (.iadd, 1, 0, 0, 0, 0, 0, 0)) none))
        (cond (Nat.blt pc 263)
         (cond (Nat.beq pc 261) (some (.istore 8, 2, 0, 0, 0, 0, 0, 0)) none)
         (cond (Nat.blt pc 266)
          (cond (Nat.beq pc 263) (some (.goto (-65), 3, 198, 0, 0, 0, 0, 0)) none)
          (cond (Nat.beq pc 266) (some (.return_, 1, 0, 0, 0, 0, 0, 0)) none))))))))) none
-- PrintHouseModel.sendSheet (I)V
def zc145 (pc : Nat) : Option z_I := cond (Nat.blt pc 211)
  (cond (Nat.blt pc 97)
   (cond (Nat.blt pc 46)
    (cond (Nat.blt pc 23)
     (cond (Nat.blt pc 11)
      (cond (Nat.blt pc 6)
       (cond (Nat.blt pc 1)
        (cond (Nat.beq pc 0) (some (.aload_n 0, 1, 0, 0, 0, 0, 0, 0)) none)
        (cond (Nat.blt pc 4)
         (cond (Nat.beq pc 1) (some (.getfield 13, 3, 8, 5, 2, 1762, 0, 0)) none)
         (cond (Nat.beq pc 4) (some (.bipush 10, 2, 0, 0, 0, 0, 10, 0)) none)))
       (cond (Nat.blt pc 8)
        (cond (Nat.blt pc 7)
         (cond (Nat.beq pc 6) (some (.iload_n 1, 1, 0, 0, 0, 0, 0, 0)) none)
         (cond (Nat.beq pc 7) (some (.imul, 1, 0, 0, 0, 0, 0, 0)) none))
        (cond (Nat.blt pc 10)
         (cond (Nat.beq pc 8) (some (.bipush 8, 2, 0, 0, 0, 0, 8, 0)) none)
         (cond (Nat.beq pc 10) (some (.iadd, 1, 0, 0, 0, 0, 0, 0)) none))))
      (cond (Nat.blt pc 17)
       (cond (Nat.blt pc 13)
        (cond (Nat.blt pc 12)
         (cond (Nat.beq pc 11) (some (.iaload, 1, 0, 0, 0, 0, 0, 0)) none)
         (cond (Nat.beq pc 12) (some (.aload_n 0, 1, 0, 0, 0, 0, 0, 0)) none))
        (cond (Nat.blt pc 14)
         (cond (Nat.beq pc 13) (some (.iload_n 1, 1, 0, 0, 0, 0, 0, 0)) none)
         (cond (Nat.beq pc 14) (some (.invokevirtual 238, 3, 136, 0, 0, 2252, 0, 0)) none)))
       (cond (Nat.blt pc 19)
        (cond (Nat.blt pc 18)
         (cond (Nat.beq pc 17) (some (.irem, 1, 0, 0, 0, 0, 0, 0)) none)
         (cond (Nat.beq pc 18) (some (.istore_n 2, 1, 0, 0, 0, 0, 0, 0)) none))
        (cond (Nat.blt pc 20)
         (cond (Nat.beq pc 19) (some (.aload_n 0, 1, 0, 0, 0, 0, 0, 0)) none)
         (cond (Nat.beq pc 20) (some (.getfield 13, 3, 8, 5, 2, 1762, 0, 0)) none)))))
     (cond (Nat.blt pc 32)
      (cond (Nat.blt pc 27)
       (cond (Nat.blt pc 25)
        (cond (Nat.beq pc 23) (some (.bipush 10, 2, 0, 0, 0, 0, 10, 0)) none)
        (cond (Nat.blt pc 26)
         (cond (Nat.beq pc 25) (some (.iload_n 1, 1, 0, 0, 0, 0, 0, 0)) none)
         (cond (Nat.beq pc 26) (some (.imul, 1, 0, 0, 0, 0, 0, 0)) none)))
       (cond (Nat.blt pc 30)
        (cond (Nat.blt pc 29)
         (cond (Nat.beq pc 27) (some (.bipush 6, 2, 0, 0, 0, 0, 6, 0)) none)
         (cond (Nat.beq pc 29) (some (.iadd, 1, 0, 0, 0, 0, 0, 0)) none))
        (cond (Nat.blt pc 31)
         (cond (Nat.beq pc 30) (some (.iaload, 1, 0, 0, 0, 0, 0, 0)) none)
         (cond (Nat.beq pc 31) (some (.iconst 1, 1, 0, 0, 0, 0, 1, 0)) none))))
      (cond (Nat.blt pc 40)
       (cond (Nat.blt pc 36)
        (cond (Nat.blt pc 35)
         (cond (Nat.beq pc 32) (some (.if_icmp .ne 7, 3, 39, 0, 0, 0, 0, 0)) none)
         (cond (Nat.beq pc 35) (some (.iconst 1, 1, 0, 0, 0, 0, 1, 0)) none))
        (cond (Nat.blt pc 39)
         (cond (Nat.beq pc 36) (some (.goto 4, 3, 40, 0, 0, 0, 0, 0)) none)
         (cond (Nat.beq pc 39) (some (.iconst 0, 1, 0, 0, 0, 0, 0, 0)) none)))
       (cond (Nat.blt pc 42)
        (cond (Nat.blt pc 41)
         (cond (Nat.beq pc 40) (some (.istore_n 3, 1, 0, 0, 0, 0, 0, 0)) none)
         (cond (Nat.beq pc 41) (some (.iload_n 3, 1, 0, 0, 0, 0, 0, 0)) none))
        (cond (Nat.blt pc 45)
         (cond (Nat.beq pc 42) (some (.ifCond .eq 7, 3, 49, 0, 0, 0, 0, 0)) none)
         (cond (Nat.beq pc 45) (some (.iconst 2, 1, 0, 0, 0, 0, 2, 0)) none))))))
    (cond (Nat.blt pc 72)
     (cond (Nat.blt pc 58)
      (cond (Nat.blt pc 53)
       (cond (Nat.blt pc 49)
        (cond (Nat.beq pc 46) (some (.goto 14, 3, 60, 0, 0, 0, 0, 0)) none)
        (cond (Nat.blt pc 50)
         (cond (Nat.beq pc 49) (some (.aload_n 0, 1, 0, 0, 0, 0, 0, 0)) none)
         (cond (Nat.beq pc 50) (some (.getfield 13, 3, 8, 5, 2, 1762, 0, 0)) none)))
       (cond (Nat.blt pc 56)
        (cond (Nat.blt pc 55)
         (cond (Nat.beq pc 53) (some (.bipush 10, 2, 0, 0, 0, 0, 10, 0)) none)
         (cond (Nat.beq pc 55) (some (.iload_n 1, 1, 0, 0, 0, 0, 0, 0)) none))
        (cond (Nat.blt pc 57)
         (cond (Nat.beq pc 56) (some (.imul, 1, 0, 0, 0, 0, 0, 0)) none)
         (cond (Nat.beq pc 57) (some (.iconst 4, 1, 0, 0, 0, 0, 4, 0)) none))))
      (cond (Nat.blt pc 63)
       (cond (Nat.blt pc 60)
        (cond (Nat.blt pc 59)
         (cond (Nat.beq pc 58) (some (.iadd, 1, 0, 0, 0, 0, 0, 0)) none)
         (cond (Nat.beq pc 59) (some (.iaload, 1, 0, 0, 0, 0, 0, 0)) none))
        (cond (Nat.blt pc 62)
         (cond (Nat.beq pc 60) (some (.istore 4, 2, 0, 0, 0, 0, 0, 0)) none)
         (cond (Nat.beq pc 62) (some (.iload_n 3, 1, 0, 0, 0, 0, 0, 0)) none)))
       (cond (Nat.blt pc 67)
        (cond (Nat.blt pc 66)
         (cond (Nat.beq pc 63) (some (.ifCond .ne 17, 3, 80, 0, 0, 0, 0, 0)) none)
         (cond (Nat.beq pc 66) (some (.aload_n 0, 1, 0, 0, 0, 0, 0, 0)) none))
        (cond (Nat.blt pc 70)
         (cond (Nat.beq pc 67) (some (.getfield 13, 3, 8, 5, 2, 1762, 0, 0)) none)
         (cond (Nat.beq pc 70) (some (.bipush 10, 2, 0, 0, 0, 0, 10, 0)) none)))))
     (cond (Nat.blt pc 81)
      (cond (Nat.blt pc 75)
       (cond (Nat.blt pc 73)
        (cond (Nat.beq pc 72) (some (.iload_n 1, 1, 0, 0, 0, 0, 0, 0)) none)
        (cond (Nat.blt pc 74)
         (cond (Nat.beq pc 73) (some (.imul, 1, 0, 0, 0, 0, 0, 0)) none)
         (cond (Nat.beq pc 74) (some (.iconst 5, 1, 0, 0, 0, 0, 5, 0)) none)))
       (cond (Nat.blt pc 77)
        (cond (Nat.blt pc 76)
         (cond (Nat.beq pc 75) (some (.iadd, 1, 0, 0, 0, 0, 0, 0)) none)
         (cond (Nat.beq pc 76) (some (.iaload, 1, 0, 0, 0, 0, 0, 0)) none))
        (cond (Nat.blt pc 80)
         (cond (Nat.beq pc 77) (some (.ifCond .le 7, 3, 84, 0, 0, 0, 0, 0)) none)
         (cond (Nat.beq pc 80) (some (.iconst 1, 1, 0, 0, 0, 0, 1, 0)) none))))
      (cond (Nat.blt pc 89)
       (cond (Nat.blt pc 85)
        (cond (Nat.blt pc 84)
         (cond (Nat.beq pc 81) (some (.goto 4, 3, 85, 0, 0, 0, 0, 0)) none)
         (cond (Nat.beq pc 84) (some (.iconst 0, 1, 0, 0, 0, 0, 0, 0)) none))
        (cond (Nat.blt pc 87)
         (cond (Nat.beq pc 85) (some (.istore 5, 2, 0, 0, 0, 0, 0, 0)) none)
         (cond (Nat.beq pc 87) (some (.iload 4, 2, 0, 0, 0, 0, 0, 0)) none)))
       (cond (Nat.blt pc 93)
        (cond (Nat.blt pc 90)
         (cond (Nat.beq pc 89) (some (.iconst 1, 1, 0, 0, 0, 0, 1, 0)) none)
         (cond (Nat.beq pc 90) (some (.if_icmp .ne 7, 3, 97, 0, 0, 0, 0, 0)) none))
        (cond (Nat.blt pc 94)
         (cond (Nat.beq pc 93) (some (.iconst 4, 1, 0, 0, 0, 0, 4, 0)) none)
         (cond (Nat.beq pc 94) (some (.goto 16, 3, 110, 0, 0, 0, 0, 0)) none)))))))
   (cond (Nat.blt pc 156)
    (cond (Nat.blt pc 128)
     (cond (Nat.blt pc 112)
      (cond (Nat.blt pc 103)
       (cond (Nat.blt pc 99)
        (cond (Nat.beq pc 97) (some (.iload 4, 2, 0, 0, 0, 0, 0, 0)) none)
        (cond (Nat.blt pc 100)
         (cond (Nat.beq pc 99) (some (.iconst 2, 1, 0, 0, 0, 0, 2, 0)) none)
         (cond (Nat.beq pc 100) (some (.if_icmp .ne 8, 3, 108, 0, 0, 0, 0, 0)) none)))
       (cond (Nat.blt pc 108)
        (cond (Nat.blt pc 105)
         (cond (Nat.beq pc 103) (some (.bipush 6, 2, 0, 0, 0, 0, 6, 0)) none)
         (cond (Nat.beq pc 105) (some (.goto 5, 3, 110, 0, 0, 0, 0, 0)) none))
        (cond (Nat.blt pc 110)
         (cond (Nat.beq pc 108) (some (.bipush 8, 2, 0, 0, 0, 0, 8, 0)) none)
         (cond (Nat.beq pc 110) (some (.istore 6, 2, 0, 0, 0, 0, 0, 0)) none))))
      (cond (Nat.blt pc 119)
       (cond (Nat.blt pc 115)
        (cond (Nat.blt pc 114)
         (cond (Nat.beq pc 112) (some (.iload 4, 2, 0, 0, 0, 0, 0, 0)) none)
         (cond (Nat.beq pc 114) (some (.iconst 1, 1, 0, 0, 0, 0, 1, 0)) none))
        (cond (Nat.blt pc 118)
         (cond (Nat.beq pc 115) (some (.if_icmp .ne 7, 3, 122, 0, 0, 0, 0, 0)) none)
         (cond (Nat.beq pc 118) (some (.iconst 3, 1, 0, 0, 0, 0, 3, 0)) none)))
       (cond (Nat.blt pc 124)
        (cond (Nat.blt pc 122)
         (cond (Nat.beq pc 119) (some (.goto 15, 3, 134, 0, 0, 0, 0, 0)) none)
         (cond (Nat.beq pc 122) (some (.iload 4, 2, 0, 0, 0, 0, 0, 0)) none))
        (cond (Nat.blt pc 125)
         (cond (Nat.beq pc 124) (some (.iconst 2, 1, 0, 0, 0, 0, 2, 0)) none)
         (cond (Nat.beq pc 125) (some (.if_icmp .ne 7, 3, 132, 0, 0, 0, 0, 0)) none)))))
     (cond (Nat.blt pc 141)
      (cond (Nat.blt pc 134)
       (cond (Nat.blt pc 129)
        (cond (Nat.beq pc 128) (some (.iconst 4, 1, 0, 0, 0, 0, 4, 0)) none)
        (cond (Nat.blt pc 132)
         (cond (Nat.beq pc 129) (some (.goto 5, 3, 134, 0, 0, 0, 0, 0)) none)
         (cond (Nat.beq pc 132) (some (.bipush 6, 2, 0, 0, 0, 0, 6, 0)) none)))
       (cond (Nat.blt pc 137)
        (cond (Nat.blt pc 136)
         (cond (Nat.beq pc 134) (some (.istore 7, 2, 0, 0, 0, 0, 0, 0)) none)
         (cond (Nat.beq pc 136) (some (.aload_n 0, 1, 0, 0, 0, 0, 0, 0)) none))
        (cond (Nat.blt pc 138)
         (cond (Nat.beq pc 137) (some (.iconst 0, 1, 0, 0, 0, 0, 0, 0)) none)
         (cond (Nat.beq pc 138) (some (.putfield 32, 3, 8, 25, 0, 1802, 0, 0)) none))))
      (cond (Nat.blt pc 148)
       (cond (Nat.blt pc 144)
        (cond (Nat.blt pc 142)
         (cond (Nat.beq pc 141) (some (.aload_n 0, 1, 0, 0, 0, 0, 0, 0)) none)
         (cond (Nat.beq pc 142) (some (.bipush 83, 2, 0, 0, 0, 0, 83, 0)) none))
        (cond (Nat.blt pc 147)
         (cond (Nat.beq pc 144) (some (.invokevirtual 241, 3, 141, 0, 0, 2268, 0, 0)) none)
         (cond (Nat.beq pc 147) (some (.aload_n 0, 1, 0, 0, 0, 0, 0, 0)) none)))
       (cond (Nat.blt pc 153)
        (cond (Nat.blt pc 150)
         (cond (Nat.beq pc 148) (some (.iload 6, 2, 0, 0, 0, 0, 0, 0)) none)
         (cond (Nat.beq pc 150) (some (.invokevirtual 241, 3, 141, 0, 0, 2268, 0, 0)) none))
        (cond (Nat.blt pc 154)
         (cond (Nat.beq pc 153) (some (.aload_n 0, 1, 0, 0, 0, 0, 0, 0)) none)
         (cond (Nat.beq pc 154) (some (.iload 7, 2, 0, 0, 0, 0, 0, 0)) none))))))
    (cond (Nat.blt pc 184)
     (cond (Nat.blt pc 170)
      (cond (Nat.blt pc 162)
       (cond (Nat.blt pc 159)
        (cond (Nat.beq pc 156) (some (.invokevirtual 241, 3, 141, 0, 0, 2268, 0, 0)) none)
        (cond (Nat.blt pc 160)
         (cond (Nat.beq pc 159) (some (.aload_n 0, 1, 0, 0, 0, 0, 0, 0)) none)
         (cond (Nat.beq pc 160) (some (.iload 5, 2, 0, 0, 0, 0, 0, 0)) none)))
       (cond (Nat.blt pc 166)
        (cond (Nat.blt pc 165)
         (cond (Nat.beq pc 162) (some (.ifCond .eq 7, 3, 169, 0, 0, 0, 0, 0)) none)
         (cond (Nat.beq pc 165) (some (.iconst 2, 1, 0, 0, 0, 0, 2, 0)) none))
        (cond (Nat.blt pc 169)
         (cond (Nat.beq pc 166) (some (.goto 4, 3, 170, 0, 0, 0, 0, 0)) none)
         (cond (Nat.beq pc 169) (some (.iconst 1, 1, 0, 0, 0, 0, 1, 0)) none))))
      (cond (Nat.blt pc 176)
       (cond (Nat.blt pc 174)
        (cond (Nat.blt pc 173)
         (cond (Nat.beq pc 170) (some (.invokevirtual 241, 3, 141, 0, 0, 2268, 0, 0)) none)
         (cond (Nat.beq pc 173) (some (.aload_n 0, 1, 0, 0, 0, 0, 0, 0)) none))
        (cond (Nat.blt pc 175)
         (cond (Nat.beq pc 174) (some (.iload_n 1, 1, 0, 0, 0, 0, 0, 0)) none)
         (cond (Nat.beq pc 175) (some (.iload_n 2, 1, 0, 0, 0, 0, 0, 0)) none)))
       (cond (Nat.blt pc 179)
        (cond (Nat.blt pc 177)
         (cond (Nat.beq pc 176) (some (.iconst 0, 1, 0, 0, 0, 0, 0, 0)) none)
         (cond (Nat.beq pc 177) (some (.iload 6, 2, 0, 0, 0, 0, 0, 0)) none))
        (cond (Nat.blt pc 181)
         (cond (Nat.beq pc 179) (some (.iload 7, 2, 0, 0, 0, 0, 0, 0)) none)
         (cond (Nat.beq pc 181) (some (.invokevirtual 258, 3, 144, 0, 0, 2276, 0, 0)) none)))))
     (cond (Nat.blt pc 197)
      (cond (Nat.blt pc 191)
       (cond (Nat.blt pc 189)
        (cond (Nat.blt pc 186)
         (cond (Nat.beq pc 184) (some (.iload 5, 2, 0, 0, 0, 0, 0, 0)) none)
         (cond (Nat.beq pc 186) (some (.ifCond .eq 14, 3, 200, 0, 0, 0, 0, 0)) none))
        (cond (Nat.blt pc 190)
         (cond (Nat.beq pc 189) (some (.aload_n 0, 1, 0, 0, 0, 0, 0, 0)) none)
         (cond (Nat.beq pc 190) (some (.iload_n 1, 1, 0, 0, 0, 0, 0, 0)) none)))
       (cond (Nat.blt pc 193)
        (cond (Nat.blt pc 192)
         (cond (Nat.beq pc 191) (some (.iload_n 2, 1, 0, 0, 0, 0, 0, 0)) none)
         (cond (Nat.beq pc 192) (some (.iconst 1, 1, 0, 0, 0, 0, 1, 0)) none))
        (cond (Nat.blt pc 195)
         (cond (Nat.beq pc 193) (some (.iload 6, 2, 0, 0, 0, 0, 0, 0)) none)
         (cond (Nat.beq pc 195) (some (.iload 7, 2, 0, 0, 0, 0, 0, 0)) none))))
      (cond (Nat.blt pc 205)
       (cond (Nat.blt pc 201)
        (cond (Nat.blt pc 200)
         (cond (Nat.beq pc 197) (some (.invokevirtual 258, 3, 144, 0, 0, 2276, 0, 0)) none)
         (cond (Nat.beq pc 200) (some (.aload_n 0, 1, 0, 0, 0, 0, 0, 0)) none))
        (cond (Nat.blt pc 202)
         (cond (Nat.beq pc 201) (some (.dup, 1, 0, 0, 0, 0, 0, 0)) none)
         (cond (Nat.beq pc 202) (some (.getfield 262, 3, 8, 10, 0, 1772, 0, 0)) none)))
       (cond (Nat.blt pc 207)
        (cond (Nat.blt pc 206)
         (cond (Nat.beq pc 205) (some (.iconst 1, 1, 0, 0, 0, 0, 1, 0)) none)
         (cond (Nat.beq pc 206) (some (.iadd, 1, 0, 0, 0, 0, 0, 0)) none))
        (cond (Nat.blt pc 210)
         (cond (Nat.beq pc 207) (some (.putfield 262, 3, 8, 10, 0, 1772, 0, 0)) none)
         (cond (Nat.beq pc 210) (some (.return_, 1, 0, 0, 0, 0, 0, 0)) none)))))))) none
-- PrintHouseModel.chosen ()I
def zc146 (pc : Nat) : Option z_I := cond (Nat.blt pc 73)
  (cond (Nat.blt pc 31)
   (cond (Nat.blt pc 18)
    (cond (Nat.blt pc 5)
     (cond (Nat.blt pc 2)
      (cond (Nat.blt pc 1)
       (cond (Nat.beq pc 0) (some (.iconst (-1), 1, 0, 0, 0, 0, (-1), 0)) none)
       (cond (Nat.beq pc 1) (some (.istore_n 1, 1, 0, 0, 0, 0, 0, 0)) none))
      (cond (Nat.blt pc 3)
       (cond (Nat.beq pc 2) (some (.iconst 0, 1, 0, 0, 0, 0, 0, 0)) none)
       (cond (Nat.blt pc 4)
        (cond (Nat.beq pc 3) (some (.istore_n 2, 1, 0, 0, 0, 0, 0, 0)) none)
        (cond (Nat.beq pc 4) (some (.iload_n 2, 1, 0, 0, 0, 0, 0, 0)) none))))
     (cond (Nat.blt pc 12)
      (cond (Nat.blt pc 6)
       (cond (Nat.beq pc 5) (some (.aload_n 0, 1, 0, 0, 0, 0, 0, 0)) none)
       (cond (Nat.blt pc 9)
        (cond (Nat.beq pc 6) (some (.getfield 137, 3, 8, 4, 0, 1760, 0, 0)) none)
        (cond (Nat.beq pc 9) (some (.if_icmp .ge 62, 3, 71, 0, 0, 0, 0, 0)) none)))
      (cond (Nat.blt pc 13)
       (cond (Nat.beq pc 12) (some (.aload_n 0, 1, 0, 0, 0, 0, 0, 0)) none)
       (cond (Nat.blt pc 16)
        (cond (Nat.beq pc 13) (some (.getfield 13, 3, 8, 5, 2, 1762, 0, 0)) none)
        (cond (Nat.beq pc 16) (some (.bipush 10, 2, 0, 0, 0, 0, 10, 0)) none)))))
    (cond (Nat.blt pc 23)
     (cond (Nat.blt pc 20)
      (cond (Nat.blt pc 19)
       (cond (Nat.beq pc 18) (some (.iload_n 2, 1, 0, 0, 0, 0, 0, 0)) none)
       (cond (Nat.beq pc 19) (some (.imul, 1, 0, 0, 0, 0, 0, 0)) none))
      (cond (Nat.blt pc 21)
       (cond (Nat.beq pc 20) (some (.iconst 1, 1, 0, 0, 0, 0, 1, 0)) none)
       (cond (Nat.blt pc 22)
        (cond (Nat.beq pc 21) (some (.iadd, 1, 0, 0, 0, 0, 0, 0)) none)
        (cond (Nat.beq pc 22) (some (.iaload, 1, 0, 0, 0, 0, 0, 0)) none))))
     (cond (Nat.blt pc 26)
      (cond (Nat.blt pc 24)
       (cond (Nat.beq pc 23) (some (.istore_n 3, 1, 0, 0, 0, 0, 0, 0)) none)
       (cond (Nat.blt pc 25)
        (cond (Nat.beq pc 24) (some (.iload_n 3, 1, 0, 0, 0, 0, 0, 0)) none)
        (cond (Nat.beq pc 25) (some (.iconst 5, 1, 0, 0, 0, 0, 5, 0)) none)))
      (cond (Nat.blt pc 29)
       (cond (Nat.beq pc 26) (some (.if_icmp .eq 8, 3, 34, 0, 0, 0, 0, 0)) none)
       (cond (Nat.blt pc 30)
        (cond (Nat.beq pc 29) (some (.iload_n 3, 1, 0, 0, 0, 0, 0, 0)) none)
        (cond (Nat.beq pc 30) (some (.iconst 3, 1, 0, 0, 0, 0, 3, 0)) none))))))
   (cond (Nat.blt pc 52)
    (cond (Nat.blt pc 41)
     (cond (Nat.blt pc 35)
      (cond (Nat.blt pc 34)
       (cond (Nat.beq pc 31) (some (.if_icmp .ne 7, 3, 38, 0, 0, 0, 0, 0)) none)
       (cond (Nat.beq pc 34) (some (.iconst 1, 1, 0, 0, 0, 0, 1, 0)) none))
      (cond (Nat.blt pc 38)
       (cond (Nat.beq pc 35) (some (.goto 4, 3, 39, 0, 0, 0, 0, 0)) none)
       (cond (Nat.blt pc 39)
        (cond (Nat.beq pc 38) (some (.iconst 0, 1, 0, 0, 0, 0, 0, 0)) none)
        (cond (Nat.beq pc 39) (some (.istore 4, 2, 0, 0, 0, 0, 0, 0)) none))))
     (cond (Nat.blt pc 47)
      (cond (Nat.blt pc 43)
       (cond (Nat.beq pc 41) (some (.iload 4, 2, 0, 0, 0, 0, 0, 0)) none)
       (cond (Nat.blt pc 46)
        (cond (Nat.beq pc 43) (some (.ifCond .eq 20, 3, 63, 0, 0, 0, 0, 0)) none)
        (cond (Nat.beq pc 46) (some (.iload_n 1, 1, 0, 0, 0, 0, 0, 0)) none)))
      (cond (Nat.blt pc 50)
       (cond (Nat.beq pc 47) (some (.ifCond .lt 12, 3, 59, 0, 0, 0, 0, 0)) none)
       (cond (Nat.blt pc 51)
        (cond (Nat.beq pc 50) (some (.aload_n 0, 1, 0, 0, 0, 0, 0, 0)) none)
        (cond (Nat.beq pc 51) (some (.iload_n 2, 1, 0, 0, 0, 0, 0, 0)) none)))))
    (cond (Nat.blt pc 63)
     (cond (Nat.blt pc 56)
      (cond (Nat.blt pc 53)
       (cond (Nat.beq pc 52) (some (.iload_n 1, 1, 0, 0, 0, 0, 0, 0)) none)
       (cond (Nat.beq pc 53) (some (.invokevirtual 205, 3, 129, 0, 0, 2190, 0, 0)) none))
      (cond (Nat.blt pc 59)
       (cond (Nat.beq pc 56) (some (.ifCond .eq 7, 3, 63, 0, 0, 0, 0, 0)) none)
       (cond (Nat.blt pc 60)
        (cond (Nat.beq pc 59) (some (.iload_n 2, 1, 0, 0, 0, 0, 0, 0)) none)
        (cond (Nat.beq pc 60) (some (.goto 4, 3, 64, 0, 0, 0, 0, 0)) none))))
     (cond (Nat.blt pc 68)
      (cond (Nat.blt pc 64)
       (cond (Nat.beq pc 63) (some (.iload_n 1, 1, 0, 0, 0, 0, 0, 0)) none)
       (cond (Nat.blt pc 65)
        (cond (Nat.beq pc 64) (some (.istore_n 1, 1, 0, 0, 0, 0, 0, 0)) none)
        (cond (Nat.beq pc 65) (some (.iinc 2 1, 3, 0, 0, 0, 0, 1, 0)) none)))
      (cond (Nat.blt pc 71)
       (cond (Nat.beq pc 68) (some (.goto (-64), 3, 4, 0, 0, 0, 0, 0)) none)
       (cond (Nat.blt pc 72)
        (cond (Nat.beq pc 71) (some (.iload_n 1, 1, 0, 0, 0, 0, 0, 0)) none)
        (cond (Nat.beq pc 72) (some (.ireturn, 1, 0, 0, 0, 0, 0, 0)) none))))))) none
-- PrintHouseModel.tick ()I
def zc147 (pc : Nat) : Option z_I := cond (Nat.blt pc 160)
  (cond (Nat.blt pc 86)
   (cond (Nat.blt pc 46)
    (cond (Nat.blt pc 24)
     (cond (Nat.blt pc 12)
      (cond (Nat.blt pc 5)
       (cond (Nat.blt pc 1)
        (cond (Nat.beq pc 0) (some (.aload_n 0, 1, 0, 0, 0, 0, 0, 0)) none)
        (cond (Nat.blt pc 2)
         (cond (Nat.beq pc 1) (some (.aload_n 0, 1, 0, 0, 0, 0, 0, 0)) none)
         (cond (Nat.beq pc 2) (some (.getfield 173, 3, 8, 1, 1, 1754, 0, 0)) none)))
       (cond (Nat.blt pc 8)
        (cond (Nat.beq pc 5) (some (.ifCond .eq 7, 3, 12, 0, 0, 0, 0, 0)) none)
        (cond (Nat.blt pc 9)
         (cond (Nat.beq pc 8) (some (.iconst 1, 1, 0, 0, 0, 0, 1, 0)) none)
         (cond (Nat.beq pc 9) (some (.goto 4, 3, 13, 0, 0, 0, 0, 0)) none))))
      (cond (Nat.blt pc 17)
       (cond (Nat.blt pc 13)
        (cond (Nat.beq pc 12) (some (.iconst 0, 1, 0, 0, 0, 0, 0, 0)) none)
        (cond (Nat.blt pc 16)
         (cond (Nat.beq pc 13) (some (.putfield 41, 3, 8, 0, 0, 1752, 0, 0)) none)
         (cond (Nat.beq pc 16) (some (.aload_n 0, 1, 0, 0, 0, 0, 0, 0)) none)))
       (cond (Nat.blt pc 20)
        (cond (Nat.beq pc 17) (some (.getfield 173, 3, 8, 1, 1, 1754, 0, 0)) none)
        (cond (Nat.blt pc 23)
         (cond (Nat.beq pc 20) (some (.ifCond .eq 7, 3, 27, 0, 0, 0, 0, 0)) none)
         (cond (Nat.beq pc 23) (some (.iconst (-1), 1, 0, 0, 0, 0, (-1), 0)) none)))))
     (cond (Nat.blt pc 36)
      (cond (Nat.blt pc 31)
       (cond (Nat.blt pc 27)
        (cond (Nat.beq pc 24) (some (.goto 7, 3, 31, 0, 0, 0, 0, 0)) none)
        (cond (Nat.blt pc 28)
         (cond (Nat.beq pc 27) (some (.aload_n 0, 1, 0, 0, 0, 0, 0, 0)) none)
         (cond (Nat.beq pc 28) (some (.invokevirtual 265, 3, 146, 0, 0, 2236, 0, 0)) none)))
       (cond (Nat.blt pc 32)
        (cond (Nat.beq pc 31) (some (.istore_n 1, 1, 0, 0, 0, 0, 0, 0)) none)
        (cond (Nat.blt pc 33)
         (cond (Nat.beq pc 32) (some (.iload_n 1, 1, 0, 0, 0, 0, 0, 0)) none)
         (cond (Nat.beq pc 33) (some (.ifCond .ge 5, 3, 38, 0, 0, 0, 0, 0)) none))))
      (cond (Nat.blt pc 39)
       (cond (Nat.blt pc 37)
        (cond (Nat.beq pc 36) (some (.iconst 0, 1, 0, 0, 0, 0, 0, 0)) none)
        (cond (Nat.blt pc 38)
         (cond (Nat.beq pc 37) (some (.ireturn, 1, 0, 0, 0, 0, 0, 0)) none)
         (cond (Nat.beq pc 38) (some (.aload_n 0, 1, 0, 0, 0, 0, 0, 0)) none)))
       (cond (Nat.blt pc 44)
        (cond (Nat.blt pc 42)
         (cond (Nat.beq pc 39) (some (.getfield 13, 3, 8, 5, 2, 1762, 0, 0)) none)
         (cond (Nat.beq pc 42) (some (.bipush 10, 2, 0, 0, 0, 0, 10, 0)) none))
        (cond (Nat.blt pc 45)
         (cond (Nat.beq pc 44) (some (.iload_n 1, 1, 0, 0, 0, 0, 0, 0)) none)
         (cond (Nat.beq pc 45) (some (.imul, 1, 0, 0, 0, 0, 0, 0)) none))))))
    (cond (Nat.blt pc 64)
     (cond (Nat.blt pc 55)
      (cond (Nat.blt pc 49)
       (cond (Nat.blt pc 47)
        (cond (Nat.beq pc 46) (some (.iaload, 1, 0, 0, 0, 0, 0, 0)) none)
        (cond (Nat.blt pc 48)
         (cond (Nat.beq pc 47) (some (.istore_n 2, 1, 0, 0, 0, 0, 0, 0)) none)
         (cond (Nat.beq pc 48) (some (.aload_n 0, 1, 0, 0, 0, 0, 0, 0)) none)))
       (cond (Nat.blt pc 52)
        (cond (Nat.beq pc 49) (some (.getfield 13, 3, 8, 5, 2, 1762, 0, 0)) none)
        (cond (Nat.blt pc 54)
         (cond (Nat.beq pc 52) (some (.bipush 10, 2, 0, 0, 0, 0, 10, 0)) none)
         (cond (Nat.beq pc 54) (some (.iload_n 1, 1, 0, 0, 0, 0, 0, 0)) none))))
      (cond (Nat.blt pc 58)
       (cond (Nat.blt pc 56)
        (cond (Nat.beq pc 55) (some (.imul, 1, 0, 0, 0, 0, 0, 0)) none)
        (cond (Nat.blt pc 57)
         (cond (Nat.beq pc 56) (some (.iconst 1, 1, 0, 0, 0, 0, 1, 0)) none)
         (cond (Nat.beq pc 57) (some (.iadd, 1, 0, 0, 0, 0, 0, 0)) none)))
       (cond (Nat.blt pc 60)
        (cond (Nat.blt pc 59)
         (cond (Nat.beq pc 58) (some (.iaload, 1, 0, 0, 0, 0, 0, 0)) none)
         (cond (Nat.beq pc 59) (some (.iconst 3, 1, 0, 0, 0, 0, 3, 0)) none))
        (cond (Nat.blt pc 63)
         (cond (Nat.beq pc 60) (some (.if_icmp .ne 33, 3, 93, 0, 0, 0, 0, 0)) none)
         (cond (Nat.beq pc 63) (some (.aload_n 0, 1, 0, 0, 0, 0, 0, 0)) none)))))
     (cond (Nat.blt pc 74)
      (cond (Nat.blt pc 69)
       (cond (Nat.blt pc 65)
        (cond (Nat.beq pc 64) (some (.iload_n 2, 1, 0, 0, 0, 0, 0, 0)) none)
        (cond (Nat.blt pc 66)
         (cond (Nat.beq pc 65) (some (.iconst 5, 1, 0, 0, 0, 0, 5, 0)) none)
         (cond (Nat.beq pc 66) (some (.invokevirtual 215, 3, 125, 0, 0, 2158, 0, 0)) none)))
       (cond (Nat.blt pc 72)
        (cond (Nat.beq pc 69) (some (.ifCond .ne 5, 3, 74, 0, 0, 0, 0, 0)) none)
        (cond (Nat.blt pc 73)
         (cond (Nat.beq pc 72) (some (.iconst (-1), 1, 0, 0, 0, 0, (-1), 0)) none)
         (cond (Nat.beq pc 73) (some (.ireturn, 1, 0, 0, 0, 0, 0, 0)) none))))
      (cond (Nat.blt pc 79)
       (cond (Nat.blt pc 75)
        (cond (Nat.beq pc 74) (some (.aload_n 0, 1, 0, 0, 0, 0, 0, 0)) none)
        (cond (Nat.blt pc 76)
         (cond (Nat.beq pc 75) (some (.iload_n 2, 1, 0, 0, 0, 0, 0, 0)) none)
         (cond (Nat.beq pc 76) (some (.invokevirtual 158, 3, 114, 0, 0, 2102, 0, 0)) none)))
       (cond (Nat.blt pc 81)
        (cond (Nat.blt pc 80)
         (cond (Nat.beq pc 79) (some (.istore_n 1, 1, 0, 0, 0, 0, 0, 0)) none)
         (cond (Nat.beq pc 80) (some (.aload_n 0, 1, 0, 0, 0, 0, 0, 0)) none))
        (cond (Nat.blt pc 84)
         (cond (Nat.beq pc 81) (some (.getfield 13, 3, 8, 5, 2, 1762, 0, 0)) none)
         (cond (Nat.beq pc 84) (some (.bipush 10, 2, 0, 0, 0, 0, 10, 0)) none)))))))
   (cond (Nat.blt pc 121)
    (cond (Nat.blt pc 104)
     (cond (Nat.blt pc 93)
      (cond (Nat.blt pc 90)
       (cond (Nat.blt pc 87)
        (cond (Nat.beq pc 86) (some (.iload_n 1, 1, 0, 0, 0, 0, 0, 0)) none)
        (cond (Nat.blt pc 88)
         (cond (Nat.beq pc 87) (some (.imul, 1, 0, 0, 0, 0, 0, 0)) none)
         (cond (Nat.beq pc 88) (some (.bipush 8, 2, 0, 0, 0, 0, 8, 0)) none)))
       (cond (Nat.blt pc 91)
        (cond (Nat.beq pc 90) (some (.iadd, 1, 0, 0, 0, 0, 0, 0)) none)
        (cond (Nat.blt pc 92)
         (cond (Nat.beq pc 91) (some (.iconst 0, 1, 0, 0, 0, 0, 0, 0)) none)
         (cond (Nat.beq pc 92) (some (.iastore, 1, 0, 0, 0, 0, 0, 0)) none))))
      (cond (Nat.blt pc 98)
       (cond (Nat.blt pc 94)
        (cond (Nat.beq pc 93) (some (.aload_n 0, 1, 0, 0, 0, 0, 0, 0)) none)
        (cond (Nat.blt pc 95)
         (cond (Nat.beq pc 94) (some (.iload_n 1, 1, 0, 0, 0, 0, 0, 0)) none)
         (cond (Nat.beq pc 95) (some (.invokevirtual 268, 3, 145, 0, 0, 2244, 0, 0)) none)))
       (cond (Nat.blt pc 99)
        (cond (Nat.beq pc 98) (some (.aload_n 0, 1, 0, 0, 0, 0, 0, 0)) none)
        (cond (Nat.blt pc 102)
         (cond (Nat.beq pc 99) (some (.getfield 13, 3, 8, 5, 2, 1762, 0, 0)) none)
         (cond (Nat.beq pc 102) (some (.bipush 10, 2, 0, 0, 0, 0, 10, 0)) none)))))
     (cond (Nat.blt pc 111)
      (cond (Nat.blt pc 108)
       (cond (Nat.blt pc 105)
        (cond (Nat.beq pc 104) (some (.iload_n 1, 1, 0, 0, 0, 0, 0, 0)) none)
        (cond (Nat.blt pc 106)
         (cond (Nat.beq pc 105) (some (.imul, 1, 0, 0, 0, 0, 0, 0)) none)
         (cond (Nat.beq pc 106) (some (.bipush 8, 2, 0, 0, 0, 0, 8, 0)) none)))
       (cond (Nat.blt pc 109)
        (cond (Nat.beq pc 108) (some (.iadd, 1, 0, 0, 0, 0, 0, 0)) none)
        (cond (Nat.blt pc 110)
         (cond (Nat.beq pc 109) (some (.dup2, 1, 0, 0, 0, 0, 0, 0)) none)
         (cond (Nat.beq pc 110) (some (.iaload, 1, 0, 0, 0, 0, 0, 0)) none))))
      (cond (Nat.blt pc 114)
       (cond (Nat.blt pc 112)
        (cond (Nat.beq pc 111) (some (.iconst 1, 1, 0, 0, 0, 0, 1, 0)) none)
        (cond (Nat.blt pc 113)
         (cond (Nat.beq pc 112) (some (.iadd, 1, 0, 0, 0, 0, 0, 0)) none)
         (cond (Nat.beq pc 113) (some (.iastore, 1, 0, 0, 0, 0, 0, 0)) none)))
       (cond (Nat.blt pc 118)
        (cond (Nat.blt pc 115)
         (cond (Nat.beq pc 114) (some (.aload_n 0, 1, 0, 0, 0, 0, 0, 0)) none)
         (cond (Nat.beq pc 115) (some (.getfield 13, 3, 8, 5, 2, 1762, 0, 0)) none))
        (cond (Nat.blt pc 120)
         (cond (Nat.beq pc 118) (some (.bipush 10, 2, 0, 0, 0, 0, 10, 0)) none)
         (cond (Nat.beq pc 120) (some (.iload_n 1, 1, 0, 0, 0, 0, 0, 0)) none))))))
    (cond (Nat.blt pc 140)
     (cond (Nat.blt pc 128)
      (cond (Nat.blt pc 125)
       (cond (Nat.blt pc 122)
        (cond (Nat.beq pc 121) (some (.imul, 1, 0, 0, 0, 0, 0, 0)) none)
        (cond (Nat.blt pc 124)
         (cond (Nat.beq pc 122) (some (.bipush 8, 2, 0, 0, 0, 0, 8, 0)) none)
         (cond (Nat.beq pc 124) (some (.iadd, 1, 0, 0, 0, 0, 0, 0)) none)))
       (cond (Nat.blt pc 126)
        (cond (Nat.beq pc 125) (some (.iaload, 1, 0, 0, 0, 0, 0, 0)) none)
        (cond (Nat.blt pc 127)
         (cond (Nat.beq pc 126) (some (.aload_n 0, 1, 0, 0, 0, 0, 0, 0)) none)
         (cond (Nat.beq pc 127) (some (.iload_n 1, 1, 0, 0, 0, 0, 0, 0)) none))))
      (cond (Nat.blt pc 135)
       (cond (Nat.blt pc 131)
        (cond (Nat.beq pc 128) (some (.invokevirtual 238, 3, 136, 0, 0, 2252, 0, 0)) none)
        (cond (Nat.blt pc 132)
         (cond (Nat.beq pc 131) (some (.aload_n 0, 1, 0, 0, 0, 0, 0, 0)) none)
         (cond (Nat.beq pc 132) (some (.getfield 13, 3, 8, 5, 2, 1762, 0, 0)) none)))
       (cond (Nat.blt pc 138)
        (cond (Nat.blt pc 137)
         (cond (Nat.beq pc 135) (some (.bipush 10, 2, 0, 0, 0, 0, 10, 0)) none)
         (cond (Nat.beq pc 137) (some (.iload_n 1, 1, 0, 0, 0, 0, 0, 0)) none))
        (cond (Nat.blt pc 139)
         (cond (Nat.beq pc 138) (some (.imul, 1, 0, 0, 0, 0, 0, 0)) none)
         (cond (Nat.beq pc 139) (some (.iconst 2, 1, 0, 0, 0, 0, 2, 0)) none)))))
     (cond (Nat.blt pc 148)
      (cond (Nat.blt pc 143)
       (cond (Nat.blt pc 141)
        (cond (Nat.beq pc 140) (some (.iadd, 1, 0, 0, 0, 0, 0, 0)) none)
        (cond (Nat.blt pc 142)
         (cond (Nat.beq pc 141) (some (.iaload, 1, 0, 0, 0, 0, 0, 0)) none)
         (cond (Nat.beq pc 142) (some (.imul, 1, 0, 0, 0, 0, 0, 0)) none)))
       (cond (Nat.blt pc 146)
        (cond (Nat.beq pc 143) (some (.if_icmp .ne 15, 3, 158, 0, 0, 0, 0, 0)) none)
        (cond (Nat.blt pc 147)
         (cond (Nat.beq pc 146) (some (.aload_n 0, 1, 0, 0, 0, 0, 0, 0)) none)
         (cond (Nat.beq pc 147) (some (.iload_n 2, 1, 0, 0, 0, 0, 0, 0)) none))))
      (cond (Nat.blt pc 156)
       (cond (Nat.blt pc 150)
        (cond (Nat.beq pc 148) (some (.bipush 9, 2, 0, 0, 0, 0, 9, 0)) none)
        (cond (Nat.blt pc 153)
         (cond (Nat.beq pc 150) (some (.invokevirtual 215, 3, 125, 0, 0, 2158, 0, 0)) none)
         (cond (Nat.beq pc 153) (some (.ifCond .ne 5, 3, 158, 0, 0, 0, 0, 0)) none)))
       (cond (Nat.blt pc 158)
        (cond (Nat.blt pc 157)
         (cond (Nat.beq pc 156) (some (.iconst (-1), 1, 0, 0, 0, 0, (-1), 0)) none)
         (cond (Nat.beq pc 157) (some (.ireturn, 1, 0, 0, 0, 0, 0, 0)) none))
        (cond (Nat.blt pc 159)
         (cond (Nat.beq pc 158) (some (.iload_n 2, 1, 0, 0, 0, 0, 0, 0)) none)
         (cond (Nat.beq pc 159) (some (.ireturn, 1, 0, 0, 0, 0, 0, 0)) none)))))))) none
-- PrintHouseModel.sheet (I)I
def zc148 (pc : Nat) : Option z_I := cond (Nat.blt pc 28)
  (cond (Nat.blt pc 14)
   (cond (Nat.blt pc 6)
    (cond (Nat.blt pc 2)
     (cond (Nat.blt pc 1)
      (cond (Nat.beq pc 0) (some (.aload_n 0, 1, 0, 0, 0, 0, 0, 0)) none)
      (cond (Nat.beq pc 1) (some (.iconst 0, 1, 0, 0, 0, 0, 0, 0)) none))
     (cond (Nat.blt pc 5)
      (cond (Nat.beq pc 2) (some (.putfield 41, 3, 8, 0, 0, 1752, 0, 0)) none)
      (cond (Nat.beq pc 5) (some (.iload_n 1, 1, 0, 0, 0, 0, 0, 0)) none)))
    (cond (Nat.blt pc 10)
     (cond (Nat.blt pc 9)
      (cond (Nat.beq pc 6) (some (.ifCond .lt 11, 3, 17, 0, 0, 0, 0, 0)) none)
      (cond (Nat.beq pc 9) (some (.iload_n 1, 1, 0, 0, 0, 0, 0, 0)) none))
     (cond (Nat.blt pc 11)
      (cond (Nat.beq pc 10) (some (.aload_n 0, 1, 0, 0, 0, 0, 0, 0)) none)
      (cond (Nat.beq pc 11) (some (.getfield 32, 3, 8, 25, 0, 1802, 0, 0)) none))))
   (cond (Nat.blt pc 22)
    (cond (Nat.blt pc 18)
     (cond (Nat.blt pc 17)
      (cond (Nat.beq pc 14) (some (.if_icmp .lt 7, 3, 21, 0, 0, 0, 0, 0)) none)
      (cond (Nat.beq pc 17) (some (.iconst (-1), 1, 0, 0, 0, 0, (-1), 0)) none))
     (cond (Nat.blt pc 21)
      (cond (Nat.beq pc 18) (some (.goto 9, 3, 27, 0, 0, 0, 0, 0)) none)
      (cond (Nat.beq pc 21) (some (.aload_n 0, 1, 0, 0, 0, 0, 0, 0)) none)))
    (cond (Nat.blt pc 26)
     (cond (Nat.blt pc 25)
      (cond (Nat.beq pc 22) (some (.getfield 35, 3, 8, 26, 2, 1804, 0, 0)) none)
      (cond (Nat.beq pc 25) (some (.iload_n 1, 1, 0, 0, 0, 0, 0, 0)) none))
     (cond (Nat.blt pc 27)
      (cond (Nat.beq pc 26) (some (.iaload, 1, 0, 0, 0, 0, 0, 0)) none)
      (cond (Nat.beq pc 27) (some (.ireturn, 1, 0, 0, 0, 0, 0, 0)) none))))) none
-- PrintHouseModel.stop (I)Z
def zc149 (pc : Nat) : Option z_I := cond (Nat.blt pc 41)
  (cond (Nat.blt pc 23)
   (cond (Nat.blt pc 9)
    (cond (Nat.blt pc 2)
     (cond (Nat.blt pc 1)
      (cond (Nat.beq pc 0) (some (.aload_n 0, 1, 0, 0, 0, 0, 0, 0)) none)
      (cond (Nat.beq pc 1) (some (.aload_n 0, 1, 0, 0, 0, 0, 0, 0)) none))
     (cond (Nat.blt pc 5)
      (cond (Nat.beq pc 2) (some (.getfield 173, 3, 8, 1, 1, 1754, 0, 0)) none)
      (cond (Nat.blt pc 8)
       (cond (Nat.beq pc 5) (some (.ifCond .eq 7, 3, 12, 0, 0, 0, 0, 0)) none)
       (cond (Nat.beq pc 8) (some (.iconst 1, 1, 0, 0, 0, 0, 1, 0)) none))))
    (cond (Nat.blt pc 16)
     (cond (Nat.blt pc 12)
      (cond (Nat.beq pc 9) (some (.goto 4, 3, 13, 0, 0, 0, 0, 0)) none)
      (cond (Nat.blt pc 13)
       (cond (Nat.beq pc 12) (some (.iconst 0, 1, 0, 0, 0, 0, 0, 0)) none)
       (cond (Nat.beq pc 13) (some (.putfield 41, 3, 8, 0, 0, 1752, 0, 0)) none)))
     (cond (Nat.blt pc 17)
      (cond (Nat.beq pc 16) (some (.aload_n 0, 1, 0, 0, 0, 0, 0, 0)) none)
      (cond (Nat.blt pc 20)
       (cond (Nat.beq pc 17) (some (.getfield 173, 3, 8, 1, 1, 1754, 0, 0)) none)
       (cond (Nat.beq pc 20) (some (.ifCond .ne 7, 3, 27, 0, 0, 0, 0, 0)) none)))))
   (cond (Nat.blt pc 31)
    (cond (Nat.blt pc 28)
     (cond (Nat.blt pc 24)
      (cond (Nat.beq pc 23) (some (.iload_n 1, 1, 0, 0, 0, 0, 0, 0)) none)
      (cond (Nat.blt pc 27)
       (cond (Nat.beq pc 24) (some (.ifCond .ge 5, 3, 29, 0, 0, 0, 0, 0)) none)
       (cond (Nat.beq pc 27) (some (.iconst 0, 1, 0, 0, 0, 0, 0, 0)) none)))
     (cond (Nat.blt pc 29)
      (cond (Nat.beq pc 28) (some (.ireturn, 1, 0, 0, 1, 0, 0, 0)) none)
      (cond (Nat.blt pc 30)
       (cond (Nat.beq pc 29) (some (.aload_n 0, 1, 0, 0, 0, 0, 0, 0)) none)
       (cond (Nat.beq pc 30) (some (.iconst 1, 1, 0, 0, 0, 0, 1, 0)) none))))
    (cond (Nat.blt pc 36)
     (cond (Nat.blt pc 34)
      (cond (Nat.beq pc 31) (some (.putfield 161, 3, 8, 11, 1, 1774, 0, 0)) none)
      (cond (Nat.blt pc 35)
       (cond (Nat.beq pc 34) (some (.aload_n 0, 1, 0, 0, 0, 0, 0, 0)) none)
       (cond (Nat.beq pc 35) (some (.iload_n 1, 1, 0, 0, 0, 0, 0, 0)) none)))
     (cond (Nat.blt pc 39)
      (cond (Nat.beq pc 36) (some (.putfield 164, 3, 8, 12, 0, 1776, 0, 0)) none)
      (cond (Nat.blt pc 40)
       (cond (Nat.beq pc 39) (some (.iconst 1, 1, 0, 0, 0, 0, 1, 0)) none)
       (cond (Nat.beq pc 40) (some (.ireturn, 1, 0, 0, 1, 0, 0, 0)) none)))))) none
-- PrintHouseModel.restart ()Z
def zc150 (pc : Nat) : Option z_I := cond (Nat.blt pc 17)
  (cond (Nat.blt pc 9)
   (cond (Nat.blt pc 2)
    (cond (Nat.blt pc 1)
     (cond (Nat.beq pc 0) (some (.aload_n 0, 1, 0, 0, 0, 0, 0, 0)) none)
     (cond (Nat.beq pc 1) (some (.iconst 0, 1, 0, 0, 0, 0, 0, 0)) none))
    (cond (Nat.blt pc 5)
     (cond (Nat.beq pc 2) (some (.putfield 41, 3, 8, 0, 0, 1752, 0, 0)) none)
     (cond (Nat.blt pc 6)
      (cond (Nat.beq pc 5) (some (.aload_n 0, 1, 0, 0, 0, 0, 0, 0)) none)
      (cond (Nat.beq pc 6) (some (.getfield 173, 3, 8, 1, 1, 1754, 0, 0)) none))))
   (cond (Nat.blt pc 12)
    (cond (Nat.blt pc 10)
     (cond (Nat.beq pc 9) (some (.istore_n 1, 1, 0, 0, 0, 0, 0, 0)) none)
     (cond (Nat.blt pc 11)
      (cond (Nat.beq pc 10) (some (.aload_n 0, 1, 0, 0, 0, 0, 0, 0)) none)
      (cond (Nat.beq pc 11) (some (.iconst 0, 1, 0, 0, 0, 0, 0, 0)) none)))
    (cond (Nat.blt pc 15)
     (cond (Nat.beq pc 12) (some (.putfield 173, 3, 8, 1, 1, 1754, 0, 0)) none)
     (cond (Nat.blt pc 16)
      (cond (Nat.beq pc 15) (some (.iload_n 1, 1, 0, 0, 0, 0, 0, 0)) none)
      (cond (Nat.beq pc 16) (some (.ireturn, 1, 0, 0, 1, 0, 0, 0)) none))))) none
-- PrintHouseModel.job (II)I
def zc151 (pc : Nat) : Option z_I := cond (Nat.blt pc 110)
  (cond (Nat.blt pc 60)
   (cond (Nat.blt pc 29)
    (cond (Nat.blt pc 14)
     (cond (Nat.blt pc 6)
      (cond (Nat.blt pc 2)
       (cond (Nat.blt pc 1)
        (cond (Nat.beq pc 0) (some (.aload_n 0, 1, 0, 0, 0, 0, 0, 0)) none)
        (cond (Nat.beq pc 1) (some (.iload_n 1, 1, 0, 0, 0, 0, 0, 0)) none))
       (cond (Nat.blt pc 5)
        (cond (Nat.beq pc 2) (some (.invokevirtual 158, 3, 114, 0, 0, 2102, 0, 0)) none)
        (cond (Nat.beq pc 5) (some (.istore_n 3, 1, 0, 0, 0, 0, 0, 0)) none)))
      (cond (Nat.blt pc 8)
       (cond (Nat.blt pc 7)
        (cond (Nat.beq pc 6) (some (.aload_n 0, 1, 0, 0, 0, 0, 0, 0)) none)
        (cond (Nat.beq pc 7) (some (.aload_n 0, 1, 0, 0, 0, 0, 0, 0)) none))
       (cond (Nat.blt pc 11)
        (cond (Nat.beq pc 8) (some (.getfield 173, 3, 8, 1, 1, 1754, 0, 0)) none)
        (cond (Nat.beq pc 11) (some (.ifCond .eq 7, 3, 18, 0, 0, 0, 0, 0)) none))))
     (cond (Nat.blt pc 22)
      (cond (Nat.blt pc 18)
       (cond (Nat.blt pc 15)
        (cond (Nat.beq pc 14) (some (.iconst 1, 1, 0, 0, 0, 0, 1, 0)) none)
        (cond (Nat.beq pc 15) (some (.goto 22, 3, 37, 0, 0, 0, 0, 0)) none))
       (cond (Nat.blt pc 19)
        (cond (Nat.beq pc 18) (some (.iload_n 3, 1, 0, 0, 0, 0, 0, 0)) none)
        (cond (Nat.beq pc 19) (some (.ifCond .lt 13, 3, 32, 0, 0, 0, 0, 0)) none)))
      (cond (Nat.blt pc 26)
       (cond (Nat.blt pc 23)
        (cond (Nat.beq pc 22) (some (.iload_n 2, 1, 0, 0, 0, 0, 0, 0)) none)
        (cond (Nat.beq pc 23) (some (.ifCond .lt 9, 3, 32, 0, 0, 0, 0, 0)) none))
       (cond (Nat.blt pc 27)
        (cond (Nat.beq pc 26) (some (.iload_n 2, 1, 0, 0, 0, 0, 0, 0)) none)
        (cond (Nat.beq pc 27) (some (.bipush 8, 2, 0, 0, 0, 0, 8, 0)) none)))))
    (cond (Nat.blt pc 47)
     (cond (Nat.blt pc 37)
      (cond (Nat.blt pc 33)
       (cond (Nat.blt pc 32)
        (cond (Nat.beq pc 29) (some (.if_icmp .le 7, 3, 36, 0, 0, 0, 0, 0)) none)
        (cond (Nat.beq pc 32) (some (.iconst 2, 1, 0, 0, 0, 0, 2, 0)) none))
       (cond (Nat.blt pc 36)
        (cond (Nat.beq pc 33) (some (.goto 4, 3, 37, 0, 0, 0, 0, 0)) none)
        (cond (Nat.beq pc 36) (some (.iconst 0, 1, 0, 0, 0, 0, 0, 0)) none)))
      (cond (Nat.blt pc 41)
       (cond (Nat.blt pc 40)
        (cond (Nat.beq pc 37) (some (.putfield 41, 3, 8, 0, 0, 1752, 0, 0)) none)
        (cond (Nat.beq pc 40) (some (.aload_n 0, 1, 0, 0, 0, 0, 0, 0)) none))
       (cond (Nat.blt pc 44)
        (cond (Nat.beq pc 41) (some (.getfield 41, 3, 8, 0, 0, 1752, 0, 0)) none)
        (cond (Nat.beq pc 44) (some (.ifCond .le 5, 3, 49, 0, 0, 0, 0, 0)) none))))
     (cond (Nat.blt pc 52)
      (cond (Nat.blt pc 49)
       (cond (Nat.blt pc 48)
        (cond (Nat.beq pc 47) (some (.iconst 0, 1, 0, 0, 0, 0, 0, 0)) none)
        (cond (Nat.beq pc 48) (some (.ireturn, 1, 0, 0, 0, 0, 0, 0)) none))
       (cond (Nat.blt pc 50)
        (cond (Nat.beq pc 49) (some (.iload_n 2, 1, 0, 0, 0, 0, 0, 0)) none)
        (cond (Nat.beq pc 50) (some (.bipush 8, 2, 0, 0, 0, 0, 8, 0)) none)))
      (cond (Nat.blt pc 56)
       (cond (Nat.blt pc 55)
        (cond (Nat.beq pc 52) (some (.if_icmp .ne 23, 3, 75, 0, 0, 0, 0, 0)) none)
        (cond (Nat.beq pc 55) (some (.aload_n 0, 1, 0, 0, 0, 0, 0, 0)) none))
       (cond (Nat.blt pc 57)
        (cond (Nat.beq pc 56) (some (.iload_n 3, 1, 0, 0, 0, 0, 0, 0)) none)
        (cond (Nat.beq pc 57) (some (.invokevirtual 238, 3, 136, 0, 0, 2252, 0, 0)) none))))))
   (cond (Nat.blt pc 87)
    (cond (Nat.blt pc 71)
     (cond (Nat.blt pc 67)
      (cond (Nat.blt pc 64)
       (cond (Nat.blt pc 61)
        (cond (Nat.beq pc 60) (some (.aload_n 0, 1, 0, 0, 0, 0, 0, 0)) none)
        (cond (Nat.beq pc 61) (some (.getfield 13, 3, 8, 5, 2, 1762, 0, 0)) none))
       (cond (Nat.blt pc 66)
        (cond (Nat.beq pc 64) (some (.bipush 10, 2, 0, 0, 0, 0, 10, 0)) none)
        (cond (Nat.beq pc 66) (some (.iload_n 3, 1, 0, 0, 0, 0, 0, 0)) none)))
      (cond (Nat.blt pc 69)
       (cond (Nat.blt pc 68)
        (cond (Nat.beq pc 67) (some (.imul, 1, 0, 0, 0, 0, 0, 0)) none)
        (cond (Nat.beq pc 68) (some (.iconst 2, 1, 0, 0, 0, 0, 2, 0)) none))
       (cond (Nat.blt pc 70)
        (cond (Nat.beq pc 69) (some (.iadd, 1, 0, 0, 0, 0, 0, 0)) none)
        (cond (Nat.beq pc 70) (some (.iaload, 1, 0, 0, 0, 0, 0, 0)) none))))
     (cond (Nat.blt pc 78)
      (cond (Nat.blt pc 75)
       (cond (Nat.blt pc 72)
        (cond (Nat.beq pc 71) (some (.imul, 1, 0, 0, 0, 0, 0, 0)) none)
        (cond (Nat.beq pc 72) (some (.goto 37, 3, 109, 0, 0, 0, 0, 0)) none))
       (cond (Nat.blt pc 76)
        (cond (Nat.beq pc 75) (some (.iload_n 2, 1, 0, 0, 0, 0, 0, 0)) none)
        (cond (Nat.beq pc 76) (some (.bipush 7, 2, 0, 0, 0, 0, 7, 0)) none)))
      (cond (Nat.blt pc 82)
       (cond (Nat.blt pc 81)
        (cond (Nat.beq pc 78) (some (.if_icmp .ne 18, 3, 96, 0, 0, 0, 0, 0)) none)
        (cond (Nat.beq pc 81) (some (.aload_n 0, 1, 0, 0, 0, 0, 0, 0)) none))
       (cond (Nat.blt pc 85)
        (cond (Nat.beq pc 82) (some (.getfield 13, 3, 8, 5, 2, 1762, 0, 0)) none)
        (cond (Nat.beq pc 85) (some (.bipush 10, 2, 0, 0, 0, 0, 10, 0)) none)))))
    (cond (Nat.blt pc 100)
     (cond (Nat.blt pc 92)
      (cond (Nat.blt pc 89)
       (cond (Nat.blt pc 88)
        (cond (Nat.beq pc 87) (some (.iload_n 3, 1, 0, 0, 0, 0, 0, 0)) none)
        (cond (Nat.beq pc 88) (some (.imul, 1, 0, 0, 0, 0, 0, 0)) none))
       (cond (Nat.blt pc 91)
        (cond (Nat.beq pc 89) (some (.bipush 8, 2, 0, 0, 0, 0, 8, 0)) none)
        (cond (Nat.beq pc 91) (some (.iadd, 1, 0, 0, 0, 0, 0, 0)) none)))
      (cond (Nat.blt pc 96)
       (cond (Nat.blt pc 93)
        (cond (Nat.beq pc 92) (some (.iaload, 1, 0, 0, 0, 0, 0, 0)) none)
        (cond (Nat.beq pc 93) (some (.goto 16, 3, 109, 0, 0, 0, 0, 0)) none))
       (cond (Nat.blt pc 97)
        (cond (Nat.beq pc 96) (some (.aload_n 0, 1, 0, 0, 0, 0, 0, 0)) none)
        (cond (Nat.beq pc 97) (some (.getfield 13, 3, 8, 5, 2, 1762, 0, 0)) none))))
     (cond (Nat.blt pc 105)
      (cond (Nat.blt pc 103)
       (cond (Nat.blt pc 102)
        (cond (Nat.beq pc 100) (some (.bipush 10, 2, 0, 0, 0, 0, 10, 0)) none)
        (cond (Nat.beq pc 102) (some (.iload_n 3, 1, 0, 0, 0, 0, 0, 0)) none))
       (cond (Nat.blt pc 104)
        (cond (Nat.beq pc 103) (some (.imul, 1, 0, 0, 0, 0, 0, 0)) none)
        (cond (Nat.beq pc 104) (some (.iconst 1, 1, 0, 0, 0, 0, 1, 0)) none)))
      (cond (Nat.blt pc 107)
       (cond (Nat.blt pc 106)
        (cond (Nat.beq pc 105) (some (.iadd, 1, 0, 0, 0, 0, 0, 0)) none)
        (cond (Nat.beq pc 106) (some (.iload_n 2, 1, 0, 0, 0, 0, 0, 0)) none))
       (cond (Nat.blt pc 108)
        (cond (Nat.beq pc 107) (some (.iadd, 1, 0, 0, 0, 0, 0, 0)) none)
        (cond (Nat.blt pc 109)
         (cond (Nat.beq pc 108) (some (.iaload, 1, 0, 0, 0, 0, 0, 0)) none)
         (cond (Nat.beq pc 109) (some (.ireturn, 1, 0, 0, 0, 0, 0, 0)) none)))))))) none
-- PrintHouseModel.pixel (III)I
def zc152 (pc : Nat) : Option z_I := cond (Nat.blt pc 96)
  (cond (Nat.blt pc 49)
   (cond (Nat.blt pc 25)
    (cond (Nat.blt pc 9)
     (cond (Nat.blt pc 5)
      (cond (Nat.blt pc 1)
       (cond (Nat.beq pc 0) (some (.aload_n 0, 1, 0, 0, 0, 0, 0, 0)) none)
       (cond (Nat.blt pc 2)
        (cond (Nat.beq pc 1) (some (.iload_n 1, 1, 0, 0, 0, 0, 0, 0)) none)
        (cond (Nat.beq pc 2) (some (.invokevirtual 158, 3, 114, 0, 0, 2102, 0, 0)) none)))
      (cond (Nat.blt pc 7)
       (cond (Nat.beq pc 5) (some (.istore 4, 2, 0, 0, 0, 0, 0, 0)) none)
       (cond (Nat.blt pc 8)
        (cond (Nat.beq pc 7) (some (.aload_n 0, 1, 0, 0, 0, 0, 0, 0)) none)
        (cond (Nat.beq pc 8) (some (.aload_n 0, 1, 0, 0, 0, 0, 0, 0)) none))))
     (cond (Nat.blt pc 16)
      (cond (Nat.blt pc 12)
       (cond (Nat.beq pc 9) (some (.getfield 173, 3, 8, 1, 1, 1754, 0, 0)) none)
       (cond (Nat.blt pc 15)
        (cond (Nat.beq pc 12) (some (.ifCond .eq 7, 3, 19, 0, 0, 0, 0, 0)) none)
        (cond (Nat.beq pc 15) (some (.iconst 1, 1, 0, 0, 0, 0, 1, 0)) none)))
      (cond (Nat.blt pc 21)
       (cond (Nat.blt pc 19)
        (cond (Nat.beq pc 16) (some (.goto 48, 3, 64, 0, 0, 0, 0, 0)) none)
        (cond (Nat.beq pc 19) (some (.iload 4, 2, 0, 0, 0, 0, 0, 0)) none))
       (cond (Nat.blt pc 24)
        (cond (Nat.beq pc 21) (some (.ifCond .ge 7, 3, 28, 0, 0, 0, 0, 0)) none)
        (cond (Nat.beq pc 24) (some (.iconst 2, 1, 0, 0, 0, 0, 2, 0)) none)))))
    (cond (Nat.blt pc 37)
     (cond (Nat.blt pc 32)
      (cond (Nat.blt pc 28)
       (cond (Nat.beq pc 25) (some (.goto 39, 3, 64, 0, 0, 0, 0, 0)) none)
       (cond (Nat.blt pc 29)
        (cond (Nat.beq pc 28) (some (.iload_n 2, 1, 0, 0, 0, 0, 0, 0)) none)
        (cond (Nat.beq pc 29) (some (.ifCond .lt 30, 3, 59, 0, 0, 0, 0, 0)) none)))
      (cond (Nat.blt pc 33)
       (cond (Nat.beq pc 32) (some (.iload_n 2, 1, 0, 0, 0, 0, 0, 0)) none)
       (cond (Nat.blt pc 34)
        (cond (Nat.beq pc 33) (some (.aload_n 0, 1, 0, 0, 0, 0, 0, 0)) none)
        (cond (Nat.beq pc 34) (some (.getfield 13, 3, 8, 5, 2, 1762, 0, 0)) none))))
     (cond (Nat.blt pc 42)
      (cond (Nat.blt pc 39)
       (cond (Nat.beq pc 37) (some (.bipush 10, 2, 0, 0, 0, 0, 10, 0)) none)
       (cond (Nat.blt pc 41)
        (cond (Nat.beq pc 39) (some (.iload 4, 2, 0, 0, 0, 0, 0, 0)) none)
        (cond (Nat.beq pc 41) (some (.imul, 1, 0, 0, 0, 0, 0, 0)) none)))
      (cond (Nat.blt pc 45)
       (cond (Nat.blt pc 44)
        (cond (Nat.beq pc 42) (some (.bipush 7, 2, 0, 0, 0, 0, 7, 0)) none)
        (cond (Nat.beq pc 44) (some (.iadd, 1, 0, 0, 0, 0, 0, 0)) none))
       (cond (Nat.blt pc 46)
        (cond (Nat.beq pc 45) (some (.iaload, 1, 0, 0, 0, 0, 0, 0)) none)
        (cond (Nat.beq pc 46) (some (.if_icmp .ge 13, 3, 59, 0, 0, 0, 0, 0)) none))))))
   (cond (Nat.blt pc 75)
    (cond (Nat.blt pc 60)
     (cond (Nat.blt pc 54)
      (cond (Nat.blt pc 50)
       (cond (Nat.beq pc 49) (some (.iload_n 3, 1, 0, 0, 0, 0, 0, 0)) none)
       (cond (Nat.blt pc 53)
        (cond (Nat.beq pc 50) (some (.ifCond .lt 9, 3, 59, 0, 0, 0, 0, 0)) none)
        (cond (Nat.beq pc 53) (some (.iload_n 3, 1, 0, 0, 0, 0, 0, 0)) none)))
      (cond (Nat.blt pc 56)
       (cond (Nat.beq pc 54) (some (.bipush 11, 2, 0, 0, 0, 0, 11, 0)) none)
       (cond (Nat.blt pc 59)
        (cond (Nat.beq pc 56) (some (.if_icmp .le 7, 3, 63, 0, 0, 0, 0, 0)) none)
        (cond (Nat.beq pc 59) (some (.iconst 2, 1, 0, 0, 0, 0, 2, 0)) none))))
     (cond (Nat.blt pc 67)
      (cond (Nat.blt pc 63)
       (cond (Nat.beq pc 60) (some (.goto 4, 3, 64, 0, 0, 0, 0, 0)) none)
       (cond (Nat.blt pc 64)
        (cond (Nat.beq pc 63) (some (.iconst 0, 1, 0, 0, 0, 0, 0, 0)) none)
        (cond (Nat.beq pc 64) (some (.putfield 41, 3, 8, 0, 0, 1752, 0, 0)) none)))
      (cond (Nat.blt pc 71)
       (cond (Nat.blt pc 68)
        (cond (Nat.beq pc 67) (some (.aload_n 0, 1, 0, 0, 0, 0, 0, 0)) none)
        (cond (Nat.beq pc 68) (some (.getfield 41, 3, 8, 0, 0, 1752, 0, 0)) none))
       (cond (Nat.blt pc 74)
        (cond (Nat.beq pc 71) (some (.ifCond .le 7, 3, 78, 0, 0, 0, 0, 0)) none)
        (cond (Nat.beq pc 74) (some (.iconst 0, 1, 0, 0, 0, 0, 0, 0)) none)))))
    (cond (Nat.blt pc 89)
     (cond (Nat.blt pc 82)
      (cond (Nat.blt pc 78)
       (cond (Nat.beq pc 75) (some (.goto 20, 3, 95, 0, 0, 0, 0, 0)) none)
       (cond (Nat.blt pc 79)
        (cond (Nat.beq pc 78) (some (.aload_n 0, 1, 0, 0, 0, 0, 0, 0)) none)
        (cond (Nat.beq pc 79) (some (.getfield 16, 3, 8, 6, 2, 1764, 0, 0)) none)))
      (cond (Nat.blt pc 86)
       (cond (Nat.blt pc 84)
        (cond (Nat.beq pc 82) (some (.bipush 72, 2, 0, 0, 0, 0, 72, 0)) none)
        (cond (Nat.beq pc 84) (some (.iload 4, 2, 0, 0, 0, 0, 0, 0)) none))
       (cond (Nat.blt pc 87)
        (cond (Nat.beq pc 86) (some (.imul, 1, 0, 0, 0, 0, 0, 0)) none)
        (cond (Nat.beq pc 87) (some (.bipush 12, 2, 0, 0, 0, 0, 12, 0)) none))))
     (cond (Nat.blt pc 92)
      (cond (Nat.blt pc 90)
       (cond (Nat.beq pc 89) (some (.iload_n 2, 1, 0, 0, 0, 0, 0, 0)) none)
       (cond (Nat.blt pc 91)
        (cond (Nat.beq pc 90) (some (.imul, 1, 0, 0, 0, 0, 0, 0)) none)
        (cond (Nat.beq pc 91) (some (.iadd, 1, 0, 0, 0, 0, 0, 0)) none)))
      (cond (Nat.blt pc 94)
       (cond (Nat.blt pc 93)
        (cond (Nat.beq pc 92) (some (.iload_n 3, 1, 0, 0, 0, 0, 0, 0)) none)
        (cond (Nat.beq pc 93) (some (.iadd, 1, 0, 0, 0, 0, 0, 0)) none))
       (cond (Nat.blt pc 95)
        (cond (Nat.beq pc 94) (some (.iaload, 1, 0, 0, 0, 0, 0, 0)) none)
        (cond (Nat.beq pc 95) (some (.ireturn, 1, 0, 0, 0, 0, 0, 0)) none))))))) none
end
section
-- PrintHouseModel.count (I)I
def zc153 (pc : Nat) : Option z_I := cond (Nat.blt pc 93)
  (cond (Nat.blt pc 67)
   (cond (Nat.blt pc 53)
    (cond (Nat.blt pc 6)
     (cond (Nat.blt pc 2)
      (cond (Nat.blt pc 1)
       (cond (Nat.beq pc 0) (some (.aload_n 0, 1, 0, 0, 0, 0, 0, 0)) none)
       (cond (Nat.beq pc 1) (some (.iconst 0, 1, 0, 0, 0, 0, 0, 0)) none))
      (cond (Nat.blt pc 5)
       (cond (Nat.beq pc 2) (some (.putfield 41, 3, 8, 0, 0, 1752, 0, 0)) none)
       (cond (Nat.beq pc 5) (some (.iload_n 1, 1, 0, 0, 0, 0, 0, 0)) none)))
     (cond (Nat.blt pc 49)
      (cond (Nat.blt pc 48)
       (cond (Nat.beq pc 6) (some (.tableswitch 85 0 6 #[42, 47, 52, 57, 62, 67, 80], 42, 0, 0, 0, 0, 0, 0)) none)
       (cond (Nat.beq pc 48) (some (.aload_n 0, 1, 0, 0, 0, 0, 0, 0)) none))
      (cond (Nat.blt pc 52)
       (cond (Nat.beq pc 49) (some (.getfield 170, 3, 8, 8, 0, 1768, 0, 0)) none)
       (cond (Nat.beq pc 52) (some (.ireturn, 1, 0, 0, 0, 0, 0, 0)) none))))
    (cond (Nat.blt pc 59)
     (cond (Nat.blt pc 57)
      (cond (Nat.blt pc 54)
       (cond (Nat.beq pc 53) (some (.aload_n 0, 1, 0, 0, 0, 0, 0, 0)) none)
       (cond (Nat.beq pc 54) (some (.getfield 180, 3, 8, 9, 0, 1770, 0, 0)) none))
      (cond (Nat.blt pc 58)
       (cond (Nat.beq pc 57) (some (.ireturn, 1, 0, 0, 0, 0, 0, 0)) none)
       (cond (Nat.beq pc 58) (some (.aload_n 0, 1, 0, 0, 0, 0, 0, 0)) none)))
     (cond (Nat.blt pc 63)
      (cond (Nat.blt pc 62)
       (cond (Nat.beq pc 59) (some (.getfield 262, 3, 8, 10, 0, 1772, 0, 0)) none)
       (cond (Nat.beq pc 62) (some (.ireturn, 1, 0, 0, 0, 0, 0, 0)) none))
      (cond (Nat.blt pc 64)
       (cond (Nat.beq pc 63) (some (.aload_n 0, 1, 0, 0, 0, 0, 0, 0)) none)
       (cond (Nat.beq pc 64) (some (.getfield 137, 3, 8, 4, 0, 1760, 0, 0)) none)))))
   (cond (Nat.blt pc 81)
    (cond (Nat.blt pc 73)
     (cond (Nat.blt pc 69)
      (cond (Nat.blt pc 68)
       (cond (Nat.beq pc 67) (some (.ireturn, 1, 0, 0, 0, 0, 0, 0)) none)
       (cond (Nat.beq pc 68) (some (.aload_n 0, 1, 0, 0, 0, 0, 0, 0)) none))
      (cond (Nat.blt pc 72)
       (cond (Nat.beq pc 69) (some (.getfield 19, 3, 8, 7, 0, 1766, 0, 0)) none)
       (cond (Nat.beq pc 72) (some (.ireturn, 1, 0, 0, 0, 0, 0, 0)) none)))
     (cond (Nat.blt pc 77)
      (cond (Nat.blt pc 74)
       (cond (Nat.beq pc 73) (some (.aload_n 0, 1, 0, 0, 0, 0, 0, 0)) none)
       (cond (Nat.beq pc 74) (some (.getfield 173, 3, 8, 1, 1, 1754, 0, 0)) none))
      (cond (Nat.blt pc 80)
       (cond (Nat.beq pc 77) (some (.ifCond .eq 7, 3, 84, 0, 0, 0, 0, 0)) none)
       (cond (Nat.beq pc 80) (some (.iconst 0, 1, 0, 0, 0, 0, 0, 0)) none))))
    (cond (Nat.blt pc 87)
     (cond (Nat.blt pc 85)
      (cond (Nat.blt pc 84)
       (cond (Nat.beq pc 81) (some (.goto 4, 3, 85, 0, 0, 0, 0, 0)) none)
       (cond (Nat.beq pc 84) (some (.iconst 1, 1, 0, 0, 0, 0, 1, 0)) none))
      (cond (Nat.blt pc 86)
       (cond (Nat.beq pc 85) (some (.ireturn, 1, 0, 0, 0, 0, 0, 0)) none)
       (cond (Nat.beq pc 86) (some (.aload_n 0, 1, 0, 0, 0, 0, 0, 0)) none)))
     (cond (Nat.blt pc 91)
      (cond (Nat.blt pc 90)
       (cond (Nat.beq pc 87) (some (.getfield 44, 3, 8, 2, 0, 1756, 0, 0)) none)
       (cond (Nat.beq pc 90) (some (.ireturn, 1, 0, 0, 0, 0, 0, 0)) none))
      (cond (Nat.blt pc 92)
       (cond (Nat.beq pc 91) (some (.iconst (-1), 1, 0, 0, 0, 0, (-1), 0)) none)
       (cond (Nat.beq pc 92) (some (.ireturn, 1, 0, 0, 0, 0, 0, 0)) none)))))) none
end
section
def zC (mi pc : Nat) : Option z_I := cond (Nat.blt mi 154) (cond (Nat.blt mi 77) (cond (Nat.blt mi 38) (cond (Nat.blt mi 19) (cond (Nat.blt mi 9) (cond (Nat.blt mi 4) (cond (Nat.blt mi 2) (cond (Nat.blt mi 1) (zc0 pc) (zc1 pc)) (cond (Nat.blt mi 3) (zc2 pc) (zc3 pc))) (cond (Nat.blt mi 6) (cond (Nat.blt mi 5) (zc4 pc) (zc5 pc)) (cond (Nat.blt mi 7) (zc6 pc) (cond (Nat.blt mi 8) (zc7 pc) (zc8 pc))))) (cond (Nat.blt mi 14) (cond (Nat.blt mi 11) (cond (Nat.blt mi 10) (zc9 pc) (zc10 pc)) (cond (Nat.blt mi 12) (zc11 pc) (cond (Nat.blt mi 13) (zc12 pc) (zc13 pc)))) (cond (Nat.blt mi 16) (cond (Nat.blt mi 15) (zc14 pc) (zc15 pc)) (cond (Nat.blt mi 17) (zc16 pc) (cond (Nat.blt mi 18) (zc17 pc) (zc18 pc)))))) (cond (Nat.blt mi 28) (cond (Nat.blt mi 23) (cond (Nat.blt mi 21) (cond (Nat.blt mi 20) (zc19 pc) (zc20 pc)) (cond (Nat.blt mi 22) (zc21 pc) (zc22 pc))) (cond (Nat.blt mi 25) (cond (Nat.blt mi 24) (zc23 pc) (zc24 pc)) (cond (Nat.blt mi 26) (zc25 pc) (cond (Nat.blt mi 27) (zc26 pc) (zc27 pc))))) (cond (Nat.blt mi 33) (cond (Nat.blt mi 30) (cond (Nat.blt mi 29) (zc28 pc) (zc29 pc)) (cond (Nat.blt mi 31) (zc30 pc) (cond (Nat.blt mi 32) (zc31 pc) (zc32 pc)))) (cond (Nat.blt mi 35) (cond (Nat.blt mi 34) (zc33 pc) (zc34 pc)) (cond (Nat.blt mi 36) (zc35 pc) (cond (Nat.blt mi 37) (zc36 pc) (zc37 pc))))))) (cond (Nat.blt mi 57) (cond (Nat.blt mi 47) (cond (Nat.blt mi 42) (cond (Nat.blt mi 40) (cond (Nat.blt mi 39) (zc38 pc) (zc39 pc)) (cond (Nat.blt mi 41) (zc40 pc) (zc41 pc))) (cond (Nat.blt mi 44) (cond (Nat.blt mi 43) (zc42 pc) (zc43 pc)) (cond (Nat.blt mi 45) (zc44 pc) (cond (Nat.blt mi 46) (zc45 pc) (zc46 pc))))) (cond (Nat.blt mi 52) (cond (Nat.blt mi 49) (cond (Nat.blt mi 48) (zc47 pc) (zc48 pc)) (cond (Nat.blt mi 50) (zc49 pc) (cond (Nat.blt mi 51) (zc50 pc) (zc51 pc)))) (cond (Nat.blt mi 54) (cond (Nat.blt mi 53) (zc52 pc) (zc53 pc)) (cond (Nat.blt mi 55) (zc54 pc) (cond (Nat.blt mi 56) (zc55 pc) (zc56 pc)))))) (cond (Nat.blt mi 67) (cond (Nat.blt mi 62) (cond (Nat.blt mi 59) (cond (Nat.blt mi 58) (zc57 pc) (zc58 pc)) (cond (Nat.blt mi 60) (zc59 pc) (cond (Nat.blt mi 61) (zc60 pc) (zc61 pc)))) (cond (Nat.blt mi 64) (cond (Nat.blt mi 63) (zc62 pc) (zc63 pc)) (cond (Nat.blt mi 65) (zc64 pc) (cond (Nat.blt mi 66) (zc65 pc) (zc66 pc))))) (cond (Nat.blt mi 72) (cond (Nat.blt mi 69) (cond (Nat.blt mi 68) (zc67 pc) (zc68 pc)) (cond (Nat.blt mi 70) (zc69 pc) (cond (Nat.blt mi 71) (zc70 pc) (zc71 pc)))) (cond (Nat.blt mi 74) (cond (Nat.blt mi 73) (zc72 pc) (zc73 pc)) (cond (Nat.blt mi 75) (zc74 pc) (cond (Nat.blt mi 76) (zc75 pc) (zc76 pc)))))))) (cond (Nat.blt mi 115) (cond (Nat.blt mi 96) (cond (Nat.blt mi 86) (cond (Nat.blt mi 81) (cond (Nat.blt mi 79) (cond (Nat.blt mi 78) (zc77 pc) (zc78 pc)) (cond (Nat.blt mi 80) (zc79 pc) (zc80 pc))) (cond (Nat.blt mi 83) (cond (Nat.blt mi 82) (zc81 pc) (zc82 pc)) (cond (Nat.blt mi 84) (zc83 pc) (cond (Nat.blt mi 85) (zc84 pc) (zc85 pc))))) (cond (Nat.blt mi 91) (cond (Nat.blt mi 88) (cond (Nat.blt mi 87) (zc86 pc) (zc87 pc)) (cond (Nat.blt mi 89) (zc88 pc) (cond (Nat.blt mi 90) (zc89 pc) (zc90 pc)))) (cond (Nat.blt mi 93) (cond (Nat.blt mi 92) (zc91 pc) (zc92 pc)) (cond (Nat.blt mi 94) (zc93 pc) (cond (Nat.blt mi 95) (zc94 pc) (zc95 pc)))))) (cond (Nat.blt mi 105) (cond (Nat.blt mi 100) (cond (Nat.blt mi 98) (cond (Nat.blt mi 97) (zc96 pc) (zc97 pc)) (cond (Nat.blt mi 99) (zc98 pc) (zc99 pc))) (cond (Nat.blt mi 102) (cond (Nat.blt mi 101) (zc100 pc) (zc101 pc)) (cond (Nat.blt mi 103) (zc102 pc) (cond (Nat.blt mi 104) (zc103 pc) (zc104 pc))))) (cond (Nat.blt mi 110) (cond (Nat.blt mi 107) (cond (Nat.blt mi 106) (zc105 pc) (zc106 pc)) (cond (Nat.blt mi 108) (zc107 pc) (cond (Nat.blt mi 109) (zc108 pc) (zc109 pc)))) (cond (Nat.blt mi 112) (cond (Nat.blt mi 111) (zc110 pc) (zc111 pc)) (cond (Nat.blt mi 113) (zc112 pc) (cond (Nat.blt mi 114) (zc113 pc) (zc114 pc))))))) (cond (Nat.blt mi 134) (cond (Nat.blt mi 124) (cond (Nat.blt mi 119) (cond (Nat.blt mi 117) (cond (Nat.blt mi 116) (zc115 pc) (zc116 pc)) (cond (Nat.blt mi 118) (zc117 pc) (zc118 pc))) (cond (Nat.blt mi 121) (cond (Nat.blt mi 120) (zc119 pc) (zc120 pc)) (cond (Nat.blt mi 122) (zc121 pc) (cond (Nat.blt mi 123) (zc122 pc) (zc123 pc))))) (cond (Nat.blt mi 129) (cond (Nat.blt mi 126) (cond (Nat.blt mi 125) (zc124 pc) (zc125 pc)) (cond (Nat.blt mi 127) (zc126 pc) (cond (Nat.blt mi 128) (zc127 pc) (zc128 pc)))) (cond (Nat.blt mi 131) (cond (Nat.blt mi 130) (zc129 pc) (zc130 pc)) (cond (Nat.blt mi 132) (zc131 pc) (cond (Nat.blt mi 133) (zc132 pc) (zc133 pc)))))) (cond (Nat.blt mi 144) (cond (Nat.blt mi 139) (cond (Nat.blt mi 136) (cond (Nat.blt mi 135) (zc134 pc) (zc135 pc)) (cond (Nat.blt mi 137) (zc136 pc) (cond (Nat.blt mi 138) (zc137 pc) (zc138 pc)))) (cond (Nat.blt mi 141) (cond (Nat.blt mi 140) (zc139 pc) (zc140 pc)) (cond (Nat.blt mi 142) (zc141 pc) (cond (Nat.blt mi 143) (zc142 pc) (zc143 pc))))) (cond (Nat.blt mi 149) (cond (Nat.blt mi 146) (cond (Nat.blt mi 145) (zc144 pc) (zc145 pc)) (cond (Nat.blt mi 147) (zc146 pc) (cond (Nat.blt mi 148) (zc147 pc) (zc148 pc)))) (cond (Nat.blt mi 151) (cond (Nat.blt mi 150) (zc149 pc) (zc150 pc)) (cond (Nat.blt mi 152) (zc151 pc) (cond (Nat.blt mi 153) (zc152 pc) (zc153 pc))))))))) none
def z_all (c : Nat → Option z_I) (n : Nat) (chk : Nat → z_I → Bool) : Bool := (List.range n).all (fun pc => match c pc with
  | none => true
  | some I => chk pc I)
theorem z_all_ok {c : Nat → Option z_I} {n : Nat} {chk : Nat → z_I → Bool} (h : z_all c n chk = true) (hn : ∀ pc, n ≤ pc → c pc = none) : ∀ pc I, c pc = some I → chk pc I = true := by
  intro pc I hI
  have hlt : pc < n := Nat.lt_of_not_le (fun q => by rw [hn pc q] at hI; cases hI)
  have := List.all_eq_true.mp h pc (List.mem_range.mpr hlt)
  rw [hI] at this
  exact this
theorem z_blt {pc n : Nat} {x : Option z_I} (h : n ≤ pc) : cond (Nat.blt pc n) x none = none := by
  have : Nat.blt pc n = false := by
    cases hb : Nat.blt pc n with
    | false => rfl
    | true => have := Nat.le_of_ble_eq_true hb; omega
  rw [this]
  rfl
def z_ck (mi pc : Nat) (I : z_I) : Bool := z_chk zcl zfk znM zM lw_tbl "PrintHouse$Job" "PrintHouse" (zM mi).1.cls (zM mi).2.1 (zM mi).2.2.2.1 (zM mi).2.2.2.2.2.2.1 (zM mi).2.2.2.2.2.2.2 pc I
def z_mck (cl : List vw_C) (Ws : List Jvm.Cond) (mt : z_M) (pc pi ps px : Nat) : Bool :=
  plainName mt.1.cls && decide (mt.1.cls ≠ "java/lang/invoke/MethodHandle" ∧ mt.1.cls ≠ "java/lang/invoke/VarHandle") && decide (Ws[pc]? = some (.code mt.1 mt.2.1 mt.2.2.1 mt.2.2.2.1)) && decide (Ws[pi]? = some (.initialized mt.1.cls)) &&
  decide ((parseMethodDescriptor mt.1.desc).map (fun d => d.parameters.length + (if mt.2.2.2.2.2.1 = 0 then 0 else 1)) = some mt.2.2.2.2.1) &&
  (if mt.2.2.2.2.2.1 = 0 then decide (Ws[ps]? = some (.static mt.1)) else decide (Ws[ps]? = some (.instanceMethod mt.1)) && decide (Ws[px]? = some (.selects mt.1.cls mt.1 mt.1)) && decide (4 ≤ mt.2.2.2.2.2.1) && decide ((cl[mt.2.2.2.2.2.1 - 4]?).map (fun x => x.1) = some mt.1.cls))
theorem z_mck_ok {cl : List vw_C} {Ws Ts : List Jvm.Cond} {mt : z_M} {pc pi ps px : Nat} (hW : ∀ w ∈ Ws, goodWord w = true → w ∈ Ts) (h : z_mck cl Ws mt pc pi ps px = true) : z_MO cl Ts mt := by
  unfold z_mck at h
  simp only [Bool.and_eq_true, decide_eq_true_eq] at h
  obtain ⟨⟨⟨⟨⟨h1, h2⟩, h3⟩, h4⟩, h5⟩, h6⟩ := h
  refine ⟨h1, h2, hW _ (List.mem_of_getElem? h3) rfl, hW _ (List.mem_of_getElem? h4) rfl, ?_, ?_, ?_⟩
  · intro sig hs
    rw [hs] at h5
    exact (Option.some.inj h5).symm
  · intro h0
    rw [if_pos h0, decide_eq_true_eq] at h6
    exact hW _ (List.mem_of_getElem? h6) rfl
  · intro h0
    rw [if_neg h0] at h6
    simp only [Bool.and_eq_true, decide_eq_true_eq] at h6
    obtain ⟨⟨⟨g1, g2⟩, g3⟩, g4⟩ := h6
    refine ⟨hW _ (List.mem_of_getElem? g1) rfl, hW _ (List.mem_of_getElem? g2) rfl, ?_⟩
    cases hc : cl[mt.2.2.2.2.2.1 - 4]? with
    | none => rw [hc] at g4; cases g4
    | some r =>
      rw [hc] at g4
      have e : r.1 = mt.1.cls := Option.some.inj g4
      refine ⟨mt.2.2.2.2.2.1 - 4, r.2.1, r.2.2, by omega, ?_⟩
      rw [hc, ← e]
end
section
theorem zk0 : z_all (zC 0) 11 (z_ck 0) = true := by decide +kernel
theorem zn0 : z_mck zcl lw_tbl (zM 0) 675 80 673 674 = true := by decide +kernel
theorem zk1 : z_all (zC 1) 5 (z_ck 1) = true := by decide +kernel
theorem zn1 : z_mck zcl lw_tbl (zM 1) 345 80 343 344 = true := by decide +kernel
theorem zk2 : z_all (zC 2) 23 (z_ck 2) = true := by decide +kernel
theorem zn2 : z_mck zcl lw_tbl (zM 2) 361 80 359 360 = true := by decide +kernel
theorem zk3 : z_all (zC 3) 37 (z_ck 3) = true := by decide +kernel
theorem zn3 : z_mck zcl lw_tbl (zM 3) 353 80 351 352 = true := by decide +kernel
theorem zk4 : z_all (zC 4) 29 (z_ck 4) = true := by decide +kernel
theorem zn4 : z_mck zcl lw_tbl (zM 4) 349 80 347 348 = true := by decide +kernel
theorem zk5 : z_all (zC 5) 43 (z_ck 5) = true := by decide +kernel
theorem zn5 : z_mck zcl lw_tbl (zM 5) 696 80 694 695 = true := by decide +kernel
theorem zk6 : z_all (zC 6) 36 (z_ck 6) = true := by decide +kernel
theorem zn6 : z_mck zcl lw_tbl (zM 6) 699 80 698 0 = true := by decide +kernel
theorem zk7 : z_all (zC 7) 6 (z_ck 7) = true := by decide +kernel
theorem zn7 : z_mck zcl lw_tbl (zM 7) 473 80 471 472 = true := by decide +kernel
theorem zk8 : z_all (zC 8) 19 (z_ck 8) = true := by decide +kernel
theorem zn8 : z_mck zcl lw_tbl (zM 8) 481 80 479 480 = true := by decide +kernel
theorem zk9 : z_all (zC 9) 42 (z_ck 9) = true := by decide +kernel
theorem zn9 : z_mck zcl lw_tbl (zM 9) 486 80 484 485 = true := by decide +kernel
theorem zk10 : z_all (zC 10) 42 (z_ck 10) = true := by decide +kernel
theorem zn10 : z_mck zcl lw_tbl (zM 10) 477 80 475 476 = true := by decide +kernel
theorem zk11 : z_all (zC 11) 63 (z_ck 11) = true := by decide +kernel
theorem zn11 : z_mck zcl lw_tbl (zM 11) 507 80 505 506 = true := by decide +kernel
theorem zk12 : z_all (zC 12) 5 (z_ck 12) = true := by decide +kernel
theorem zn12 : z_mck zcl lw_tbl (zM 12) 373 84 371 372 = true := by decide +kernel
theorem zk13 : z_all (zC 13) 6 (z_ck 13) = true := by decide +kernel
theorem zn13 : z_mck zcl lw_tbl (zM 13) 831 84 829 830 = true := by decide +kernel
theorem zk14 : z_all (zC 14) 6 (z_ck 14) = true := by decide +kernel
theorem zn14 : z_mck zcl lw_tbl (zM 14) 381 84 379 380 = true := by decide +kernel
theorem zk15 : z_all (zC 15) 61 (z_ck 15) = true := by decide +kernel
theorem zn15 : z_mck zcl lw_tbl (zM 15) 651 84 649 650 = true := by decide +kernel
theorem zk16 : z_all (zC 16) 42 (z_ck 16) = true := by decide +kernel
theorem zn16 : z_mck zcl lw_tbl (zM 16) 534 83 532 533 = true := by decide +kernel
theorem zk17 : z_all (zC 17) 83 (z_ck 17) = true := by decide +kernel
theorem zn17 : z_mck zcl lw_tbl (zM 17) 659 83 657 658 = true := by decide +kernel
theorem zk18 : z_all (zC 18) 69 (z_ck 18) = true := by decide +kernel
theorem zn18 : z_mck zcl lw_tbl (zM 18) 542 83 540 541 = true := by decide +kernel
theorem zk19 : z_all (zC 19) 95 (z_ck 19) = true := by decide +kernel
theorem zn19 : z_mck zcl lw_tbl (zM 19) 546 83 545 8 = true := by decide +kernel
theorem zk20 : z_all (zC 20) 41 (z_ck 20) = true := by decide +kernel
theorem zn20 : z_mck zcl lw_tbl (zM 20) 553 83 552 9 = true := by decide +kernel
theorem zk21 : z_all (zC 21) 67 (z_ck 21) = true := by decide +kernel
theorem zn21 : z_mck zcl lw_tbl (zM 21) 560 83 559 10 = true := by decide +kernel
theorem zk22 : z_all (zC 22) 24 (z_ck 22) = true := by decide +kernel
theorem zn22 : z_mck zcl lw_tbl (zM 22) 596 83 594 595 = true := by decide +kernel
theorem zk23 : z_all (zC 23) 7 (z_ck 23) = true := by decide +kernel
theorem zn23 : z_mck zcl lw_tbl (zM 23) 600 83 598 599 = true := by decide +kernel
theorem zk24 : z_all (zC 24) 24 (z_ck 24) = true := by decide +kernel
theorem zn24 : z_mck zcl lw_tbl (zM 24) 784 83 782 783 = true := by decide +kernel
theorem zk25 : z_all (zC 25) 28 (z_ck 25) = true := by decide +kernel
theorem zn25 : z_mck zcl lw_tbl (zM 25) 780 83 778 779 = true := by decide +kernel
theorem zk26 : z_all (zC 26) 21 (z_ck 26) = true := by decide +kernel
theorem zn26 : z_mck zcl lw_tbl (zM 26) 752 83 750 751 = true := by decide +kernel
theorem zk27 : z_all (zC 27) 38 (z_ck 27) = true := by decide +kernel
theorem zn27 : z_mck zcl lw_tbl (zM 27) 764 83 762 763 = true := by decide +kernel
theorem zk28 : z_all (zC 28) 17 (z_ck 28) = true := by decide +kernel
theorem zn28 : z_mck zcl lw_tbl (zM 28) 767 83 766 0 = true := by decide +kernel
theorem zk29 : z_all (zC 29) 10 (z_ck 29) = true := by decide +kernel
theorem zn29 : z_mck zcl lw_tbl (zM 29) 820 83 818 819 = true := by decide +kernel
theorem zk30 : z_all (zC 30) 21 (z_ck 30) = true := by decide +kernel
theorem zn30 : z_mck zcl lw_tbl (zM 30) 760 83 758 759 = true := by decide +kernel
theorem zk31 : z_all (zC 31) 56 (z_ck 31) = true := by decide +kernel
theorem zn31 : z_mck zcl lw_tbl (zM 31) 772 83 770 771 = true := by decide +kernel
theorem zk32 : z_all (zC 32) 93 (z_ck 32) = true := by decide +kernel
theorem zn32 : z_mck zcl lw_tbl (zM 32) 859 83 857 858 = true := by decide +kernel
theorem zk33 : z_all (zC 33) 90 (z_ck 33) = true := by decide +kernel
theorem zn33 : z_mck zcl lw_tbl (zM 33) 468 81 466 467 = true := by decide +kernel
theorem zk34 : z_all (zC 34) 85 (z_ck 34) = true := by decide +kernel
theorem zn34 : z_mck zcl lw_tbl (zM 34) 490 81 489 2 = true := by decide +kernel
end
section
theorem zk35 : z_all (zC 35) 58 (z_ck 35) = true := by decide +kernel
theorem zn35 : z_mck zcl lw_tbl (zM 35) 495 81 494 3 = true := by decide +kernel
theorem zk36 : z_all (zC 36) 24 (z_ck 36) = true := by decide +kernel
theorem zn36 : z_mck zcl lw_tbl (zM 36) 499 81 498 0 = true := by decide +kernel
theorem zk37 : z_all (zC 37) 163 (z_ck 37) = true := by decide +kernel
theorem zn37 : z_mck zcl lw_tbl (zM 37) 503 81 502 4 = true := by decide +kernel
theorem zk38 : z_all (zC 38) 67 (z_ck 38) = true := by decide +kernel
theorem zn38 : z_mck zcl lw_tbl (zM 38) 510 81 509 0 = true := by decide +kernel
theorem zk39 : z_all (zC 39) 54 (z_ck 39) = true := by decide +kernel
theorem zn39 : z_mck zcl lw_tbl (zM 39) 514 81 513 0 = true := by decide +kernel
theorem zk40 : z_all (zC 40) 40 (z_ck 40) = true := by decide +kernel
theorem zn40 : z_mck zcl lw_tbl (zM 40) 518 81 517 5 = true := by decide +kernel
theorem zk41 : z_all (zC 41) 41 (z_ck 41) = true := by decide +kernel
theorem zn41 : z_mck zcl lw_tbl (zM 41) 526 81 524 525 = true := by decide +kernel
theorem zk42 : z_all (zC 42) 27 (z_ck 42) = true := by decide +kernel
theorem zn42 : z_mck zcl lw_tbl (zM 42) 605 81 603 604 = true := by decide +kernel
theorem zk43 : z_all (zC 43) 44 (z_ck 43) = true := by decide +kernel
theorem zn43 : z_mck zcl lw_tbl (zM 43) 613 81 612 14 = true := by decide +kernel
theorem zk44 : z_all (zC 44) 14 (z_ck 44) = true := by decide +kernel
theorem zn44 : z_mck zcl lw_tbl (zM 44) 609 81 607 608 = true := by decide +kernel
theorem zk45 : z_all (zC 45) 22 (z_ck 45) = true := by decide +kernel
theorem zn45 : z_mck zcl lw_tbl (zM 45) 622 81 620 621 = true := by decide +kernel
theorem zk46 : z_all (zC 46) 67 (z_ck 46) = true := by decide +kernel
theorem zn46 : z_mck zcl lw_tbl (zM 46) 538 81 536 537 = true := by decide +kernel
theorem zk47 : z_all (zC 47) 79 (z_ck 47) = true := by decide +kernel
theorem zn47 : z_mck zcl lw_tbl (zM 47) 567 82 565 566 = true := by decide +kernel
theorem zk48 : z_all (zC 48) 76 (z_ck 48) = true := by decide +kernel
theorem zn48 : z_mck zcl lw_tbl (zM 48) 574 82 573 11 = true := by decide +kernel
theorem zk49 : z_all (zC 49) 141 (z_ck 49) = true := by decide +kernel
theorem zn49 : z_mck zcl lw_tbl (zM 49) 578 82 577 12 = true := by decide +kernel
theorem zk50 : z_all (zC 50) 32 (z_ck 50) = true := by decide +kernel
theorem zn50 : z_mck zcl lw_tbl (zM 50) 581 82 580 0 = true := by decide +kernel
theorem zk51 : z_all (zC 51) 51 (z_ck 51) = true := by decide +kernel
theorem zn51 : z_mck zcl lw_tbl (zM 51) 585 82 584 13 = true := by decide +kernel
theorem zk52 : z_all (zC 52) 101 (z_ck 52) = true := by decide +kernel
theorem zn52 : z_mck zcl lw_tbl (zM 52) 734 86 732 733 = true := by decide +kernel
theorem zk53 : z_all (zC 53) 93 (z_ck 53) = true := by decide +kernel
theorem zn53 : z_mck zcl lw_tbl (zM 53) 738 86 737 24 = true := by decide +kernel
theorem zk54 : z_all (zC 54) 13 (z_ck 54) = true := by decide +kernel
theorem zn54 : z_mck zcl lw_tbl (zM 54) 742 86 741 25 = true := by decide +kernel
theorem zk55 : z_all (zC 55) 13 (z_ck 55) = true := by decide +kernel
theorem zn55 : z_mck zcl lw_tbl (zM 55) 746 86 745 26 = true := by decide +kernel
theorem zk56 : z_all (zC 56) 91 (z_ck 56) = true := by decide +kernel
theorem zn56 : z_mck zcl lw_tbl (zM 56) 756 86 755 27 = true := by decide +kernel
theorem zk57 : z_all (zC 57) 106 (z_ck 57) = true := by decide +kernel
theorem zn57 : z_mck zcl lw_tbl (zM 57) 776 86 775 28 = true := by decide +kernel
end
section
theorem zk58 : z_all (zC 58) 70 (z_ck 58) = true := by decide +kernel
theorem zn58 : z_mck zcl lw_tbl (zM 58) 788 86 787 29 = true := by decide +kernel
theorem zk59 : z_all (zC 59) 57 (z_ck 59) = true := by decide +kernel
theorem zn59 : z_mck zcl lw_tbl (zM 59) 792 86 791 30 = true := by decide +kernel
theorem zk60 : z_all (zC 60) 34 (z_ck 60) = true := by decide +kernel
theorem zn60 : z_mck zcl lw_tbl (zM 60) 796 86 795 31 = true := by decide +kernel
theorem zk61 : z_all (zC 61) 49 (z_ck 61) = true := by decide +kernel
theorem zn61 : z_mck zcl lw_tbl (zM 61) 800 86 799 32 = true := by decide +kernel
theorem zk62 : z_all (zC 62) 96 (z_ck 62) = true := by decide +kernel
theorem zn62 : z_mck zcl lw_tbl (zM 62) 804 86 803 33 = true := by decide +kernel
theorem zk63 : z_all (zC 63) 42 (z_ck 63) = true := by decide +kernel
theorem zn63 : z_mck zcl lw_tbl (zM 63) 808 86 807 34 = true := by decide +kernel
theorem zk64 : z_all (zC 64) 38 (z_ck 64) = true := by decide +kernel
theorem zn64 : z_mck zcl lw_tbl (zM 64) 812 86 811 35 = true := by decide +kernel
theorem zk65 : z_all (zC 65) 55 (z_ck 65) = true := by decide +kernel
theorem zn65 : z_mck zcl lw_tbl (zM 65) 816 86 815 36 = true := by decide +kernel
theorem zk66 : z_all (zC 66) 38 (z_ck 66) = true := by decide +kernel
theorem zn66 : z_mck zcl lw_tbl (zM 66) 626 85 624 625 = true := by decide +kernel
theorem zk67 : z_all (zC 67) 23 (z_ck 67) = true := by decide +kernel
theorem zn67 : z_mck zcl lw_tbl (zM 67) 711 85 709 710 = true := by decide +kernel
theorem zk68 : z_all (zC 68) 44 (z_ck 68) = true := by decide +kernel
theorem zn68 : z_mck zcl lw_tbl (zM 68) 592 85 590 591 = true := by decide +kernel
theorem zk69 : z_all (zC 69) 38 (z_ck 69) = true := by decide +kernel
theorem zn69 : z_mck zcl lw_tbl (zM 69) 726 85 724 725 = true := by decide +kernel
theorem zk70 : z_all (zC 70) 57 (z_ck 70) = true := by decide +kernel
theorem zn70 : z_mck zcl lw_tbl (zM 70) 730 85 728 729 = true := by decide +kernel
theorem zk71 : z_all (zC 71) 77 (z_ck 71) = true := by decide +kernel
theorem zn71 : z_mck zcl lw_tbl (zM 71) 684 85 682 683 = true := by decide +kernel
theorem zk72 : z_all (zC 72) 88 (z_ck 72) = true := by decide +kernel
theorem zn72 : z_mck zcl lw_tbl (zM 72) 687 85 686 0 = true := by decide +kernel
theorem zk73 : z_all (zC 73) 73 (z_ck 73) = true := by decide +kernel
theorem zn73 : z_mck zcl lw_tbl (zM 73) 638 85 636 637 = true := by decide +kernel
theorem zk74 : z_all (zC 74) 17 (z_ck 74) = true := by decide +kernel
theorem zn74 : z_mck zcl lw_tbl (zM 74) 667 85 665 666 = true := by decide +kernel
theorem zk75 : z_all (zC 75) 51 (z_ck 75) = true := by decide +kernel
theorem zn75 : z_mck zcl lw_tbl (zM 75) 642 85 641 17 = true := by decide +kernel
theorem zk76 : z_all (zC 76) 34 (z_ck 76) = true := by decide +kernel
theorem zn76 : z_mck zcl lw_tbl (zM 76) 646 85 645 18 = true := by decide +kernel
theorem zk77 : z_all (zC 77) 60 (z_ck 77) = true := by decide +kernel
theorem zn77 : z_mck zcl lw_tbl (zM 77) 655 85 654 19 = true := by decide +kernel
theorem zk78 : z_all (zC 78) 41 (z_ck 78) = true := by decide +kernel
theorem zn78 : z_mck zcl lw_tbl (zM 78) 377 85 375 376 = true := by decide +kernel
theorem zk79 : z_all (zC 79) 39 (z_ck 79) = true := by decide +kernel
theorem zn79 : z_mck zcl lw_tbl (zM 79) 341 79 339 340 = true := by decide +kernel
theorem zk80 : z_all (zC 80) 62 (z_ck 80) = true := by decide +kernel
theorem zn80 : z_mck zcl lw_tbl (zM 80) 393 79 391 392 = true := by decide +kernel
theorem zk81 : z_all (zC 81) 9 (z_ck 81) = true := by decide +kernel
theorem zn81 : z_mck zcl lw_tbl (zM 81) 357 79 355 356 = true := by decide +kernel
theorem zk82 : z_all (zC 82) 89 (z_ck 82) = true := by decide +kernel
theorem zn82 : z_mck zcl lw_tbl (zM 82) 722 79 720 721 = true := by decide +kernel
end
section
theorem zk83 : z_all (zC 83) 12 (z_ck 83) = true := by decide +kernel
theorem zn83 : z_mck zcl lw_tbl (zM 83) 365 79 363 364 = true := by decide +kernel
theorem zk84 : z_all (zC 84) 20 (z_ck 84) = true := by decide +kernel
theorem zn84 : z_mck zcl lw_tbl (zM 84) 827 79 825 826 = true := by decide +kernel
theorem zk85 : z_all (zC 85) 28 (z_ck 85) = true := by decide +kernel
theorem zn85 : z_mck zcl lw_tbl (zM 85) 369 79 367 368 = true := by decide +kernel
theorem zk86 : z_all (zC 86) 43 (z_ck 86) = true := by decide +kernel
theorem zn86 : z_mck zcl lw_tbl (zM 86) 839 79 837 838 = true := by decide +kernel
theorem zk87 : z_all (zC 87) 61 (z_ck 87) = true := by decide +kernel
theorem zn87 : z_mck zcl lw_tbl (zM 87) 867 79 865 866 = true := by decide +kernel
theorem zk88 : z_all (zC 88) 110 (z_ck 88) = true := by decide +kernel
theorem zn88 : z_mck zcl lw_tbl (zM 88) 385 79 383 384 = true := by decide +kernel
theorem zk89 : z_all (zC 89) 21 (z_ck 89) = true := by decide +kernel
theorem zn89 : z_mck zcl lw_tbl (zM 89) 397 79 396 0 = true := by decide +kernel
theorem zk90 : z_all (zC 90) 9 (z_ck 90) = true := by decide +kernel
theorem zn90 : z_mck zcl lw_tbl (zM 90) 715 79 714 23 = true := by decide +kernel
theorem zk91 : z_all (zC 91) 154 (z_ck 91) = true := by decide +kernel
theorem zn91 : z_mck zcl lw_tbl (zM 91) 522 79 521 6 = true := by decide +kernel
theorem zk92 : z_all (zC 92) 94 (z_ck 92) = true := by decide +kernel
theorem zn92 : z_mck zcl lw_tbl (zM 92) 530 79 529 7 = true := by decide +kernel
theorem zk93 : z_all (zC 93) 45 (z_ck 93) = true := by decide +kernel
theorem zn93 : z_mck zcl lw_tbl (zM 93) 618 79 617 15 = true := by decide +kernel
theorem zk94 : z_all (zC 94) 79 (z_ck 94) = true := by decide +kernel
theorem zn94 : z_mck zcl lw_tbl (zM 94) 629 79 628 0 = true := by decide +kernel
theorem zk95 : z_all (zC 95) 76 (z_ck 95) = true := by decide +kernel
theorem zn95 : z_mck zcl lw_tbl (zM 95) 634 79 633 16 = true := by decide +kernel
theorem zk96 : z_all (zC 96) 45 (z_ck 96) = true := by decide +kernel
theorem zn96 : z_mck zcl lw_tbl (zM 96) 663 79 662 0 = true := by decide +kernel
theorem zk97 : z_all (zC 97) 124 (z_ck 97) = true := by decide +kernel
theorem zn97 : z_mck zcl lw_tbl (zM 97) 671 79 670 20 = true := by decide +kernel
theorem zk98 : z_all (zC 98) 36 (z_ck 98) = true := by decide +kernel
theorem zn98 : z_mck zcl lw_tbl (zM 98) 680 79 679 21 = true := by decide +kernel
theorem zk99 : z_all (zC 99) 110 (z_ck 99) = true := by decide +kernel
theorem zn99 : z_mck zcl lw_tbl (zM 99) 691 79 690 22 = true := by decide +kernel
theorem zk100 : z_all (zC 100) 5 (z_ck 100) = true := by decide +kernel
theorem zn100 : z_mck zcl lw_tbl (zM 100) 964 87 962 963 = true := by decide +kernel
theorem zk101 : z_all (zC 101) 79 (z_ck 101) = true := by decide +kernel
theorem zn101 : z_mck zcl lw_tbl (zM 101) 968 87 966 967 = true := by decide +kernel
theorem zk102 : z_all (zC 102) 25 (z_ck 102) = true := by decide +kernel
theorem zn102 : z_mck zcl lw_tbl (zM 102) 993 87 992 41 = true := by decide +kernel
theorem zk103 : z_all (zC 103) 80 (z_ck 103) = true := by decide +kernel
theorem zn103 : z_mck zcl lw_tbl (zM 103) 985 87 984 39 = true := by decide +kernel
theorem zk104 : z_all (zC 104) 71 (z_ck 104) = true := by decide +kernel
theorem zn104 : z_mck zcl lw_tbl (zM 104) 1001 87 1000 43 = true := by decide +kernel
theorem zk105 : z_all (zC 105) 69 (z_ck 105) = true := by decide +kernel
theorem zn105 : z_mck zcl lw_tbl (zM 105) 1010 87 1009 45 = true := by decide +kernel
theorem zk106 : z_all (zC 106) 149 (z_ck 106) = true := by decide +kernel
theorem zn106 : z_mck zcl lw_tbl (zM 106) 1005 87 1004 44 = true := by decide +kernel
end
section
theorem zk107 : z_all (zC 107) 343 (z_ck 107) = true := by decide +kernel
theorem zn107 : z_mck zcl lw_tbl (zM 107) 997 87 996 42 = true := by decide +kernel
theorem zk108 : z_all (zC 108) 16 (z_ck 108) = true := by decide +kernel
theorem zn108 : z_mck zcl lw_tbl (zM 108) 1019 87 1018 0 = true := by decide +kernel
theorem zk109 : z_all (zC 109) 396 (z_ck 109) = true := by decide +kernel
theorem zn109 : z_mck zcl lw_tbl (zM 109) 1015 87 1014 46 = true := by decide +kernel
theorem zk110 : z_all (zC 110) 46 (z_ck 110) = true := by decide +kernel
theorem zn110 : z_mck zcl lw_tbl (zM 110) 989 87 988 40 = true := by decide +kernel
theorem zk111 : z_all (zC 111) 183 (z_ck 111) = true := by decide +kernel
theorem zn111 : z_mck zcl lw_tbl (zM 111) 981 87 980 38 = true := by decide +kernel
theorem zk112 : z_all (zC 112) 237 (z_ck 112) = true := by decide +kernel
theorem zn112 : z_mck zcl lw_tbl (zM 112) 1042 87 1041 49 = true := by decide +kernel
theorem zk113 : z_all (zC 113) 85 (z_ck 113) = true := by decide +kernel
theorem zn113 : z_mck zcl lw_tbl (zM 113) 1038 87 1037 48 = true := by decide +kernel
theorem zk114 : z_all (zC 114) 33 (z_ck 114) = true := by decide +kernel
theorem zn114 : z_mck zcl lw_tbl (zM 114) 1054 87 1053 52 = true := by decide +kernel
end
section
theorem zk115 : z_all (zC 115) 21 (z_ck 115) = true := by decide +kernel
theorem zn115 : z_mck zcl lw_tbl (zM 115) 1050 87 1049 51 = true := by decide +kernel
theorem zk116 : z_all (zC 116) 49 (z_ck 116) = true := by decide +kernel
theorem zn116 : z_mck zcl lw_tbl (zM 116) 1046 87 1045 50 = true := by decide +kernel
theorem zk117 : z_all (zC 117) 34 (z_ck 117) = true := by decide +kernel
theorem zn117 : z_mck zcl lw_tbl (zM 117) 1030 87 1029 0 = true := by decide +kernel
theorem zk118 : z_all (zC 118) 105 (z_ck 118) = true := by decide +kernel
theorem zn118 : z_mck zcl lw_tbl (zM 118) 1034 87 1033 47 = true := by decide +kernel
theorem zk119 : z_all (zC 119) 196 (z_ck 119) = true := by decide +kernel
theorem zn119 : z_mck zcl lw_tbl (zM 119) 977 87 976 37 = true := by decide +kernel
theorem zk120 : z_all (zC 120) 66 (z_ck 120) = true := by decide +kernel
theorem zn120 : z_mck zcl lw_tbl (zM 120) 1066 87 1065 55 = true := by decide +kernel
theorem zk121 : z_all (zC 121) 76 (z_ck 121) = true := by decide +kernel
theorem zn121 : z_mck zcl lw_tbl (zM 121) 1070 87 1069 56 = true := by decide +kernel
theorem zk122 : z_all (zC 122) 41 (z_ck 122) = true := by decide +kernel
theorem zn122 : z_mck zcl lw_tbl (zM 122) 1074 87 1073 57 = true := by decide +kernel
theorem zk123 : z_all (zC 123) 73 (z_ck 123) = true := by decide +kernel
theorem zn123 : z_mck zcl lw_tbl (zM 123) 1078 87 1077 58 = true := by decide +kernel
theorem zk124 : z_all (zC 124) 59 (z_ck 124) = true := by decide +kernel
theorem zn124 : z_mck zcl lw_tbl (zM 124) 1062 87 1061 54 = true := by decide +kernel
theorem zk125 : z_all (zC 125) 28 (z_ck 125) = true := by decide +kernel
theorem zn125 : z_mck zcl lw_tbl (zM 125) 1082 87 1081 59 = true := by decide +kernel
theorem zk126 : z_all (zC 126) 44 (z_ck 126) = true := by decide +kernel
theorem zn126 : z_mck zcl lw_tbl (zM 126) 1086 87 1085 60 = true := by decide +kernel
theorem zk127 : z_all (zC 127) 61 (z_ck 127) = true := by decide +kernel
theorem zn127 : z_mck zcl lw_tbl (zM 127) 1106 87 1105 65 = true := by decide +kernel
theorem zk128 : z_all (zC 128) 114 (z_ck 128) = true := by decide +kernel
theorem zn128 : z_mck zcl lw_tbl (zM 128) 1102 87 1101 64 = true := by decide +kernel
theorem zk129 : z_all (zC 129) 135 (z_ck 129) = true := by decide +kernel
theorem zn129 : z_mck zcl lw_tbl (zM 129) 1098 87 1097 63 = true := by decide +kernel
theorem zk130 : z_all (zC 130) 50 (z_ck 130) = true := by decide +kernel
theorem zn130 : z_mck zcl lw_tbl (zM 130) 1094 87 1093 62 = true := by decide +kernel
theorem zk131 : z_all (zC 131) 56 (z_ck 131) = true := by decide +kernel
theorem zn131 : z_mck zcl lw_tbl (zM 131) 1090 87 1089 61 = true := by decide +kernel
end
section
theorem zk132 : z_all (zC 132) 171 (z_ck 132) = true := by decide +kernel
theorem zn132 : z_mck zcl lw_tbl (zM 132) 1058 87 1057 53 = true := by decide +kernel
theorem zk133 : z_all (zC 133) 205 (z_ck 133) = true := by decide +kernel
theorem zn133 : z_mck zcl lw_tbl (zM 133) 973 87 971 972 = true := by decide +kernel
theorem zk134 : z_all (zC 134) 28 (z_ck 134) = true := by decide +kernel
theorem zn134 : z_mck zcl lw_tbl (zM 134) 1113 87 1111 1112 = true := by decide +kernel
theorem zk135 : z_all (zC 135) 31 (z_ck 135) = true := by decide +kernel
theorem zn135 : z_mck zcl lw_tbl (zM 135) 1133 87 1132 69 = true := by decide +kernel
theorem zk136 : z_all (zC 136) 67 (z_ck 136) = true := by decide +kernel
theorem zn136 : z_mck zcl lw_tbl (zM 136) 1129 87 1128 68 = true := by decide +kernel
theorem zk137 : z_all (zC 137) 46 (z_ck 137) = true := by decide +kernel
theorem zn137 : z_mck zcl lw_tbl (zM 137) 1153 87 1152 74 = true := by decide +kernel
theorem zk138 : z_all (zC 138) 29 (z_ck 138) = true := by decide +kernel
theorem zn138 : z_mck zcl lw_tbl (zM 138) 1149 87 1148 73 = true := by decide +kernel
theorem zk139 : z_all (zC 139) 81 (z_ck 139) = true := by decide +kernel
theorem zn139 : z_mck zcl lw_tbl (zM 139) 1157 87 1156 75 = true := by decide +kernel
theorem zk140 : z_all (zC 140) 59 (z_ck 140) = true := by decide +kernel
theorem zn140 : z_mck zcl lw_tbl (zM 140) 1145 87 1144 72 = true := by decide +kernel
theorem zk141 : z_all (zC 141) 21 (z_ck 141) = true := by decide +kernel
theorem zn141 : z_mck zcl lw_tbl (zM 141) 1137 87 1136 70 = true := by decide +kernel
theorem zk142 : z_all (zC 142) 58 (z_ck 142) = true := by decide +kernel
theorem zn142 : z_mck zcl lw_tbl (zM 142) 1161 87 1160 76 = true := by decide +kernel
theorem zk143 : z_all (zC 143) 198 (z_ck 143) = true := by decide +kernel
theorem zn143 : z_mck zcl lw_tbl (zM 143) 1165 87 1164 77 = true := by decide +kernel
theorem zk144 : z_all (zC 144) 267 (z_ck 144) = true := by decide +kernel
theorem zn144 : z_mck zcl lw_tbl (zM 144) 1141 87 1140 71 = true := by decide +kernel
end
section
theorem zk145 : z_all (zC 145) 211 (z_ck 145) = true := by decide +kernel
theorem zn145 : z_mck zcl lw_tbl (zM 145) 1125 87 1124 67 = true := by decide +kernel
theorem zk146 : z_all (zC 146) 73 (z_ck 146) = true := by decide +kernel
theorem zn146 : z_mck zcl lw_tbl (zM 146) 1121 87 1120 66 = true := by decide +kernel
theorem zk147 : z_all (zC 147) 160 (z_ck 147) = true := by decide +kernel
theorem zn147 : z_mck zcl lw_tbl (zM 147) 1117 87 1115 1116 = true := by decide +kernel
theorem zk148 : z_all (zC 148) 28 (z_ck 148) = true := by decide +kernel
theorem zn148 : z_mck zcl lw_tbl (zM 148) 1169 87 1167 1168 = true := by decide +kernel
theorem zk149 : z_all (zC 149) 41 (z_ck 149) = true := by decide +kernel
theorem zn149 : z_mck zcl lw_tbl (zM 149) 1173 87 1171 1172 = true := by decide +kernel
theorem zk150 : z_all (zC 150) 17 (z_ck 150) = true := by decide +kernel
theorem zn150 : z_mck zcl lw_tbl (zM 150) 1177 87 1175 1176 = true := by decide +kernel
theorem zk151 : z_all (zC 151) 110 (z_ck 151) = true := by decide +kernel
theorem zn151 : z_mck zcl lw_tbl (zM 151) 1181 87 1179 1180 = true := by decide +kernel
theorem zk152 : z_all (zC 152) 96 (z_ck 152) = true := by decide +kernel
theorem zn152 : z_mck zcl lw_tbl (zM 152) 1185 87 1183 1184 = true := by decide +kernel
theorem zk153 : z_all (zC 153) 93 (z_ck 153) = true := by decide +kernel
theorem zn153 : z_mck zcl lw_tbl (zM 153) 1189 87 1187 1188 = true := by decide +kernel
end
section
/-! both sides are in order -/
def zTs : List Jvm.Cond := lw_tbl.filter goodWord
def zNs : List Jvm.Cond := lw_tbl.filter z_nest
theorem zTs_in : ∀ w ∈ lw_tbl, goodWord w = true → w ∈ zTs := fun _ h g => List.mem_filter.mpr ⟨h, g⟩
theorem zNs_in : ∀ w ∈ lw_tbl, z_nest w = true → w ∈ zNs := fun _ h g => List.mem_filter.mpr ⟨h, g⟩
theorem zTs_good : ∀ w ∈ zTs, goodWord w = true := fun _ h => (List.mem_filter.mp h).2
theorem z_nest_on {w : Jvm.Cond} (h : z_nest w = true) : w.onTables = true := by
  cases w <;> first | rfl | (simp [z_nest] at h)
theorem z_nest_mv {w : Jvm.Cond} (h : z_nest w = true) {s U : State} (hW : s.WarmedH U.vm) (hZ : va_Nw w s) : va_Nw w U := by
  cases w <;> first | exact va_Nw.warmF hW hZ | exact va_Nw.warmM hW hZ | (simp [z_nest] at h)
theorem zNs_on : ∀ w ∈ zNs, w.onTables = true := fun _ h => z_nest_on (List.mem_filter.mp h).2
theorem zNs_mv : ∀ w ∈ zNs, ∀ s U : State, s.WarmedH U.vm → va_Nw w s → va_Nw w U := fun _ h _ _ hW hZ => z_nest_mv (List.mem_filter.mp h).2 hW hZ
theorem sCn_nd : sCn.Nodup := by decide +kernel
theorem sRn_nd : sRn.Nodup := by decide +kernel
theorem sCr_8 (g i n : Nat) : sCr g i (n + 8) = sCr g i 8 := by
  unfold sCr
  split <;> rfl
theorem sCr_in : ∀ o ∈ sCn, ∀ k, sCr o.1 o.2 k ∈ sCn := by
  have h : ∀ o ∈ sCn, ∀ k, k < 9 → sCr o.1 o.2 k ∈ sCn := by decide +kernel
  intro o ho k
  by_cases hk : k < 9
  · exact h o ho k hk
  · obtain ⟨n, rfl⟩ : ∃ n, k = n + 8 := ⟨k - 8, by omega⟩
    rw [sCr_8]
    exact h o ho 8 (by omega)
theorem sRr_28 (g i n : Nat) : sRr g i (n + 28) = sRr g i 28 := by
  unfold sRr
  split <;> rfl
theorem sRr_in : ∀ o ∈ sRn, ∀ k, sRr o.1 o.2 k ∈ sRn := by
  have h : ∀ o ∈ sRn, ∀ k, k < 29 → sRr o.1 o.2 k ∈ sRn := by decide +kernel
  intro o ho k
  by_cases hk : k < 29
  · exact h o ho k hk
  · obtain ⟨n, rfl⟩ : ∃ n, k = n + 28 := ⟨k - 28, by omega⟩
    rw [sRr_28]
    exact h o ho 28 (by omega)
def z_lok (C : String) (T : u_T) (N : Nat) (ks ps : List Nat) : Bool :=
  (List.range N).all (fun k => decide (lw_tbl[ps.getD k 0]? = some (u_lay C T k)) && goodWord (u_lay C T k) && (parseFieldDescriptor (T k).2.2.1).isSome && (List.range N).all (fun b => decide (k = b) || decide ((T k).2.1 ≠ (T b).2.1))) && decide (ks.length = N)
theorem z_lok_ok {C : String} {T : u_T} {N : Nat} {ks ps : List Nat} (h : z_lok C T N ks ps = true) :
    (∀ w ∈ u_ws C T N, w ∈ zTs) ∧ ks.length = N ∧ (∃ ty0 : Nat → FieldType, ∀ k, k < N → parseFieldDescriptor (T k).2.2.1 = some (ty0 k)) ∧ (∀ a, a < N → ∀ b, b < N → a ≠ b → (T a).2.1 ≠ (T b).2.1) := by
  unfold z_lok at h
  rw [Bool.and_eq_true, decide_eq_true_eq] at h
  obtain ⟨h, hl⟩ := h
  have key : ∀ k, k < N → lw_tbl[ps.getD k 0]? = some (u_lay C T k) ∧ goodWord (u_lay C T k) = true ∧ (parseFieldDescriptor (T k).2.2.1).isSome = true ∧ ∀ b, b < N → k ≠ b → (T k).2.1 ≠ (T b).2.1 := by
    intro k hk
    have h1 := List.all_eq_true.mp h k (List.mem_range.mpr hk)
    simp only [Bool.and_eq_true, decide_eq_true_eq] at h1
    obtain ⟨⟨⟨a1, a2⟩, a3⟩, a4⟩ := h1
    refine ⟨a1, a2, a3, fun b hb hne => ?_⟩
    have h2 := List.all_eq_true.mp a4 b (List.mem_range.mpr hb)
    simp only [Bool.or_eq_true, decide_eq_true_eq] at h2
    rcases h2 with h2 | h2
    · exact absurd h2 hne
    · exact h2
  refine ⟨fun w hw => ?_, hl, ⟨fun k => (parseFieldDescriptor (T k).2.2.1).getD .int, fun k hk => ?_⟩, fun a ha b hb hne => (key a ha).2.2.2 b hb hne⟩
  · obtain ⟨k, hk, rfl⟩ := List.mem_map.mp hw
    have hk := List.mem_range.mp hk
    exact zTs_in _ (List.mem_of_getElem? (key k hk).1) (key k hk).2.1
  · obtain ⟨t, ht⟩ := Option.isSome_iff_exists.mp (key k hk).2.2.1
    show parseFieldDescriptor (T k).2.2.1 = some ((parseFieldDescriptor (T k).2.2.1).getD .int)
    rw [ht]
    rfl
theorem z_l0 : z_lok "PrintHouse" zT0 8 (zfk 0) [321, 323, 325, 327, 329, 331, 333, 335] = true := by decide +kernel
theorem z_l1 : z_lok "PrintHouse$Bytes" zT1 3 (zfk 1) [112, 114, 116] = true := by decide +kernel
theorem z_l2 : z_lok "PrintHouse$Message" zT2 11 (zfk 2) [141, 143, 145, 147, 149, 151, 153, 155, 157, 159, 161] = true := by decide +kernel
theorem z_l3 : z_lok "PrintHouse$Job" zT3 10 (zfk 3) [212, 214, 216, 218, 220, 222, 224, 226, 228, 230] = true := by decide +kernel
theorem z_l4 : z_lok "PrintHouse$PageReader" zT4 2 (zfk 4) [173, 175] = true := by decide +kernel
theorem z_l5 : z_lok "PrintHouse$Disk" zT5 4 (zfk 5) [245, 247, 249, 251] = true := by decide +kernel
theorem z_l6 : z_lok "PrintHouse$Spool" zT6 4 (zfk 6) [269, 271, 273, 275] = true := by decide +kernel
theorem z_l7 : z_lok "PrintHouse$Press" zT7 8 (zfk 7) [296, 298, 300, 302, 304, 306, 308, 310] = true := by decide +kernel
theorem z_l8 : z_lok "PrintHouseModel" zT8 28 (zfk 8) [904, 906, 908, 910, 912, 914, 916, 918, 920, 922, 924, 926, 928, 930, 932, 934, 936, 938, 940, 942, 944, 946, 948, 950, 952, 954, 956, 958] = true := by decide +kernel
theorem z_clok : z_CL zcl zfk zTs := by
  intro ci C T N h
  match ci, h with
  | 0, h => cases h; exact z_lok_ok z_l0
  | 1, h => cases h; exact z_lok_ok z_l1
  | 2, h => cases h; exact z_lok_ok z_l2
  | 3, h => cases h; exact z_lok_ok z_l3
  | 4, h => cases h; exact z_lok_ok z_l4
  | 5, h => cases h; exact z_lok_ok z_l5
  | 6, h => cases h; exact z_lok_ok z_l6
  | 7, h => cases h; exact z_lok_ok z_l7
  | 8, h => cases h; exact z_lok_ok z_l8
  | n + 9, h => cases h
theorem z_mo : ∀ mi, mi < znM → z_MO zcl zTs (zM mi) := by
  intro mi hm
  have hm : mi < 154 := hm
  rcases Nat.lt_or_ge mi 77 with h2 | h2
  ·
   rcases Nat.lt_or_ge mi 38 with h3 | h3
   ·
    rcases Nat.lt_or_ge mi 19 with h4 | h4
    ·
     rcases Nat.lt_or_ge mi 9 with h5 | h5
     ·
      rcases Nat.lt_or_ge mi 4 with h6 | h6
      ·
       rcases Nat.lt_or_ge mi 2 with h7 | h7
       ·
        rcases Nat.lt_or_ge mi 1 with h8 | h8
        ·
         have e : mi = 0 := by omega
         subst e
         exact z_mck_ok zTs_in zn0
        ·
         have e : mi = 1 := by omega
         subst e
         exact z_mck_ok zTs_in zn1
       ·
        rcases Nat.lt_or_ge mi 3 with h8 | h8
        ·
         have e : mi = 2 := by omega
         subst e
         exact z_mck_ok zTs_in zn2
        ·
         have e : mi = 3 := by omega
         subst e
         exact z_mck_ok zTs_in zn3
      ·
       rcases Nat.lt_or_ge mi 6 with h7 | h7
       ·
        rcases Nat.lt_or_ge mi 5 with h8 | h8
        ·
         have e : mi = 4 := by omega
         subst e
         exact z_mck_ok zTs_in zn4
        ·
         have e : mi = 5 := by omega
         subst e
         exact z_mck_ok zTs_in zn5
       ·
        rcases Nat.lt_or_ge mi 7 with h8 | h8
        ·
         have e : mi = 6 := by omega
         subst e
         exact z_mck_ok zTs_in zn6
        ·
         rcases Nat.lt_or_ge mi 8 with h9 | h9
         ·
          have e : mi = 7 := by omega
          subst e
          exact z_mck_ok zTs_in zn7
         ·
          have e : mi = 8 := by omega
          subst e
          exact z_mck_ok zTs_in zn8
     ·
      rcases Nat.lt_or_ge mi 14 with h6 | h6
      ·
       rcases Nat.lt_or_ge mi 11 with h7 | h7
       ·
        rcases Nat.lt_or_ge mi 10 with h8 | h8
        ·
         have e : mi = 9 := by omega
         subst e
         exact z_mck_ok zTs_in zn9
        ·
         have e : mi = 10 := by omega
         subst e
         exact z_mck_ok zTs_in zn10
       ·
        rcases Nat.lt_or_ge mi 12 with h8 | h8
        ·
         have e : mi = 11 := by omega
         subst e
         exact z_mck_ok zTs_in zn11
        ·
         rcases Nat.lt_or_ge mi 13 with h9 | h9
         ·
          have e : mi = 12 := by omega
          subst e
          exact z_mck_ok zTs_in zn12
         ·
          have e : mi = 13 := by omega
          subst e
          exact z_mck_ok zTs_in zn13
      ·
       rcases Nat.lt_or_ge mi 16 with h7 | h7
       ·
        rcases Nat.lt_or_ge mi 15 with h8 | h8
        ·
         have e : mi = 14 := by omega
         subst e
         exact z_mck_ok zTs_in zn14
        ·
         have e : mi = 15 := by omega
         subst e
         exact z_mck_ok zTs_in zn15
       ·
        rcases Nat.lt_or_ge mi 17 with h8 | h8
        ·
         have e : mi = 16 := by omega
         subst e
         exact z_mck_ok zTs_in zn16
        ·
         rcases Nat.lt_or_ge mi 18 with h9 | h9
         ·
          have e : mi = 17 := by omega
          subst e
          exact z_mck_ok zTs_in zn17
         ·
          have e : mi = 18 := by omega
          subst e
          exact z_mck_ok zTs_in zn18
    ·
     rcases Nat.lt_or_ge mi 28 with h5 | h5
     ·
      rcases Nat.lt_or_ge mi 23 with h6 | h6
      ·
       rcases Nat.lt_or_ge mi 21 with h7 | h7
       ·
        rcases Nat.lt_or_ge mi 20 with h8 | h8
        ·
         have e : mi = 19 := by omega
         subst e
         exact z_mck_ok zTs_in zn19
        ·
         have e : mi = 20 := by omega
         subst e
         exact z_mck_ok zTs_in zn20
       ·
        rcases Nat.lt_or_ge mi 22 with h8 | h8
        ·
         have e : mi = 21 := by omega
         subst e
         exact z_mck_ok zTs_in zn21
        ·
         have e : mi = 22 := by omega
         subst e
         exact z_mck_ok zTs_in zn22
      ·
       rcases Nat.lt_or_ge mi 25 with h7 | h7
       ·
        rcases Nat.lt_or_ge mi 24 with h8 | h8
        ·
         have e : mi = 23 := by omega
         subst e
         exact z_mck_ok zTs_in zn23
        ·
         have e : mi = 24 := by omega
         subst e
         exact z_mck_ok zTs_in zn24
       ·
        rcases Nat.lt_or_ge mi 26 with h8 | h8
        ·
         have e : mi = 25 := by omega
         subst e
         exact z_mck_ok zTs_in zn25
        ·
         rcases Nat.lt_or_ge mi 27 with h9 | h9
         ·
          have e : mi = 26 := by omega
          subst e
          exact z_mck_ok zTs_in zn26
         ·
          have e : mi = 27 := by omega
          subst e
          exact z_mck_ok zTs_in zn27
     ·
      rcases Nat.lt_or_ge mi 33 with h6 | h6
      ·
       rcases Nat.lt_or_ge mi 30 with h7 | h7
       ·
        rcases Nat.lt_or_ge mi 29 with h8 | h8
        ·
         have e : mi = 28 := by omega
         subst e
         exact z_mck_ok zTs_in zn28
        ·
         have e : mi = 29 := by omega
         subst e
         exact z_mck_ok zTs_in zn29
       ·
        rcases Nat.lt_or_ge mi 31 with h8 | h8
        ·
         have e : mi = 30 := by omega
         subst e
         exact z_mck_ok zTs_in zn30
        ·
         rcases Nat.lt_or_ge mi 32 with h9 | h9
         ·
          have e : mi = 31 := by omega
          subst e
          exact z_mck_ok zTs_in zn31
         ·
          have e : mi = 32 := by omega
          subst e
          exact z_mck_ok zTs_in zn32
      ·
       rcases Nat.lt_or_ge mi 35 with h7 | h7
       ·
        rcases Nat.lt_or_ge mi 34 with h8 | h8
        ·
         have e : mi = 33 := by omega
         subst e
         exact z_mck_ok zTs_in zn33
        ·
         have e : mi = 34 := by omega
         subst e
         exact z_mck_ok zTs_in zn34
       ·
        rcases Nat.lt_or_ge mi 36 with h8 | h8
        ·
         have e : mi = 35 := by omega
         subst e
         exact z_mck_ok zTs_in zn35
        ·
         rcases Nat.lt_or_ge mi 37 with h9 | h9
         ·
          have e : mi = 36 := by omega
          subst e
          exact z_mck_ok zTs_in zn36
         ·
          have e : mi = 37 := by omega
          subst e
          exact z_mck_ok zTs_in zn37
   ·
    rcases Nat.lt_or_ge mi 57 with h4 | h4
    ·
     rcases Nat.lt_or_ge mi 47 with h5 | h5
     ·
      rcases Nat.lt_or_ge mi 42 with h6 | h6
      ·
       rcases Nat.lt_or_ge mi 40 with h7 | h7
       ·
        rcases Nat.lt_or_ge mi 39 with h8 | h8
        ·
         have e : mi = 38 := by omega
         subst e
         exact z_mck_ok zTs_in zn38
        ·
         have e : mi = 39 := by omega
         subst e
         exact z_mck_ok zTs_in zn39
       ·
        rcases Nat.lt_or_ge mi 41 with h8 | h8
        ·
         have e : mi = 40 := by omega
         subst e
         exact z_mck_ok zTs_in zn40
        ·
         have e : mi = 41 := by omega
         subst e
         exact z_mck_ok zTs_in zn41
      ·
       rcases Nat.lt_or_ge mi 44 with h7 | h7
       ·
        rcases Nat.lt_or_ge mi 43 with h8 | h8
        ·
         have e : mi = 42 := by omega
         subst e
         exact z_mck_ok zTs_in zn42
        ·
         have e : mi = 43 := by omega
         subst e
         exact z_mck_ok zTs_in zn43
       ·
        rcases Nat.lt_or_ge mi 45 with h8 | h8
        ·
         have e : mi = 44 := by omega
         subst e
         exact z_mck_ok zTs_in zn44
        ·
         rcases Nat.lt_or_ge mi 46 with h9 | h9
         ·
          have e : mi = 45 := by omega
          subst e
          exact z_mck_ok zTs_in zn45
         ·
          have e : mi = 46 := by omega
          subst e
          exact z_mck_ok zTs_in zn46
     ·
      rcases Nat.lt_or_ge mi 52 with h6 | h6
      ·
       rcases Nat.lt_or_ge mi 49 with h7 | h7
       ·
        rcases Nat.lt_or_ge mi 48 with h8 | h8
        ·
         have e : mi = 47 := by omega
         subst e
         exact z_mck_ok zTs_in zn47
        ·
         have e : mi = 48 := by omega
         subst e
         exact z_mck_ok zTs_in zn48
       ·
        rcases Nat.lt_or_ge mi 50 with h8 | h8
        ·
         have e : mi = 49 := by omega
         subst e
         exact z_mck_ok zTs_in zn49
        ·
         rcases Nat.lt_or_ge mi 51 with h9 | h9
         ·
          have e : mi = 50 := by omega
          subst e
          exact z_mck_ok zTs_in zn50
         ·
          have e : mi = 51 := by omega
          subst e
          exact z_mck_ok zTs_in zn51
      ·
       rcases Nat.lt_or_ge mi 54 with h7 | h7
       ·
        rcases Nat.lt_or_ge mi 53 with h8 | h8
        ·
         have e : mi = 52 := by omega
         subst e
         exact z_mck_ok zTs_in zn52
        ·
         have e : mi = 53 := by omega
         subst e
         exact z_mck_ok zTs_in zn53
       ·
        rcases Nat.lt_or_ge mi 55 with h8 | h8
        ·
         have e : mi = 54 := by omega
         subst e
         exact z_mck_ok zTs_in zn54
        ·
         rcases Nat.lt_or_ge mi 56 with h9 | h9
         ·
          have e : mi = 55 := by omega
          subst e
          exact z_mck_ok zTs_in zn55
         ·
          have e : mi = 56 := by omega
          subst e
          exact z_mck_ok zTs_in zn56
    ·
     rcases Nat.lt_or_ge mi 67 with h5 | h5
     ·
      rcases Nat.lt_or_ge mi 62 with h6 | h6
      ·
       rcases Nat.lt_or_ge mi 59 with h7 | h7
       ·
        rcases Nat.lt_or_ge mi 58 with h8 | h8
        ·
         have e : mi = 57 := by omega
         subst e
         exact z_mck_ok zTs_in zn57
        ·
         have e : mi = 58 := by omega
         subst e
         exact z_mck_ok zTs_in zn58
       ·
        rcases Nat.lt_or_ge mi 60 with h8 | h8
        ·
         have e : mi = 59 := by omega
         subst e
         exact z_mck_ok zTs_in zn59
        ·
         rcases Nat.lt_or_ge mi 61 with h9 | h9
         ·
          have e : mi = 60 := by omega
          subst e
          exact z_mck_ok zTs_in zn60
         ·
          have e : mi = 61 := by omega
          subst e
          exact z_mck_ok zTs_in zn61
      ·
       rcases Nat.lt_or_ge mi 64 with h7 | h7
       ·
        rcases Nat.lt_or_ge mi 63 with h8 | h8
        ·
         have e : mi = 62 := by omega
         subst e
         exact z_mck_ok zTs_in zn62
        ·
         have e : mi = 63 := by omega
         subst e
         exact z_mck_ok zTs_in zn63
       ·
        rcases Nat.lt_or_ge mi 65 with h8 | h8
        ·
         have e : mi = 64 := by omega
         subst e
         exact z_mck_ok zTs_in zn64
        ·
         rcases Nat.lt_or_ge mi 66 with h9 | h9
         ·
          have e : mi = 65 := by omega
          subst e
          exact z_mck_ok zTs_in zn65
         ·
          have e : mi = 66 := by omega
          subst e
          exact z_mck_ok zTs_in zn66
     ·
      rcases Nat.lt_or_ge mi 72 with h6 | h6
      ·
       rcases Nat.lt_or_ge mi 69 with h7 | h7
       ·
        rcases Nat.lt_or_ge mi 68 with h8 | h8
        ·
         have e : mi = 67 := by omega
         subst e
         exact z_mck_ok zTs_in zn67
        ·
         have e : mi = 68 := by omega
         subst e
         exact z_mck_ok zTs_in zn68
       ·
        rcases Nat.lt_or_ge mi 70 with h8 | h8
        ·
         have e : mi = 69 := by omega
         subst e
         exact z_mck_ok zTs_in zn69
        ·
         rcases Nat.lt_or_ge mi 71 with h9 | h9
         ·
          have e : mi = 70 := by omega
          subst e
          exact z_mck_ok zTs_in zn70
         ·
          have e : mi = 71 := by omega
          subst e
          exact z_mck_ok zTs_in zn71
      ·
       rcases Nat.lt_or_ge mi 74 with h7 | h7
       ·
        rcases Nat.lt_or_ge mi 73 with h8 | h8
        ·
         have e : mi = 72 := by omega
         subst e
         exact z_mck_ok zTs_in zn72
        ·
         have e : mi = 73 := by omega
         subst e
         exact z_mck_ok zTs_in zn73
       ·
        rcases Nat.lt_or_ge mi 75 with h8 | h8
        ·
         have e : mi = 74 := by omega
         subst e
         exact z_mck_ok zTs_in zn74
        ·
         rcases Nat.lt_or_ge mi 76 with h9 | h9
         ·
          have e : mi = 75 := by omega
          subst e
          exact z_mck_ok zTs_in zn75
         ·
          have e : mi = 76 := by omega
          subst e
          exact z_mck_ok zTs_in zn76
  ·
   rcases Nat.lt_or_ge mi 115 with h3 | h3
   ·
    rcases Nat.lt_or_ge mi 96 with h4 | h4
    ·
     rcases Nat.lt_or_ge mi 86 with h5 | h5
     ·
      rcases Nat.lt_or_ge mi 81 with h6 | h6
      ·
       rcases Nat.lt_or_ge mi 79 with h7 | h7
       ·
        rcases Nat.lt_or_ge mi 78 with h8 | h8
        ·
         have e : mi = 77 := by omega
         subst e
         exact z_mck_ok zTs_in zn77
        ·
         have e : mi = 78 := by omega
         subst e
         exact z_mck_ok zTs_in zn78
       ·
        rcases Nat.lt_or_ge mi 80 with h8 | h8
        ·
         have e : mi = 79 := by omega
         subst e
         exact z_mck_ok zTs_in zn79
        ·
         have e : mi = 80 := by omega
         subst e
         exact z_mck_ok zTs_in zn80
      ·
       rcases Nat.lt_or_ge mi 83 with h7 | h7
       ·
        rcases Nat.lt_or_ge mi 82 with h8 | h8
        ·
         have e : mi = 81 := by omega
         subst e
         exact z_mck_ok zTs_in zn81
        ·
         have e : mi = 82 := by omega
         subst e
         exact z_mck_ok zTs_in zn82
       ·
        rcases Nat.lt_or_ge mi 84 with h8 | h8
        ·
         have e : mi = 83 := by omega
         subst e
         exact z_mck_ok zTs_in zn83
        ·
         rcases Nat.lt_or_ge mi 85 with h9 | h9
         ·
          have e : mi = 84 := by omega
          subst e
          exact z_mck_ok zTs_in zn84
         ·
          have e : mi = 85 := by omega
          subst e
          exact z_mck_ok zTs_in zn85
     ·
      rcases Nat.lt_or_ge mi 91 with h6 | h6
      ·
       rcases Nat.lt_or_ge mi 88 with h7 | h7
       ·
        rcases Nat.lt_or_ge mi 87 with h8 | h8
        ·
         have e : mi = 86 := by omega
         subst e
         exact z_mck_ok zTs_in zn86
        ·
         have e : mi = 87 := by omega
         subst e
         exact z_mck_ok zTs_in zn87
       ·
        rcases Nat.lt_or_ge mi 89 with h8 | h8
        ·
         have e : mi = 88 := by omega
         subst e
         exact z_mck_ok zTs_in zn88
        ·
         rcases Nat.lt_or_ge mi 90 with h9 | h9
         ·
          have e : mi = 89 := by omega
          subst e
          exact z_mck_ok zTs_in zn89
         ·
          have e : mi = 90 := by omega
          subst e
          exact z_mck_ok zTs_in zn90
      ·
       rcases Nat.lt_or_ge mi 93 with h7 | h7
       ·
        rcases Nat.lt_or_ge mi 92 with h8 | h8
        ·
         have e : mi = 91 := by omega
         subst e
         exact z_mck_ok zTs_in zn91
        ·
         have e : mi = 92 := by omega
         subst e
         exact z_mck_ok zTs_in zn92
       ·
        rcases Nat.lt_or_ge mi 94 with h8 | h8
        ·
         have e : mi = 93 := by omega
         subst e
         exact z_mck_ok zTs_in zn93
        ·
         rcases Nat.lt_or_ge mi 95 with h9 | h9
         ·
          have e : mi = 94 := by omega
          subst e
          exact z_mck_ok zTs_in zn94
         ·
          have e : mi = 95 := by omega
          subst e
          exact z_mck_ok zTs_in zn95
    ·
     rcases Nat.lt_or_ge mi 105 with h5 | h5
     ·
      rcases Nat.lt_or_ge mi 100 with h6 | h6
      ·
       rcases Nat.lt_or_ge mi 98 with h7 | h7
       ·
        rcases Nat.lt_or_ge mi 97 with h8 | h8
        ·
         have e : mi = 96 := by omega
         subst e
         exact z_mck_ok zTs_in zn96
        ·
         have e : mi = 97 := by omega
         subst e
         exact z_mck_ok zTs_in zn97
       ·
        rcases Nat.lt_or_ge mi 99 with h8 | h8
        ·
         have e : mi = 98 := by omega
         subst e
         exact z_mck_ok zTs_in zn98
        ·
         have e : mi = 99 := by omega
         subst e
         exact z_mck_ok zTs_in zn99
      ·
       rcases Nat.lt_or_ge mi 102 with h7 | h7
       ·
        rcases Nat.lt_or_ge mi 101 with h8 | h8
        ·
         have e : mi = 100 := by omega
         subst e
         exact z_mck_ok zTs_in zn100
        ·
         have e : mi = 101 := by omega
         subst e
         exact z_mck_ok zTs_in zn101
       ·
        rcases Nat.lt_or_ge mi 103 with h8 | h8
        ·
         have e : mi = 102 := by omega
         subst e
         exact z_mck_ok zTs_in zn102
        ·
         rcases Nat.lt_or_ge mi 104 with h9 | h9
         ·
          have e : mi = 103 := by omega
          subst e
          exact z_mck_ok zTs_in zn103
         ·
          have e : mi = 104 := by omega
          subst e
          exact z_mck_ok zTs_in zn104
     ·
      rcases Nat.lt_or_ge mi 110 with h6 | h6
      ·
       rcases Nat.lt_or_ge mi 107 with h7 | h7
       ·
        rcases Nat.lt_or_ge mi 106 with h8 | h8
        ·
         have e : mi = 105 := by omega
         subst e
         exact z_mck_ok zTs_in zn105
        ·
         have e : mi = 106 := by omega
         subst e
         exact z_mck_ok zTs_in zn106
       ·
        rcases Nat.lt_or_ge mi 108 with h8 | h8
        ·
         have e : mi = 107 := by omega
         subst e
         exact z_mck_ok zTs_in zn107
        ·
         rcases Nat.lt_or_ge mi 109 with h9 | h9
         ·
          have e : mi = 108 := by omega
          subst e
          exact z_mck_ok zTs_in zn108
         ·
          have e : mi = 109 := by omega
          subst e
          exact z_mck_ok zTs_in zn109
      ·
       rcases Nat.lt_or_ge mi 112 with h7 | h7
       ·
        rcases Nat.lt_or_ge mi 111 with h8 | h8
        ·
         have e : mi = 110 := by omega
         subst e
         exact z_mck_ok zTs_in zn110
        ·
         have e : mi = 111 := by omega
         subst e
         exact z_mck_ok zTs_in zn111
       ·
        rcases Nat.lt_or_ge mi 113 with h8 | h8
        ·
         have e : mi = 112 := by omega
         subst e
         exact z_mck_ok zTs_in zn112
        ·
         rcases Nat.lt_or_ge mi 114 with h9 | h9
         ·
          have e : mi = 113 := by omega
          subst e
          exact z_mck_ok zTs_in zn113
         ·
          have e : mi = 114 := by omega
          subst e
          exact z_mck_ok zTs_in zn114
   ·
    rcases Nat.lt_or_ge mi 134 with h4 | h4
    ·
     rcases Nat.lt_or_ge mi 124 with h5 | h5
     ·
      rcases Nat.lt_or_ge mi 119 with h6 | h6
      ·
       rcases Nat.lt_or_ge mi 117 with h7 | h7
       ·
        rcases Nat.lt_or_ge mi 116 with h8 | h8
        ·
         have e : mi = 115 := by omega
         subst e
         exact z_mck_ok zTs_in zn115
        ·
         have e : mi = 116 := by omega
         subst e
         exact z_mck_ok zTs_in zn116
       ·
        rcases Nat.lt_or_ge mi 118 with h8 | h8
        ·
         have e : mi = 117 := by omega
         subst e
         exact z_mck_ok zTs_in zn117
        ·
         have e : mi = 118 := by omega
         subst e
         exact z_mck_ok zTs_in zn118
      ·
       rcases Nat.lt_or_ge mi 121 with h7 | h7
       ·
        rcases Nat.lt_or_ge mi 120 with h8 | h8
        ·
         have e : mi = 119 := by omega
         subst e
         exact z_mck_ok zTs_in zn119
        ·
         have e : mi = 120 := by omega
         subst e
         exact z_mck_ok zTs_in zn120
       ·
        rcases Nat.lt_or_ge mi 122 with h8 | h8
        ·
         have e : mi = 121 := by omega
         subst e
         exact z_mck_ok zTs_in zn121
        ·
         rcases Nat.lt_or_ge mi 123 with h9 | h9
         ·
          have e : mi = 122 := by omega
          subst e
          exact z_mck_ok zTs_in zn122
         ·
          have e : mi = 123 := by omega
          subst e
          exact z_mck_ok zTs_in zn123
     ·
      rcases Nat.lt_or_ge mi 129 with h6 | h6
      ·
       rcases Nat.lt_or_ge mi 126 with h7 | h7
       ·
        rcases Nat.lt_or_ge mi 125 with h8 | h8
        ·
         have e : mi = 124 := by omega
         subst e
         exact z_mck_ok zTs_in zn124
        ·
         have e : mi = 125 := by omega
         subst e
         exact z_mck_ok zTs_in zn125
       ·
        rcases Nat.lt_or_ge mi 127 with h8 | h8
        ·
         have e : mi = 126 := by omega
         subst e
         exact z_mck_ok zTs_in zn126
        ·
         rcases Nat.lt_or_ge mi 128 with h9 | h9
         ·
          have e : mi = 127 := by omega
          subst e
          exact z_mck_ok zTs_in zn127
         ·
          have e : mi = 128 := by omega
          subst e
          exact z_mck_ok zTs_in zn128
      ·
       rcases Nat.lt_or_ge mi 131 with h7 | h7
       ·
        rcases Nat.lt_or_ge mi 130 with h8 | h8
        ·
         have e : mi = 129 := by omega
         subst e
         exact z_mck_ok zTs_in zn129
        ·
         have e : mi = 130 := by omega
         subst e
         exact z_mck_ok zTs_in zn130
       ·
        rcases Nat.lt_or_ge mi 132 with h8 | h8
        ·
         have e : mi = 131 := by omega
         subst e
         exact z_mck_ok zTs_in zn131
        ·
         rcases Nat.lt_or_ge mi 133 with h9 | h9
         ·
          have e : mi = 132 := by omega
          subst e
          exact z_mck_ok zTs_in zn132
         ·
          have e : mi = 133 := by omega
          subst e
          exact z_mck_ok zTs_in zn133
    ·
     rcases Nat.lt_or_ge mi 144 with h5 | h5
     ·
      rcases Nat.lt_or_ge mi 139 with h6 | h6
      ·
       rcases Nat.lt_or_ge mi 136 with h7 | h7
       ·
        rcases Nat.lt_or_ge mi 135 with h8 | h8
        ·
         have e : mi = 134 := by omega
         subst e
         exact z_mck_ok zTs_in zn134
        ·
         have e : mi = 135 := by omega
         subst e
         exact z_mck_ok zTs_in zn135
       ·
        rcases Nat.lt_or_ge mi 137 with h8 | h8
        ·
         have e : mi = 136 := by omega
         subst e
         exact z_mck_ok zTs_in zn136
        ·
         rcases Nat.lt_or_ge mi 138 with h9 | h9
         ·
          have e : mi = 137 := by omega
          subst e
          exact z_mck_ok zTs_in zn137
         ·
          have e : mi = 138 := by omega
          subst e
          exact z_mck_ok zTs_in zn138
      ·
       rcases Nat.lt_or_ge mi 141 with h7 | h7
       ·
        rcases Nat.lt_or_ge mi 140 with h8 | h8
        ·
         have e : mi = 139 := by omega
         subst e
         exact z_mck_ok zTs_in zn139
        ·
         have e : mi = 140 := by omega
         subst e
         exact z_mck_ok zTs_in zn140
       ·
        rcases Nat.lt_or_ge mi 142 with h8 | h8
        ·
         have e : mi = 141 := by omega
         subst e
         exact z_mck_ok zTs_in zn141
        ·
         rcases Nat.lt_or_ge mi 143 with h9 | h9
         ·
          have e : mi = 142 := by omega
          subst e
          exact z_mck_ok zTs_in zn142
         ·
          have e : mi = 143 := by omega
          subst e
          exact z_mck_ok zTs_in zn143
     ·
      rcases Nat.lt_or_ge mi 149 with h6 | h6
      ·
       rcases Nat.lt_or_ge mi 146 with h7 | h7
       ·
        rcases Nat.lt_or_ge mi 145 with h8 | h8
        ·
         have e : mi = 144 := by omega
         subst e
         exact z_mck_ok zTs_in zn144
        ·
         have e : mi = 145 := by omega
         subst e
         exact z_mck_ok zTs_in zn145
       ·
        rcases Nat.lt_or_ge mi 147 with h8 | h8
        ·
         have e : mi = 146 := by omega
         subst e
         exact z_mck_ok zTs_in zn146
        ·
         rcases Nat.lt_or_ge mi 148 with h9 | h9
         ·
          have e : mi = 147 := by omega
          subst e
          exact z_mck_ok zTs_in zn147
         ·
          have e : mi = 148 := by omega
          subst e
          exact z_mck_ok zTs_in zn148
      ·
       rcases Nat.lt_or_ge mi 151 with h7 | h7
       ·
        rcases Nat.lt_or_ge mi 150 with h8 | h8
        ·
         have e : mi = 149 := by omega
         subst e
         exact z_mck_ok zTs_in zn149
        ·
         have e : mi = 150 := by omega
         subst e
         exact z_mck_ok zTs_in zn150
       ·
        rcases Nat.lt_or_ge mi 152 with h8 | h8
        ·
         have e : mi = 151 := by omega
         subst e
         exact z_mck_ok zTs_in zn151
        ·
         rcases Nat.lt_or_ge mi 153 with h9 | h9
         ·
          have e : mi = 152 := by omega
          subst e
          exact z_mck_ok zTs_in zn152
         ·
          have e : mi = 153 := by omega
          subst e
          exact z_mck_ok zTs_in zn153
theorem z_co : ∀ mi, mi < znM → ∀ pc I, zC mi pc = some I → z_ck mi pc I = true := by
  intro mi hm
  have hm : mi < 154 := hm
  rcases Nat.lt_or_ge mi 77 with h2 | h2
  ·
   rcases Nat.lt_or_ge mi 38 with h3 | h3
   ·
    rcases Nat.lt_or_ge mi 19 with h4 | h4
    ·
     rcases Nat.lt_or_ge mi 9 with h5 | h5
     ·
      rcases Nat.lt_or_ge mi 4 with h6 | h6
      ·
       rcases Nat.lt_or_ge mi 2 with h7 | h7
       ·
        rcases Nat.lt_or_ge mi 1 with h8 | h8
        ·
         have e : mi = 0 := by omega
         subst e
         exact z_all_ok zk0 (fun pc h => (show zc0 pc = none from z_blt h))
        ·
         have e : mi = 1 := by omega
         subst e
         exact z_all_ok zk1 (fun pc h => (show zc1 pc = none from z_blt h))
       ·
        rcases Nat.lt_or_ge mi 3 with h8 | h8
        ·
         have e : mi = 2 := by omega
         subst e
         exact z_all_ok zk2 (fun pc h => (show zc2 pc = none from z_blt h))
        ·
         have e : mi = 3 := by omega
         subst e
         exact z_all_ok zk3 (fun pc h => (show zc3 pc = none from z_blt h))
      ·
       rcases Nat.lt_or_ge mi 6 with h7 | h7
       ·
        rcases Nat.lt_or_ge mi 5 with h8 | h8
        ·
         have e : mi = 4 := by omega
         subst e
         exact z_all_ok zk4 (fun pc h => (show zc4 pc = none from z_blt h))
        ·
         have e : mi = 5 := by omega
         subst e
         exact z_all_ok zk5 (fun pc h => (show zc5 pc = none from z_blt h))
       ·
        rcases Nat.lt_or_ge mi 7 with h8 | h8
        ·
         have e : mi = 6 := by omega
         subst e
         exact z_all_ok zk6 (fun pc h => (show zc6 pc = none from z_blt h))
        ·
         rcases Nat.lt_or_ge mi 8 with h9 | h9
         ·
          have e : mi = 7 := by omega
          subst e
          exact z_all_ok zk7 (fun pc h => (show zc7 pc = none from z_blt h))
         ·
          have e : mi = 8 := by omega
          subst e
          exact z_all_ok zk8 (fun pc h => (show zc8 pc = none from z_blt h))
     ·
      rcases Nat.lt_or_ge mi 14 with h6 | h6
      ·
       rcases Nat.lt_or_ge mi 11 with h7 | h7
       ·
        rcases Nat.lt_or_ge mi 10 with h8 | h8
        ·
         have e : mi = 9 := by omega
         subst e
         exact z_all_ok zk9 (fun pc h => (show zc9 pc = none from z_blt h))
        ·
         have e : mi = 10 := by omega
         subst e
         exact z_all_ok zk10 (fun pc h => (show zc10 pc = none from z_blt h))
       ·
        rcases Nat.lt_or_ge mi 12 with h8 | h8
        ·
         have e : mi = 11 := by omega
         subst e
         exact z_all_ok zk11 (fun pc h => (show zc11 pc = none from z_blt h))
        ·
         rcases Nat.lt_or_ge mi 13 with h9 | h9
         ·
          have e : mi = 12 := by omega
          subst e
          exact z_all_ok zk12 (fun pc h => (show zc12 pc = none from z_blt h))
         ·
          have e : mi = 13 := by omega
          subst e
          exact z_all_ok zk13 (fun pc h => (show zc13 pc = none from z_blt h))
      ·
       rcases Nat.lt_or_ge mi 16 with h7 | h7
       ·
        rcases Nat.lt_or_ge mi 15 with h8 | h8
        ·
         have e : mi = 14 := by omega
         subst e
         exact z_all_ok zk14 (fun pc h => (show zc14 pc = none from z_blt h))
        ·
         have e : mi = 15 := by omega
         subst e
         exact z_all_ok zk15 (fun pc h => (show zc15 pc = none from z_blt h))
       ·
        rcases Nat.lt_or_ge mi 17 with h8 | h8
        ·
         have e : mi = 16 := by omega
         subst e
         exact z_all_ok zk16 (fun pc h => (show zc16 pc = none from z_blt h))
        ·
         rcases Nat.lt_or_ge mi 18 with h9 | h9
         ·
          have e : mi = 17 := by omega
          subst e
          exact z_all_ok zk17 (fun pc h => (show zc17 pc = none from z_blt h))
         ·
          have e : mi = 18 := by omega
          subst e
          exact z_all_ok zk18 (fun pc h => (show zc18 pc = none from z_blt h))
    ·
     rcases Nat.lt_or_ge mi 28 with h5 | h5
     ·
      rcases Nat.lt_or_ge mi 23 with h6 | h6
      ·
       rcases Nat.lt_or_ge mi 21 with h7 | h7
       ·
        rcases Nat.lt_or_ge mi 20 with h8 | h8
        ·
         have e : mi = 19 := by omega
         subst e
         exact z_all_ok zk19 (fun pc h => (show zc19 pc = none from z_blt h))
        ·
         have e : mi = 20 := by omega
         subst e
         exact z_all_ok zk20 (fun pc h => (show zc20 pc = none from z_blt h))
       ·
        rcases Nat.lt_or_ge mi 22 with h8 | h8
        ·
         have e : mi = 21 := by omega
         subst e
         exact z_all_ok zk21 (fun pc h => (show zc21 pc = none from z_blt h))
        ·
         have e : mi = 22 := by omega
         subst e
         exact z_all_ok zk22 (fun pc h => (show zc22 pc = none from z_blt h))
      ·
       rcases Nat.lt_or_ge mi 25 with h7 | h7
       ·
        rcases Nat.lt_or_ge mi 24 with h8 | h8
        ·
         have e : mi = 23 := by omega
         subst e
         exact z_all_ok zk23 (fun pc h => (show zc23 pc = none from z_blt h))
        ·
         have e : mi = 24 := by omega
         subst e
         exact z_all_ok zk24 (fun pc h => (show zc24 pc = none from z_blt h))
       ·
        rcases Nat.lt_or_ge mi 26 with h8 | h8
        ·
         have e : mi = 25 := by omega
         subst e
         exact z_all_ok zk25 (fun pc h => (show zc25 pc = none from z_blt h))
        ·
         rcases Nat.lt_or_ge mi 27 with h9 | h9
         ·
          have e : mi = 26 := by omega
          subst e
          exact z_all_ok zk26 (fun pc h => (show zc26 pc = none from z_blt h))
         ·
          have e : mi = 27 := by omega
          subst e
          exact z_all_ok zk27 (fun pc h => (show zc27 pc = none from z_blt h))
     ·
      rcases Nat.lt_or_ge mi 33 with h6 | h6
      ·
       rcases Nat.lt_or_ge mi 30 with h7 | h7
       ·
        rcases Nat.lt_or_ge mi 29 with h8 | h8
        ·
         have e : mi = 28 := by omega
         subst e
         exact z_all_ok zk28 (fun pc h => (show zc28 pc = none from z_blt h))
        ·
         have e : mi = 29 := by omega
         subst e
         exact z_all_ok zk29 (fun pc h => (show zc29 pc = none from z_blt h))
       ·
        rcases Nat.lt_or_ge mi 31 with h8 | h8
        ·
         have e : mi = 30 := by omega
         subst e
         exact z_all_ok zk30 (fun pc h => (show zc30 pc = none from z_blt h))
        ·
         rcases Nat.lt_or_ge mi 32 with h9 | h9
         ·
          have e : mi = 31 := by omega
          subst e
          exact z_all_ok zk31 (fun pc h => (show zc31 pc = none from z_blt h))
         ·
          have e : mi = 32 := by omega
          subst e
          exact z_all_ok zk32 (fun pc h => (show zc32 pc = none from z_blt h))
      ·
       rcases Nat.lt_or_ge mi 35 with h7 | h7
       ·
        rcases Nat.lt_or_ge mi 34 with h8 | h8
        ·
         have e : mi = 33 := by omega
         subst e
         exact z_all_ok zk33 (fun pc h => (show zc33 pc = none from z_blt h))
        ·
         have e : mi = 34 := by omega
         subst e
         exact z_all_ok zk34 (fun pc h => (show zc34 pc = none from z_blt h))
       ·
        rcases Nat.lt_or_ge mi 36 with h8 | h8
        ·
         have e : mi = 35 := by omega
         subst e
         exact z_all_ok zk35 (fun pc h => (show zc35 pc = none from z_blt h))
        ·
         rcases Nat.lt_or_ge mi 37 with h9 | h9
         ·
          have e : mi = 36 := by omega
          subst e
          exact z_all_ok zk36 (fun pc h => (show zc36 pc = none from z_blt h))
         ·
          have e : mi = 37 := by omega
          subst e
          exact z_all_ok zk37 (fun pc h => (show zc37 pc = none from z_blt h))
   ·
    rcases Nat.lt_or_ge mi 57 with h4 | h4
    ·
     rcases Nat.lt_or_ge mi 47 with h5 | h5
     ·
      rcases Nat.lt_or_ge mi 42 with h6 | h6
      ·
       rcases Nat.lt_or_ge mi 40 with h7 | h7
       ·
        rcases Nat.lt_or_ge mi 39 with h8 | h8
        ·
         have e : mi = 38 := by omega
         subst e
         exact z_all_ok zk38 (fun pc h => (show zc38 pc = none from z_blt h))
        ·
         have e : mi = 39 := by omega
         subst e
         exact z_all_ok zk39 (fun pc h => (show zc39 pc = none from z_blt h))
       ·
        rcases Nat.lt_or_ge mi 41 with h8 | h8
        ·
         have e : mi = 40 := by omega
         subst e
         exact z_all_ok zk40 (fun pc h => (show zc40 pc = none from z_blt h))
        ·
         have e : mi = 41 := by omega
         subst e
         exact z_all_ok zk41 (fun pc h => (show zc41 pc = none from z_blt h))
      ·
       rcases Nat.lt_or_ge mi 44 with h7 | h7
       ·
        rcases Nat.lt_or_ge mi 43 with h8 | h8
        ·
         have e : mi = 42 := by omega
         subst e
         exact z_all_ok zk42 (fun pc h => (show zc42 pc = none from z_blt h))
        ·
         have e : mi = 43 := by omega
         subst e
         exact z_all_ok zk43 (fun pc h => (show zc43 pc = none from z_blt h))
       ·
        rcases Nat.lt_or_ge mi 45 with h8 | h8
        ·
         have e : mi = 44 := by omega
         subst e
         exact z_all_ok zk44 (fun pc h => (show zc44 pc = none from z_blt h))
        ·
         rcases Nat.lt_or_ge mi 46 with h9 | h9
         ·
          have e : mi = 45 := by omega
          subst e
          exact z_all_ok zk45 (fun pc h => (show zc45 pc = none from z_blt h))
         ·
          have e : mi = 46 := by omega
          subst e
          exact z_all_ok zk46 (fun pc h => (show zc46 pc = none from z_blt h))
     ·
      rcases Nat.lt_or_ge mi 52 with h6 | h6
      ·
       rcases Nat.lt_or_ge mi 49 with h7 | h7
       ·
        rcases Nat.lt_or_ge mi 48 with h8 | h8
        ·
         have e : mi = 47 := by omega
         subst e
         exact z_all_ok zk47 (fun pc h => (show zc47 pc = none from z_blt h))
        ·
         have e : mi = 48 := by omega
         subst e
         exact z_all_ok zk48 (fun pc h => (show zc48 pc = none from z_blt h))
       ·
        rcases Nat.lt_or_ge mi 50 with h8 | h8
        ·
         have e : mi = 49 := by omega
         subst e
         exact z_all_ok zk49 (fun pc h => (show zc49 pc = none from z_blt h))
        ·
         rcases Nat.lt_or_ge mi 51 with h9 | h9
         ·
          have e : mi = 50 := by omega
          subst e
          exact z_all_ok zk50 (fun pc h => (show zc50 pc = none from z_blt h))
         ·
          have e : mi = 51 := by omega
          subst e
          exact z_all_ok zk51 (fun pc h => (show zc51 pc = none from z_blt h))
      ·
       rcases Nat.lt_or_ge mi 54 with h7 | h7
       ·
        rcases Nat.lt_or_ge mi 53 with h8 | h8
        ·
         have e : mi = 52 := by omega
         subst e
         exact z_all_ok zk52 (fun pc h => (show zc52 pc = none from z_blt h))
        ·
         have e : mi = 53 := by omega
         subst e
         exact z_all_ok zk53 (fun pc h => (show zc53 pc = none from z_blt h))
       ·
        rcases Nat.lt_or_ge mi 55 with h8 | h8
        ·
         have e : mi = 54 := by omega
         subst e
         exact z_all_ok zk54 (fun pc h => (show zc54 pc = none from z_blt h))
        ·
         rcases Nat.lt_or_ge mi 56 with h9 | h9
         ·
          have e : mi = 55 := by omega
          subst e
          exact z_all_ok zk55 (fun pc h => (show zc55 pc = none from z_blt h))
         ·
          have e : mi = 56 := by omega
          subst e
          exact z_all_ok zk56 (fun pc h => (show zc56 pc = none from z_blt h))
    ·
     rcases Nat.lt_or_ge mi 67 with h5 | h5
     ·
      rcases Nat.lt_or_ge mi 62 with h6 | h6
      ·
       rcases Nat.lt_or_ge mi 59 with h7 | h7
       ·
        rcases Nat.lt_or_ge mi 58 with h8 | h8
        ·
         have e : mi = 57 := by omega
         subst e
         exact z_all_ok zk57 (fun pc h => (show zc57 pc = none from z_blt h))
        ·
         have e : mi = 58 := by omega
         subst e
         exact z_all_ok zk58 (fun pc h => (show zc58 pc = none from z_blt h))
       ·
        rcases Nat.lt_or_ge mi 60 with h8 | h8
        ·
         have e : mi = 59 := by omega
         subst e
         exact z_all_ok zk59 (fun pc h => (show zc59 pc = none from z_blt h))
        ·
         rcases Nat.lt_or_ge mi 61 with h9 | h9
         ·
          have e : mi = 60 := by omega
          subst e
          exact z_all_ok zk60 (fun pc h => (show zc60 pc = none from z_blt h))
         ·
          have e : mi = 61 := by omega
          subst e
          exact z_all_ok zk61 (fun pc h => (show zc61 pc = none from z_blt h))
      ·
       rcases Nat.lt_or_ge mi 64 with h7 | h7
       ·
        rcases Nat.lt_or_ge mi 63 with h8 | h8
        ·
         have e : mi = 62 := by omega
         subst e
         exact z_all_ok zk62 (fun pc h => (show zc62 pc = none from z_blt h))
        ·
         have e : mi = 63 := by omega
         subst e
         exact z_all_ok zk63 (fun pc h => (show zc63 pc = none from z_blt h))
       ·
        rcases Nat.lt_or_ge mi 65 with h8 | h8
        ·
         have e : mi = 64 := by omega
         subst e
         exact z_all_ok zk64 (fun pc h => (show zc64 pc = none from z_blt h))
        ·
         rcases Nat.lt_or_ge mi 66 with h9 | h9
         ·
          have e : mi = 65 := by omega
          subst e
          exact z_all_ok zk65 (fun pc h => (show zc65 pc = none from z_blt h))
         ·
          have e : mi = 66 := by omega
          subst e
          exact z_all_ok zk66 (fun pc h => (show zc66 pc = none from z_blt h))
     ·
      rcases Nat.lt_or_ge mi 72 with h6 | h6
      ·
       rcases Nat.lt_or_ge mi 69 with h7 | h7
       ·
        rcases Nat.lt_or_ge mi 68 with h8 | h8
        ·
         have e : mi = 67 := by omega
         subst e
         exact z_all_ok zk67 (fun pc h => (show zc67 pc = none from z_blt h))
        ·
         have e : mi = 68 := by omega
         subst e
         exact z_all_ok zk68 (fun pc h => (show zc68 pc = none from z_blt h))
       ·
        rcases Nat.lt_or_ge mi 70 with h8 | h8
        ·
         have e : mi = 69 := by omega
         subst e
         exact z_all_ok zk69 (fun pc h => (show zc69 pc = none from z_blt h))
        ·
         rcases Nat.lt_or_ge mi 71 with h9 | h9
         ·
          have e : mi = 70 := by omega
          subst e
          exact z_all_ok zk70 (fun pc h => (show zc70 pc = none from z_blt h))
         ·
          have e : mi = 71 := by omega
          subst e
          exact z_all_ok zk71 (fun pc h => (show zc71 pc = none from z_blt h))
      ·
       rcases Nat.lt_or_ge mi 74 with h7 | h7
       ·
        rcases Nat.lt_or_ge mi 73 with h8 | h8
        ·
         have e : mi = 72 := by omega
         subst e
         exact z_all_ok zk72 (fun pc h => (show zc72 pc = none from z_blt h))
        ·
         have e : mi = 73 := by omega
         subst e
         exact z_all_ok zk73 (fun pc h => (show zc73 pc = none from z_blt h))
       ·
        rcases Nat.lt_or_ge mi 75 with h8 | h8
        ·
         have e : mi = 74 := by omega
         subst e
         exact z_all_ok zk74 (fun pc h => (show zc74 pc = none from z_blt h))
        ·
         rcases Nat.lt_or_ge mi 76 with h9 | h9
         ·
          have e : mi = 75 := by omega
          subst e
          exact z_all_ok zk75 (fun pc h => (show zc75 pc = none from z_blt h))
         ·
          have e : mi = 76 := by omega
          subst e
          exact z_all_ok zk76 (fun pc h => (show zc76 pc = none from z_blt h))
  ·
   rcases Nat.lt_or_ge mi 115 with h3 | h3
   ·
    rcases Nat.lt_or_ge mi 96 with h4 | h4
    ·
     rcases Nat.lt_or_ge mi 86 with h5 | h5
     ·
      rcases Nat.lt_or_ge mi 81 with h6 | h6
      ·
       rcases Nat.lt_or_ge mi 79 with h7 | h7
       ·
        rcases Nat.lt_or_ge mi 78 with h8 | h8
        ·
         have e : mi = 77 := by omega
         subst e
         exact z_all_ok zk77 (fun pc h => (show zc77 pc = none from z_blt h))
        ·
         have e : mi = 78 := by omega
         subst e
         exact z_all_ok zk78 (fun pc h => (show zc78 pc = none from z_blt h))
       ·
        rcases Nat.lt_or_ge mi 80 with h8 | h8
        ·
         have e : mi = 79 := by omega
         subst e
         exact z_all_ok zk79 (fun pc h => (show zc79 pc = none from z_blt h))
        ·
         have e : mi = 80 := by omega
         subst e
         exact z_all_ok zk80 (fun pc h => (show zc80 pc = none from z_blt h))
      ·
       rcases Nat.lt_or_ge mi 83 with h7 | h7
       ·
        rcases Nat.lt_or_ge mi 82 with h8 | h8
        ·
         have e : mi = 81 := by omega
         subst e
         exact z_all_ok zk81 (fun pc h => (show zc81 pc = none from z_blt h))
        ·
         have e : mi = 82 := by omega
         subst e
         exact z_all_ok zk82 (fun pc h => (show zc82 pc = none from z_blt h))
       ·
        rcases Nat.lt_or_ge mi 84 with h8 | h8
        ·
         have e : mi = 83 := by omega
         subst e
         exact z_all_ok zk83 (fun pc h => (show zc83 pc = none from z_blt h))
        ·
         rcases Nat.lt_or_ge mi 85 with h9 | h9
         ·
          have e : mi = 84 := by omega
          subst e
          exact z_all_ok zk84 (fun pc h => (show zc84 pc = none from z_blt h))
         ·
          have e : mi = 85 := by omega
          subst e
          exact z_all_ok zk85 (fun pc h => (show zc85 pc = none from z_blt h))
     ·
      rcases Nat.lt_or_ge mi 91 with h6 | h6
      ·
       rcases Nat.lt_or_ge mi 88 with h7 | h7
       ·
        rcases Nat.lt_or_ge mi 87 with h8 | h8
        ·
         have e : mi = 86 := by omega
         subst e
         exact z_all_ok zk86 (fun pc h => (show zc86 pc = none from z_blt h))
        ·
         have e : mi = 87 := by omega
         subst e
         exact z_all_ok zk87 (fun pc h => (show zc87 pc = none from z_blt h))
       ·
        rcases Nat.lt_or_ge mi 89 with h8 | h8
        ·
         have e : mi = 88 := by omega
         subst e
         exact z_all_ok zk88 (fun pc h => (show zc88 pc = none from z_blt h))
        ·
         rcases Nat.lt_or_ge mi 90 with h9 | h9
         ·
          have e : mi = 89 := by omega
          subst e
          exact z_all_ok zk89 (fun pc h => (show zc89 pc = none from z_blt h))
         ·
          have e : mi = 90 := by omega
          subst e
          exact z_all_ok zk90 (fun pc h => (show zc90 pc = none from z_blt h))
      ·
       rcases Nat.lt_or_ge mi 93 with h7 | h7
       ·
        rcases Nat.lt_or_ge mi 92 with h8 | h8
        ·
         have e : mi = 91 := by omega
         subst e
         exact z_all_ok zk91 (fun pc h => (show zc91 pc = none from z_blt h))
        ·
         have e : mi = 92 := by omega
         subst e
         exact z_all_ok zk92 (fun pc h => (show zc92 pc = none from z_blt h))
       ·
        rcases Nat.lt_or_ge mi 94 with h8 | h8
        ·
         have e : mi = 93 := by omega
         subst e
         exact z_all_ok zk93 (fun pc h => (show zc93 pc = none from z_blt h))
        ·
         rcases Nat.lt_or_ge mi 95 with h9 | h9
         ·
          have e : mi = 94 := by omega
          subst e
          exact z_all_ok zk94 (fun pc h => (show zc94 pc = none from z_blt h))
         ·
          have e : mi = 95 := by omega
          subst e
          exact z_all_ok zk95 (fun pc h => (show zc95 pc = none from z_blt h))
    ·
     rcases Nat.lt_or_ge mi 105 with h5 | h5
     ·
      rcases Nat.lt_or_ge mi 100 with h6 | h6
      ·
       rcases Nat.lt_or_ge mi 98 with h7 | h7
       ·
        rcases Nat.lt_or_ge mi 97 with h8 | h8
        ·
         have e : mi = 96 := by omega
         subst e
         exact z_all_ok zk96 (fun pc h => (show zc96 pc = none from z_blt h))
        ·
         have e : mi = 97 := by omega
         subst e
         exact z_all_ok zk97 (fun pc h => (show zc97 pc = none from z_blt h))
       ·
        rcases Nat.lt_or_ge mi 99 with h8 | h8
        ·
         have e : mi = 98 := by omega
         subst e
         exact z_all_ok zk98 (fun pc h => (show zc98 pc = none from z_blt h))
        ·
         have e : mi = 99 := by omega
         subst e
         exact z_all_ok zk99 (fun pc h => (show zc99 pc = none from z_blt h))
      ·
       rcases Nat.lt_or_ge mi 102 with h7 | h7
       ·
        rcases Nat.lt_or_ge mi 101 with h8 | h8
        ·
         have e : mi = 100 := by omega
         subst e
         exact z_all_ok zk100 (fun pc h => (show zc100 pc = none from z_blt h))
        ·
         have e : mi = 101 := by omega
         subst e
         exact z_all_ok zk101 (fun pc h => (show zc101 pc = none from z_blt h))
       ·
        rcases Nat.lt_or_ge mi 103 with h8 | h8
        ·
         have e : mi = 102 := by omega
         subst e
         exact z_all_ok zk102 (fun pc h => (show zc102 pc = none from z_blt h))
        ·
         rcases Nat.lt_or_ge mi 104 with h9 | h9
         ·
          have e : mi = 103 := by omega
          subst e
          exact z_all_ok zk103 (fun pc h => (show zc103 pc = none from z_blt h))
         ·
          have e : mi = 104 := by omega
          subst e
          exact z_all_ok zk104 (fun pc h => (show zc104 pc = none from z_blt h))
     ·
      rcases Nat.lt_or_ge mi 110 with h6 | h6
      ·
       rcases Nat.lt_or_ge mi 107 with h7 | h7
       ·
        rcases Nat.lt_or_ge mi 106 with h8 | h8
        ·
         have e : mi = 105 := by omega
         subst e
         exact z_all_ok zk105 (fun pc h => (show zc105 pc = none from z_blt h))
        ·
         have e : mi = 106 := by omega
         subst e
         exact z_all_ok zk106 (fun pc h => (show zc106 pc = none from z_blt h))
       ·
        rcases Nat.lt_or_ge mi 108 with h8 | h8
        ·
         have e : mi = 107 := by omega
         subst e
         exact z_all_ok zk107 (fun pc h => (show zc107 pc = none from z_blt h))
        ·
         rcases Nat.lt_or_ge mi 109 with h9 | h9
         ·
          have e : mi = 108 := by omega
          subst e
          exact z_all_ok zk108 (fun pc h => (show zc108 pc = none from z_blt h))
         ·
          have e : mi = 109 := by omega
          subst e
          exact z_all_ok zk109 (fun pc h => (show zc109 pc = none from z_blt h))
      ·
       rcases Nat.lt_or_ge mi 112 with h7 | h7
       ·
        rcases Nat.lt_or_ge mi 111 with h8 | h8
        ·
         have e : mi = 110 := by omega
         subst e
         exact z_all_ok zk110 (fun pc h => (show zc110 pc = none from z_blt h))
        ·
         have e : mi = 111 := by omega
         subst e
         exact z_all_ok zk111 (fun pc h => (show zc111 pc = none from z_blt h))
       ·
        rcases Nat.lt_or_ge mi 113 with h8 | h8
        ·
         have e : mi = 112 := by omega
         subst e
         exact z_all_ok zk112 (fun pc h => (show zc112 pc = none from z_blt h))
        ·
         rcases Nat.lt_or_ge mi 114 with h9 | h9
         ·
          have e : mi = 113 := by omega
          subst e
          exact z_all_ok zk113 (fun pc h => (show zc113 pc = none from z_blt h))
         ·
          have e : mi = 114 := by omega
          subst e
          exact z_all_ok zk114 (fun pc h => (show zc114 pc = none from z_blt h))
   ·
    rcases Nat.lt_or_ge mi 134 with h4 | h4
    ·
     rcases Nat.lt_or_ge mi 124 with h5 | h5
     ·
      rcases Nat.lt_or_ge mi 119 with h6 | h6
      ·
       rcases Nat.lt_or_ge mi 117 with h7 | h7
       ·
        rcases Nat.lt_or_ge mi 116 with h8 | h8
        ·
         have e : mi = 115 := by omega
         subst e
         exact z_all_ok zk115 (fun pc h => (show zc115 pc = none from z_blt h))
        ·
         have e : mi = 116 := by omega
         subst e
         exact z_all_ok zk116 (fun pc h => (show zc116 pc = none from z_blt h))
       ·
        rcases Nat.lt_or_ge mi 118 with h8 | h8
        ·
         have e : mi = 117 := by omega
         subst e
         exact z_all_ok zk117 (fun pc h => (show zc117 pc = none from z_blt h))
        ·
         have e : mi = 118 := by omega
         subst e
         exact z_all_ok zk118 (fun pc h => (show zc118 pc = none from z_blt h))
      ·
       rcases Nat.lt_or_ge mi 121 with h7 | h7
       ·
        rcases Nat.lt_or_ge mi 120 with h8 | h8
        ·
         have e : mi = 119 := by omega
         subst e
         exact z_all_ok zk119 (fun pc h => (show zc119 pc = none from z_blt h))
        ·
         have e : mi = 120 := by omega
         subst e
         exact z_all_ok zk120 (fun pc h => (show zc120 pc = none from z_blt h))
       ·
        rcases Nat.lt_or_ge mi 122 with h8 | h8
        ·
         have e : mi = 121 := by omega
         subst e
         exact z_all_ok zk121 (fun pc h => (show zc121 pc = none from z_blt h))
        ·
         rcases Nat.lt_or_ge mi 123 with h9 | h9
         ·
          have e : mi = 122 := by omega
          subst e
          exact z_all_ok zk122 (fun pc h => (show zc122 pc = none from z_blt h))
         ·
          have e : mi = 123 := by omega
          subst e
          exact z_all_ok zk123 (fun pc h => (show zc123 pc = none from z_blt h))
     ·
      rcases Nat.lt_or_ge mi 129 with h6 | h6
      ·
       rcases Nat.lt_or_ge mi 126 with h7 | h7
       ·
        rcases Nat.lt_or_ge mi 125 with h8 | h8
        ·
         have e : mi = 124 := by omega
         subst e
         exact z_all_ok zk124 (fun pc h => (show zc124 pc = none from z_blt h))
        ·
         have e : mi = 125 := by omega
         subst e
         exact z_all_ok zk125 (fun pc h => (show zc125 pc = none from z_blt h))
       ·
        rcases Nat.lt_or_ge mi 127 with h8 | h8
        ·
         have e : mi = 126 := by omega
         subst e
         exact z_all_ok zk126 (fun pc h => (show zc126 pc = none from z_blt h))
        ·
         rcases Nat.lt_or_ge mi 128 with h9 | h9
         ·
          have e : mi = 127 := by omega
          subst e
          exact z_all_ok zk127 (fun pc h => (show zc127 pc = none from z_blt h))
         ·
          have e : mi = 128 := by omega
          subst e
          exact z_all_ok zk128 (fun pc h => (show zc128 pc = none from z_blt h))
      ·
       rcases Nat.lt_or_ge mi 131 with h7 | h7
       ·
        rcases Nat.lt_or_ge mi 130 with h8 | h8
        ·
         have e : mi = 129 := by omega
         subst e
         exact z_all_ok zk129 (fun pc h => (show zc129 pc = none from z_blt h))
        ·
         have e : mi = 130 := by omega
         subst e
         exact z_all_ok zk130 (fun pc h => (show zc130 pc = none from z_blt h))
       ·
        rcases Nat.lt_or_ge mi 132 with h8 | h8
        ·
         have e : mi = 131 := by omega
         subst e
         exact z_all_ok zk131 (fun pc h => (show zc131 pc = none from z_blt h))
        ·
         rcases Nat.lt_or_ge mi 133 with h9 | h9
         ·
          have e : mi = 132 := by omega
          subst e
          exact z_all_ok zk132 (fun pc h => (show zc132 pc = none from z_blt h))
         ·
          have e : mi = 133 := by omega
          subst e
          exact z_all_ok zk133 (fun pc h => (show zc133 pc = none from z_blt h))
    ·
     rcases Nat.lt_or_ge mi 144 with h5 | h5
     ·
      rcases Nat.lt_or_ge mi 139 with h6 | h6
      ·
       rcases Nat.lt_or_ge mi 136 with h7 | h7
       ·
        rcases Nat.lt_or_ge mi 135 with h8 | h8
        ·
         have e : mi = 134 := by omega
         subst e
         exact z_all_ok zk134 (fun pc h => (show zc134 pc = none from z_blt h))
        ·
         have e : mi = 135 := by omega
         subst e
         exact z_all_ok zk135 (fun pc h => (show zc135 pc = none from z_blt h))
       ·
        rcases Nat.lt_or_ge mi 137 with h8 | h8
        ·
         have e : mi = 136 := by omega
         subst e
         exact z_all_ok zk136 (fun pc h => (show zc136 pc = none from z_blt h))
        ·
         rcases Nat.lt_or_ge mi 138 with h9 | h9
         ·
          have e : mi = 137 := by omega
          subst e
          exact z_all_ok zk137 (fun pc h => (show zc137 pc = none from z_blt h))
         ·
          have e : mi = 138 := by omega
          subst e
          exact z_all_ok zk138 (fun pc h => (show zc138 pc = none from z_blt h))
      ·
       rcases Nat.lt_or_ge mi 141 with h7 | h7
       ·
        rcases Nat.lt_or_ge mi 140 with h8 | h8
        ·
         have e : mi = 139 := by omega
         subst e
         exact z_all_ok zk139 (fun pc h => (show zc139 pc = none from z_blt h))
        ·
         have e : mi = 140 := by omega
         subst e
         exact z_all_ok zk140 (fun pc h => (show zc140 pc = none from z_blt h))
       ·
        rcases Nat.lt_or_ge mi 142 with h8 | h8
        ·
         have e : mi = 141 := by omega
         subst e
         exact z_all_ok zk141 (fun pc h => (show zc141 pc = none from z_blt h))
        ·
         rcases Nat.lt_or_ge mi 143 with h9 | h9
         ·
          have e : mi = 142 := by omega
          subst e
          exact z_all_ok zk142 (fun pc h => (show zc142 pc = none from z_blt h))
         ·
          have e : mi = 143 := by omega
          subst e
          exact z_all_ok zk143 (fun pc h => (show zc143 pc = none from z_blt h))
     ·
      rcases Nat.lt_or_ge mi 149 with h6 | h6
      ·
       rcases Nat.lt_or_ge mi 146 with h7 | h7
       ·
        rcases Nat.lt_or_ge mi 145 with h8 | h8
        ·
         have e : mi = 144 := by omega
         subst e
         exact z_all_ok zk144 (fun pc h => (show zc144 pc = none from z_blt h))
        ·
         have e : mi = 145 := by omega
         subst e
         exact z_all_ok zk145 (fun pc h => (show zc145 pc = none from z_blt h))
       ·
        rcases Nat.lt_or_ge mi 147 with h8 | h8
        ·
         have e : mi = 146 := by omega
         subst e
         exact z_all_ok zk146 (fun pc h => (show zc146 pc = none from z_blt h))
        ·
         rcases Nat.lt_or_ge mi 148 with h9 | h9
         ·
          have e : mi = 147 := by omega
          subst e
          exact z_all_ok zk147 (fun pc h => (show zc147 pc = none from z_blt h))
         ·
          have e : mi = 148 := by omega
          subst e
          exact z_all_ok zk148 (fun pc h => (show zc148 pc = none from z_blt h))
      ·
       rcases Nat.lt_or_ge mi 151 with h7 | h7
       ·
        rcases Nat.lt_or_ge mi 150 with h8 | h8
        ·
         have e : mi = 149 := by omega
         subst e
         exact z_all_ok zk149 (fun pc h => (show zc149 pc = none from z_blt h))
        ·
         have e : mi = 150 := by omega
         subst e
         exact z_all_ok zk150 (fun pc h => (show zc150 pc = none from z_blt h))
       ·
        rcases Nat.lt_or_ge mi 152 with h8 | h8
        ·
         have e : mi = 151 := by omega
         subst e
         exact z_all_ok zk151 (fun pc h => (show zc151 pc = none from z_blt h))
        ·
         rcases Nat.lt_or_ge mi 153 with h9 | h9
         ·
          have e : mi = 152 := by omega
          subst e
          exact z_all_ok zk152 (fun pc h => (show zc152 pc = none from z_blt h))
         ·
          have e : mi = 153 := by omega
          subst e
          exact z_all_ok zk153 (fun pc h => (show zc153 pc = none from z_blt h))
theorem z_okC {ad : z_N → Nat} {cA : Nat → ClassId} {tys : List (ClassId × FieldType)} {A : Nat → Prop} (h1 : tys[0]? = some (cA 0, .int)) (h2 : tys[1]? = some (cA 1, .long)) (h3 : tys[2]? = some (cA 2, .object "PrintHouse$Job")) (hD : ∀ w, va_D A (z_ws sC zfk ad cA w)) : z_OK sC zfk ad cA zcl tys A zTs lw_tbl zNs "PrintHouse$Job" "PrintHouse" znM zM zC :=
  ⟨⟨zTs_in, zNs_in⟩, zTs_good, zNs_on, zNs_mv, ⟨sCn_nd, sCr_in⟩, ⟨fun _ _ => h1, fun _ _ => h2, fun _ _ => h3⟩, z_clok, fun _ _ _ _ _ _ => hD, z_mo, fun mi pc I hm hC => z_co mi hm pc I hC⟩
theorem z_okR {ad : z_N → Nat} {cA : Nat → ClassId} {tys : List (ClassId × FieldType)} {A : Nat → Prop} (h1 : tys[0]? = some (cA 0, .int)) (h2 : tys[1]? = some (cA 1, .long)) (h3 : tys[2]? = some (cA 2, .object "PrintHouse$Job")) (hD : ∀ w, va_D A (z_ws sR zfk ad cA w)) : z_OK sR zfk ad cA zcl tys A zTs lw_tbl zNs "PrintHouse$Job" "PrintHouse" znM zM zC :=
  ⟨⟨zTs_in, zNs_in⟩, zTs_good, zNs_on, zNs_mv, ⟨sRn_nd, sRr_in⟩, ⟨fun _ _ => h1, fun _ _ => h2, fun _ _ => h3⟩, z_clok, fun _ _ _ _ _ _ => hD, z_mo, fun mi pc I hm hC => z_co mi hm pc I hC⟩
/-- the codes without what writes -/
def zCr (mi pc : Nat) : Option z_I := match zC mi pc with
  | none => none
  | some I => cond (z_isw I) none (some I)
theorem zCr_in {mi pc : Nat} {I : z_I} (h : zCr mi pc = some I) : zC mi pc = some I ∧ z_isw I = false := by
  unfold zCr at h
  split at h
  · cases h
  · rename_i J hJ
    cases hw : z_isw J with
    | true => rw [hw] at h; cases h
    | false =>
      rw [hw] at h
      cases h
      exact ⟨hJ, hw⟩
theorem z_okCr {ad : z_N → Nat} {cA : Nat → ClassId} {tys : List (ClassId × FieldType)} {A : Nat → Prop} (h1 : tys[0]? = some (cA 0, .int)) (h2 : tys[1]? = some (cA 1, .long)) (h3 : tys[2]? = some (cA 2, .object "PrintHouse$Job")) : z_OK sC zfk ad cA zcl tys A zTs lw_tbl zNs "PrintHouse$Job" "PrintHouse" znM zM zCr :=
  ⟨⟨zTs_in, zNs_in⟩, zTs_good, zNs_on, zNs_mv, ⟨sCn_nd, sCr_in⟩, ⟨fun _ _ => h1, fun _ _ => h2, fun _ _ => h3⟩, z_clok, fun mi pc I _ hC hw => (by rw [(zCr_in hC).2] at hw; cases hw), z_mo, fun mi pc I hm hC => z_co mi hm pc I (zCr_in hC).1⟩
end
section
/-! a second machine, for constructors: cells are made one behind the other, from an address on -/
abbrev y_E : Type := (Nat × List z_V) ⊕ Nat ⊕ Nat ⊕ List (Option Nat)
abbrev y_H : Type := List y_E
abbrev y_F : Type := Nat × z_L × List z_V × y_H
def y_ad (b : Nat) (o : z_N) : Nat := b + o.2
def y_cell (b : Nat) (cA : Nat → ClassId) (e : y_E) : va_E := match e with
  | .inl (ci, fs) => .inr (ci, fs.map (z_v (y_ad b)))
  | .inr (.inl n) => .inl (cA 0, n, .inl (fun _ => 0))
  | .inr (.inr (.inl n)) => .inl (cA 1, n, .inr (.inl (fun _ => 0)))
  | .inr (.inr (.inr l)) => .inl (cA 2, l.length, .inr (.inr (.inr (.inr (fun j => (l.getD j none).map (fun o => b + o))))))
def y_ws (b : Nat) (cA : Nat → ClassId) (h : y_H) : va_W := (List.range h.length).map (fun o => (b + o, y_cell b cA (h.getD o (.inr (.inl 0)))))
def y_sl (e : y_E) : Nat := match e with
  | .inl (_, fs) => fs.length
  | .inr (.inl n) => n
  | .inr (.inr (.inl n)) => n
  | .inr (.inr (.inr l)) => l.length
def y_step (fk : Nat → List Nat) (M : Nat → z_M) (I : z_I) (pc : Nat) (L : z_L) (st : List z_V) (h : y_H) : Option (y_F ⊕ Unit ⊕ (Nat × List z_V × List z_V)) :=
  match I with
  | (ins, _, a, b, t, _, c, _) => match ins with
    | .iconst _ => some (.inl (pc + 1, L, (.inl c) :: st, h))
    | .bipush _ => some (.inl (pc + 2, L, (.inl c) :: st, h))
    | .sipush _ => some (.inl (pc + 3, L, (.inl c) :: st, h))
    | .iload_n k => match z_ld L k with
      | some (.inl x) => some (.inl (pc + 1, L, (.inl x) :: st, h))
      | _ => none
    | .aload_n k => match z_ld L k with
      | some (.inr (.inr (some o))) => some (.inl (pc + 1, L, (.inr (.inr (some o))) :: st, h))
      | _ => none
    | .istore_n k => match st with
      | (.inl x) :: r => if (k : Nat) < L.length then some (.inl (pc + 1, z_st1 L k (.inl x), r, h)) else none
      | _ => none
    | .iinc k _ => match z_ld L k with
      | some (.inl x) => if k < L.length then some (.inl (pc + 3, z_st1 L k (.inl (x + c)), st, h)) else none
      | _ => none
    | .dup => match st with
      | (.inr (.inr (some x))) :: r => some (.inl (pc + 1, L, (.inr (.inr (some x))) :: (.inr (.inr (some x))) :: r, h))
      | _ => none
    | .if_icmp .ge _ => match st with
      | (.inl y) :: (.inl x) :: r => some (.inl (if y ≤ x then a else pc + 3, L, r, h))
      | _ => none
    | .goto _ => some (.inl (a, L, st, h))
    | .new _ => some (.inl (pc + 3, L, (.inr (.inr (some (0, h.length)))) :: st, h ++ [.inl (a, (fk a).map (fun k => if k = 2 then (.inr (.inr none)) else (.inl 0)))]))
    | .newarray ty => match st with
      | (.inl n) :: r => if 0 ≤ n.toInt ∧ n.toInt < 60000 then match ty with
          | .int => some (.inl (pc + 2, L, (.inr (.inr (some (0, h.length)))) :: r, h ++ [.inr (.inl n.toNatClampNeg)]))
          | .long => some (.inl (pc + 2, L, (.inr (.inr (some (0, h.length)))) :: r, h ++ [.inr (.inr (.inl n.toNatClampNeg))]))
          | _ => none
        else none
      | _ => none
    | .anewarray _ => match st with
      | (.inl n) :: r => if 0 ≤ n.toInt ∧ n.toInt < 60000 then some (.inl (pc + 3, L, (.inr (.inr (some (0, h.length)))) :: r, h ++ [.inr (.inr (.inr (List.replicate n.toNatClampNeg none)))])) else none
      | _ => none
    | .getfield _ => match st with
      | (.inr (.inr (some (_, o)))) :: r => match h[o]? with
        | some (.inl (ci, fs)) => if ci = a then match fs[b]? with
            | some (.inr (.inr (some x))) => some (.inl (pc + 3, L, (.inr (.inr (some x))) :: r, h))
            | _ => none
          else none
        | _ => none
      | _ => none
    | .putfield _ => match st with
      | v :: (.inr (.inr (some (_, o)))) :: r => match h[o]? with
        | some (.inl (ci, fs)) => if ci = a ∧ b < fs.length then match t, v with
            | 0, (.inl x) => some (.inl (pc + 3, L, r, h.set o (.inl (ci, fs.set b (.inl x)))))
            | 1, (.inl x) => if x = 0 ∨ x = 1 then some (.inl (pc + 3, L, r, h.set o (.inl (ci, fs.set b (.inl x))))) else none
            | 2, (.inr (.inr (some x))) => some (.inl (pc + 3, L, r, h.set o (.inl (ci, fs.set b (.inr (.inr (some x)))))))
            | _, _ => none
          else none
        | _ => none
      | _ => none
    | .aastore => match st with
      | (.inr (.inr (some (_, v)))) :: (.inl i) :: (.inr (.inr (some (_, o)))) :: r => match h[o]?, h[v]? with
        | some (.inr (.inr (.inr l))), some (.inl (ci, _)) => if ci = a ∧ z_in i l.length = true then some (.inl (pc + 1, L, r, h.set o (.inr (.inr (.inr (l.set i.toNatClampNeg (some v))))))) else none
        | _, _ => none
      | _ => none
    | .invokespecial _ => match t with
      | 0 => if (M a).2.2.2.2.1 ≤ st.length ∧ z_cat (st.drop (M a).2.2.2.2.1) ≤ 8 ∧ (z_args (st.take (M a).2.2.2.2.1).reverse).length ≤ (M a).2.2.1 then match (st.take (M a).2.2.2.2.1).reverse with
          | (.inr (.inr (some _))) :: _ => some (.inr (.inr (a, (st.take (M a).2.2.2.2.1).reverse, st.drop (M a).2.2.2.2.1)))
          | _ => none
        else none
      | _ => match st with
        | (.inr (.inr (some _))) :: r => if z_cat r ≤ 8 then some (.inl (pc + 3, L, r, h)) else none
        | _ => none
    | .return_ => match st with
      | [] => some (.inr (.inl ()))
      | _ => none
    | _ => none
def y_run (fk : Nat → List Nat) (M : Nat → z_M) (C : Nat → Nat → Option z_I) : Nat → Nat → y_F → Option y_H
  | 0, _, _ => none
  | n + 1, mi, (pc, L, st, h) => match C mi pc with
    | none => none
    | some I => match y_step fk M I pc L st h with
      | none => none
      | some (.inl f) => y_run fk M C n mi f
      | some (.inr (.inl _)) => some h
      | some (.inr (.inr (mj, as, rest))) => match y_run fk M C n mj (0, z_entry (M mj).2.2.1 as, [], h) with
        | none => none
        | some h' => y_run fk M C n mi (pc + 3, L, rest, h')
section YC
variable {b : Nat} {cA : Nat → ClassId} {h : y_H} {e e' : y_E} {o : Nat}
theorem y_ws_at (ho : h[o]? = some e) : (y_ws b cA h)[o]? = some (b + o, y_cell b cA e) := by
  have hl := (List.getElem?_eq_some_iff.mp ho).1
  simp only [y_ws, List.getElem?_map, List.getElem?_range hl, List.getD]
  show some (b + o, y_cell b cA (h[o]?.getD _)) = _
  rw [ho]
  rfl
theorem y_ws_len : (y_ws b cA h).length = h.length := by simp [y_ws]
theorem y_ws_push : y_ws b cA (h ++ [e]) = y_ws b cA h ++ [(b + h.length, y_cell b cA e)] := by
  apply List.ext_getElem?
  intro k
  by_cases hk : k < h.length
  · rw [List.getElem?_append_left (by rw [y_ws_len]; exact hk)]
    have h1 : (h ++ [e])[k]? = some h[k] := by rw [List.getElem?_append_left hk]; exact List.getElem?_eq_getElem hk
    rw [y_ws_at h1, y_ws_at (List.getElem?_eq_getElem hk)]
  · rw [List.getElem?_append_right (by rw [y_ws_len]; omega), y_ws_len]
    by_cases hk2 : k = h.length
    · subst hk2
      have h1 : (h ++ [e])[h.length]? = some e := by simp
      rw [y_ws_at h1]
      simp
    · have h1 : (y_ws b cA (h ++ [e]))[k]? = none := by
        rw [List.getElem?_eq_none_iff, y_ws_len]
        simp
        omega
      rw [h1]
      have : k - h.length = (k - h.length - 1) + 1 := by omega
      rw [this]
      simp
theorem y_ws_set (ho : h[o]? = some e) : (y_ws b cA h).set o (b + o, y_cell b cA e') = y_ws b cA (h.set o e') := by
  have hl := (List.getElem?_eq_some_iff.mp ho).1
  apply List.ext_getElem?
  intro k
  by_cases hk : k = o
  · subst hk
    rw [List.getElem?_set_self (by rw [y_ws_len]; exact hl)]
    have h1 : (h.set k e')[k]? = some e' := List.getElem?_set_self hl
    rw [y_ws_at h1]
  · rw [List.getElem?_set_ne (Ne.symm hk)]
    by_cases hkl : k < h.length
    · have h1 : (h.set o e')[k]? = some h[k] := by rw [List.getElem?_set_ne (Ne.symm hk)]; exact List.getElem?_eq_getElem hkl
      rw [y_ws_at h1, y_ws_at (List.getElem?_eq_getElem hkl)]
    · have h1 : (y_ws b cA h)[k]? = none := by rw [List.getElem?_eq_none_iff, y_ws_len]; omega
      have h2 : (y_ws b cA (h.set o e'))[k]? = none := by rw [List.getElem?_eq_none_iff, y_ws_len, List.length_set]; omega
      rw [h1, h2]
theorem y_ws_D {A : Nat → Prop} (hA : ∀ q, b ≤ q → A q) : va_D A (y_ws b cA h) := by
  have key : ∀ (k : Nat) (q : Nat × va_E), (y_ws b cA h)[k]? = some q → q.1 = b + k := by
    intro k q hq
    have hl : k < h.length := by
      have := (List.getElem?_eq_some_iff.mp hq).1
      rwa [y_ws_len] at this
    rw [y_ws_at (List.getElem?_eq_getElem hl)] at hq
    cases hq
    rfl
  refine ⟨fun i j p q hp hq hpq => ?_, fun k q hq => ?_⟩
  · have := key i p hp
    have := key j q hq
    omega
  · rw [key k q hq]
    exact hA _ (by omega)
end YC
end
section
/-! the second machine's walk -/
def y_chk (cl : List vw_C) (fk : Nat → List Nat) (nM : Nat) (M : Nat → z_M) (Ws : List Jvm.Cond) (jn own : String) (cc : ByteArray) (fr lo : Nat) (pc : Nat) (I : z_I) : Bool :=
  decide (decode cc pc = .ok (I.1, I.2.1)) &&
  match I with
  | (ins, len, a, b, t, q, c, _) => match ins with
    | .iconst n => decide (len = 1) && decide (Int32.ofInt n = c)
    | .bipush n => decide (len = 2) && decide ((Int8.ofInt n).toInt32 = c)
    | .sipush n => decide (len = 3) && decide ((Int16.ofInt n).toInt32 = c)
    | .iinc _ n => decide (len = 3) && decide (Int32.ofInt n = c)
    | .if_icmp _ off => decide (len = 3) && decide ((pc : Int) + off = (a : Int))
    | .goto off => decide (len = 3) && decide ((pc : Int) + off = (a : Int))
    | .new i => decide (len = 3) && (match cl[a]? with
      | some (C, _, _) => decide (Ws[q]? = some (.classLink own i C))
      | none => false)
    | .newarray _ => decide (len = 2)
    | .anewarray i => decide (len = 3) && decide (Ws[q]? = some (.classLink own i jn))
    | .getfield i => decide (len = 3) && z_cf cl fk Ws "" own i a b t q && decide (q % 2 = 0)
    | .putfield i => decide (len = 3) && z_cf cl fk Ws "" own i a b t q && decide (q % 2 = 0) && (match cl[a]? with
      | some (C, T, _) => decide (C = own) && (match parseFieldDescriptor (T b).2.2.1 with
        | some .int => decide (t = 0)
        | some .boolean => decide (t = 1)
        | some (.object _) => decide (t = 2)
        | some (.array _) => decide (t = 2)
        | _ => false)
      | none => false)
    | .aastore => decide (len = 1) && decide ((cl[a]?).map (fun x => x.1) = some jn)
    | .invokespecial i => decide (len = 3) && (match t with
      | 0 => decide (Ws[q]? = some (.methodLink own i (M a).1)) && z_cr nM M fr lo a
      | _ => decide (Ws[q]? = some (.methodLink own i Lib.objectInit)) && decide (1 ≤ fr) && decide (20 ≤ lo))
    | _ => decide (len = 1)
def y_MO (Ts : List Jvm.Cond) (mt : z_M) : Prop :=
  plainName mt.1.cls = true ∧ (mt.1.cls ≠ "java/lang/invoke/MethodHandle" ∧ mt.1.cls ≠ "java/lang/invoke/VarHandle") ∧ Jvm.Cond.code mt.1 mt.2.1 mt.2.2.1 mt.2.2.2.1 ∈ Ts ∧ Jvm.Cond.initialized mt.1.cls ∈ Ts ∧
  (∀ sig, parseMethodDescriptor mt.1.desc = some sig → mt.2.2.2.2.1 = sig.parameters.length + 1) ∧ Jvm.Cond.instanceMethod mt.1 ∈ Ts ∧ mt.1.name = "<init>" ∧ mt.2.2.2.1 = none
section YW
variable {p : Program} {l : Launch} {e : Env} {R : Room} {s : State} {m : MethodId} {args : Array Value} {below : List Frame} {meth : Method} {c : Code} {H : Heap} {locs : List Loc} {cells slots : Nat} {Q : State → Prop}
variable {cc : ByteArray} {pc : Nat} {ls : Array Slot} {rest : List Value} {D : va_G} {cl : List vw_C} {tys : List (ClassId × FieldType)} {ws : va_W}
theorem y_P_app {H1 : Heap} {q : Nat} {x : va_E} (hP : va_P D cl ws H) (o1 : ∀ k, k < H.size → H1[k]? = H[k]?) (hx : va_at D cl (q, x) H1) : va_P D cl (ws ++ [(q, x)]) H1 := by
  refine (hP.kept (fun k z hz => o1 z.1 ((hP k z hz).lt))).app (fun k z hz => ?_)
  have hz2 : k < 1 := (List.getElem?_eq_some_iff.mp hz).1
  rw [show k = 0 by omega] at hz
  cases hz
  exact hx
theorem y_new (hexec : p.tables.exec = Jvm.exec) (hb : c.code = cc) {own C : String} {T : u_T} {N ci index q : Nat} {Ts : List Jvm.Cond} (hts : ∀ w ∈ Ts, w.before args s = true) (hin : ∀ w ∈ u_ws C T N, w ∈ Ts) (ty : Nat → FieldType) (hty : ∀ k, k < N → parseFieldDescriptor (T k).2.2.1 = some (ty k)) (hown : s.vm.findClass own = some m.cls) (hcl : (Jvm.Cond.classLink own index C).before args s = true) (hinst : (Jvm.Cond.instantiable C N).before args s = true) (hini : (Jvm.Cond.initialized C).before args s = true)
    (hK : va_K D cl tys s) (hP : va_P D cl ws H) (hc : cl[ci]? = some (C, T, N)) {fs : List Value} (hfs : ∀ j, j < N → defaultValue (ty j) = vp_V fs j) (hcells : cells + 1 ≤ R.cells) (hslots : slots + N ≤ R.slots) (hdg : decode cc pc = .ok (.new index, 3)) (hz : H.size = q)
    (kk : ∀ H1 : Heap, H1.size = q + 1 → va_P D cl (ws ++ [(q, .inr (ci, fs))]) H1 → (∀ x, x < q → H1[x]? = H[x]?) → W p l e R s m args below meth c H1 locs (cells + 1) (slots + N) Q (F0 m (pc + 3) ls (.ref q :: rest))) : W p l e R s m args below meth c H locs cells slots Q (F0 m pc ls rest) := by
  have hKn := hK.1 ci _ hc
  subst hz
  refine W.newcK hexec hb hown hcl hinst hini rfl hdg hcells hslots hKn.2.1 rfl fun H1 kC hkC e1 z1 o1 => ?_
  exact kk H1 z1 (y_P_app hP o1 ⟨_, hc, (u_born ty hts hin hKn hkC e1 hty).to hfs⟩) o1
theorem y_newa (hexec : p.tables.exec = Jvm.exec) (hb : c.code = cc) {atype : ArrayType} (harr : (Jvm.Cond.arrayClass (newarray.typeOf atype)).before args s = true) {q : Nat} {cA : ClassId} (hA : s.vm.findClass ("[" ++ (newarray.typeOf atype).toString) = some cA) (hP : va_P D cl ws H)
    {n : Int32} {N' : Nat} {a0 : vp_A} (ha : ∀ cA : ClassId, vp_cell cA a0 = arrV cA N' (fun _ => defaultValue (newarray.typeOf atype))) (hn : ¬ n < 0) (hN : n.toNatClampNeg = N') (hbytes : N' * componentBytes (newarray.typeOf atype) ≤ 536870912) (hcells : cells + 1 ≤ R.cells) (hslots : slots + N' ≤ R.slots) (hdg : decode cc pc = .ok (.newarray atype, 2)) (hz : H.size = q)
    (kk : ∀ H1 : Heap, H1.size = q + 1 → va_P D cl (ws ++ [(q, .inl (cA, a0))]) H1 → (∀ x, x < q → H1[x]? = H[x]?) → W p l e R s m args below meth c H1 locs (cells + 1) (slots + N') Q (F0 m (pc + 2) ls (.ref q :: rest))) : W p l e R s m args below meth c H locs cells slots Q (F0 m pc ls (.int n :: rest)) := by
  subst hz
  refine va_newaK hexec hb harr rfl hdg rfl hn hN hbytes hcells hslots rfl fun H1 cA1 e1 z1 o1 hAr hNm => ?_
  cases hA.symm.trans hNm
  refine kk H1 z1 (y_P_app hP o1 ?_) o1
  show H1[H.size]? = some (vp_cell _ _)
  rw [ha]
  exact e1
theorem y_newq (hexec : p.tables.exec = Jvm.exec) (hb : c.code = cc) {own C : String} {index q : Nat} {cA : ClassId} (hown : s.vm.findClass own = some m.cls) (hclink : (Jvm.Cond.classLink own index C).before args s = true) (hover : va_AO C s) (hA : s.vm.findClass ("[" ++ (FieldType.object C).toString) = some cA) (hP : va_P D cl ws H)
    {n : Int32} {N' : Nat} (hn : ¬ n < 0) (hN : n.toNatClampNeg = N') (hbytes : N' * 4 ≤ 536870912) (hcells : cells + 1 ≤ R.cells) (hslots : slots + N' ≤ R.slots) (hdg : decode cc pc = .ok (.anewarray index, 3)) (hz : H.size = q)
    (kk : ∀ H1 : Heap, H1.size = q + 1 → va_P D cl (ws ++ [(q, .inl (cA, N', .inr (.inr (.inr (.inr (fun _ => none))))))]) H1 → (∀ x, x < q → H1[x]? = H[x]?) → W p l e R s m args below meth c H1 locs (cells + 1) (slots + N') Q (F0 m (pc + 3) ls (.ref q :: rest))) : W p l e R s m args below meth c H locs cells slots Q (F0 m pc ls (.int n :: rest)) := by
  subst hN
  subst hz
  refine W.anew hexec hb hown hclink (va_AO.use hover) rfl hdg rfl hn hbytes hcells hslots fun cA1 kA comp f1 f2 f3 f4 => ?_
  cases hA.symm.trans f1
  generalize hH1 : H.push ({ cls := cA, slots := Array.replicate n.toNatClampNeg .null, vm := .none } : Cell) = H1
  have z1 : H1.size = H.size + 1 := by rw [← hH1, Array.size_push]
  have e1 : H1[H.size]? = some (arrV cA n.toNatClampNeg (fun _ => .null)) := by rw [← hH1, Array.getElem?_push_size, ← arrV_new]
  have o1 : ∀ q : Nat, q < H.size → H1[q]? = H[q]? := fun q hq => by rw [← hH1, Array.getElem?_push, if_neg (Nat.ne_of_lt hq)]
  refine kk H1 z1 (y_P_app hP o1 ?_) o1
  show H1[H.size]? = some (vp_cell _ _)
  rw [e1]
  rfl
end YW
def y_sum (h : y_H) : Nat := (h.map y_sl).sum
theorem y_sum_push (h : y_H) (e : y_E) : y_sum (h ++ [e]) = y_sum h + y_sl e := by simp [y_sum]
theorem y_sum_set {h : y_H} {o : Nat} {e e' : y_E} (ho : h[o]? = some e) (he : y_sl e' = y_sl e) : y_sum (h.set o e') = y_sum h := by
  unfold y_sum
  rw [List.map_set]
  congr 1
  apply List.ext_getElem?
  intro k
  by_cases hk : k = o
  · subst hk
    have hl := (List.getElem?_eq_some_iff.mp ho).1
    rw [List.getElem?_set_self (by simpa using hl), List.getElem?_map, ho]
    simp [he]
  · rw [List.getElem?_set_ne (Ne.symm hk)]
/-! a field or a place is written: the size stays -/
section YP
variable {p : Program} {l : Launch} {e : Env} {R : Room} {s : State} {m : MethodId} {args : Array Value} {below : List Frame} {meth : Method} {c : Code} {H : Heap} {locs : List Loc} {cells slots : Nat} {Q : State → Prop}
variable {cc : ByteArray} {pc a : Nat} {ls : Array Slot} {rest : List Value} {D : va_G} {cl : List vw_C} {tys : List (ClassId × FieldType)} {ws : va_W} {A : Nat → Prop} {H0 : Heap} {own ref C : String} {T : u_T} {N ci index : Nat} {Ts : List Jvm.Cond}
theorem y_fld (hts : ∀ w ∈ Ts, w.before args s = true) (hin : ∀ w ∈ u_ws C T N, w ∈ Ts) (ty0 : Nat → FieldType) (hty : ∀ k, k < N → parseFieldDescriptor (T k).2.2.1 = some (ty0 k)) (hnm : ∀ a, a < N → ∀ b, b < N → a ≠ b → (T a).2.1 ≠ (T b).2.1) (hK : va_K D cl tys s) (hP : va_P D cl ws H) (hD : va_D A ws) {q0 : Nat} {fs : List Value} (he : ws[q0]? = some (a, .inr (ci, fs))) (hc : cl[ci]? = some (C, T, N)) {k : Nat} (hk : k < N) {v : Value} (hl : k < fs.length) :
    ∃ (cell : Cell) (cf : Nat) (kf : Class) (fi : Nat) (f : Field) (kC : Class), H[a]? = some cell ∧ cell.cls = D.1 ci ∧ cell.vm = .none ∧ s.fieldFound? (T k).1 (T k).2.1 (T k).2.2.1 = some (cf, kf, fi, f) ∧ f.isStatic = false ∧ f.slot < cell.slots.size ∧ s.vm.findClass C = some (D.1 ci) ∧ s.vm.classes[D.1 ci]? = some kC ∧ kC.kind = .ordinary ∧
      ∀ H1 : Heap, H1[a]? = some (cell.setSlot f.slot v) → (∀ q, q ≠ a → H1[q]? = H[q]?) → va_P D cl (ws.set q0 (a, .inr (ci, fs.set k v))) H1 := by
  have hap := va_apart (own := C) hts hin ty0 hty hnm hK hc
  obtain ⟨r, h1, cell, q1, q2, q3, q4⟩ := hP q0 _ he
  have hr : r = (C, T, N) := Option.some.inj (h1.symm.trans hc)
  subst hr
  obtain ⟨hS, hfc, kC, hkC, hkind⟩ := hK.1 ci _ hc
  obtain ⟨cf, kf, fi, f, hi, hsl⟩ := hS k hk
  refine ⟨cell, cf, kf, fi, f, kC, q1, q2, q3, hi, (u_facts hfc hkC (u_lays hts hin hk) hi).1, by rw [hsl]; exact k2_hasslot (q4 k hk), hfc, hkC, hkind, fun H1 e1 e3 => ?_⟩
  rw [hsl] at e1
  exact hP.set hD he ⟨_, hc, t_OB.to (V := updV (vp_V fs) k v) ⟨_, e1, q2, q3, t_set q4 hap hk v⟩ (fun j _ => vp_updV_set hl v j)⟩ e3
theorem y_put (hexec : p.tables.exec = Jvm.exec) (hb : c.code = cc) (hts : ∀ w ∈ Ts, w.before args s = true) (hin : ∀ w ∈ u_ws C T N, w ∈ Ts) (ty0 : Nat → FieldType) (hty : ∀ k, k < N → parseFieldDescriptor (T k).2.2.1 = some (ty0 k)) (hnm : ∀ a, a < N → ∀ b, b < N → a ≠ b → (T a).2.1 ≠ (T b).2.1) (hown : s.vm.findClass own = some m.cls) (hK : va_K D cl tys s) (hP : va_P D cl ws H) (hD : va_D A ws) (hS0 : va_S A H0 H locs) (q0 : Nat) {fs : List Value} (he : ws[q0]? = some (a, .inr (ci, fs))) (hc : cl[ci]? = some (C, T, N)) (k : Nat) (hk : k < N) (hlink : (Jvm.Cond.fieldLink own index ref (T k).2.1 (T k).2.2.1).before args s = true) (hsame : ∀ x, s.fieldFound? (T k).1 (T k).2.1 (T k).2.2.1 = some x → s.fieldFound? ref (T k).2.1 (T k).2.2.1 = some x) (hfin : (T k).2.2.2 = false) {ty : FieldType} {v : Value} (hd : parseFieldDescriptor (T k).2.2.1 = some ty) (hn : narrow ty v = v) (hfit : fits ty v = true) (hl : k < fs.length)
    (hdg : decode cc pc = .ok (.putfield index, 3)) (kk : ∀ (H1 : Heap) (locs1 : List Loc), H1.size = H.size → va_P D cl (ws.set q0 (a, .inr (ci, fs.set k v))) H1 → va_S A H0 H1 locs1 → W p l e R s m args below meth c H1 locs1 cells slots Q (F0 m (pc + 3) ls rest)) : W p l e R s m args below meth c H locs cells slots Q (F0 m pc ls (v :: .ref a :: rest)) := by
  obtain ⟨cell, cf, kf, fi, f, kC, q1, q2, q3, hi, hst, hlt, hfc, hkC, hkind, hup⟩ := y_fld (v := v) hts hin ty0 hty hnm hK hP hD he hc hk hl
  have hlay := hts _ (hin _ (u_in_lay hk))
  unfold u_lay at hlay
  rw [if_neg (by rw [hfin]; decide)] at hlay
  have h6 := u_store hfc hkC hkind hlay hi hd hn hfit
  exact W.putK hexec hb (f := f) ⟨hown, hlink, ⟨_, _, _, hsame _ hi⟩, hst⟩ (by rw [q2]; exact h6) q1 q3 hlt rfl rfl hdg fun H' e1 e2 e3 => kk H' _ e2 (hup H' e1 e3) (hS0.put e2 e3 (hD.2 q0 _ he))
theorem y_putF (hexec : p.tables.exec = Jvm.exec) (hb : c.code = cc) (hts : ∀ w ∈ Ts, w.before args s = true) (hin : ∀ w ∈ u_ws C T N, w ∈ Ts) (ty0 : Nat → FieldType) (hty : ∀ k, k < N → parseFieldDescriptor (T k).2.2.1 = some (ty0 k)) (hnm : ∀ a, a < N → ∀ b, b < N → a ≠ b → (T a).2.1 ≠ (T b).2.1) (hown : s.vm.findClass own = some m.cls) (hK : va_K D cl tys s) (hP : va_P D cl ws H) (hD : va_D A ws) (hS0 : va_S A H0 H locs) (q0 : Nat) {fs : List Value} (he : ws[q0]? = some (a, .inr (ci, fs))) (hc : cl[ci]? = some (C, T, N)) (k : Nat) (hk : k < N) (hlink : (Jvm.Cond.fieldLink own index ref (T k).2.1 (T k).2.2.1).before args s = true) (hsame : ∀ x, s.fieldFound? (T k).1 (T k).2.1 (T k).2.2.1 = some x → s.fieldFound? ref (T k).2.1 (T k).2.2.1 = some x) (hfin : (T k).2.2.2 = true) (hin2 : meth.name = "<init>") (hdecl : (T k).1 = own) {ty : FieldType} {v : Value} (hd : parseFieldDescriptor (T k).2.2.1 = some ty) (hn : narrow ty v = v) (hfit : fits ty v = true) (hl : k < fs.length)
    (hdg : decode cc pc = .ok (.putfield index, 3)) (kk : ∀ (H1 : Heap) (locs1 : List Loc), H1.size = H.size → va_P D cl (ws.set q0 (a, .inr (ci, fs.set k v))) H1 → va_S A H0 H1 locs1 → W p l e R s m args below meth c H1 locs1 cells slots Q (F0 m (pc + 3) ls rest)) : W p l e R s m args below meth c H locs cells slots Q (F0 m pc ls (v :: .ref a :: rest)) := by
  obtain ⟨cell, cf, kf, fi, f, kC, q1, q2, q3, hi, hst, hlt, hfc, hkC, hkind, hup⟩ := y_fld (v := v) hts hin ty0 hty hnm hK hP hD he hc hk hl
  have hlay := hts _ (hin _ (u_in_lay hk))
  unfold u_lay at hlay
  rw [if_pos hfin] at hlay
  have hcf : m.cls = cf := by
    obtain ⟨_, _, c', _, _, _, -, -, hf', -, -, -, hown2, -⟩ := Cond.laysFinal_spec hlay
    have e1 : c' = cf := by have := hi.symm.trans hf'; simp at this; exact this.1.symm
    rw [hdecl] at hown2
    rw [← e1]; exact Option.some.inj (hown.symm.trans hown2)
  have h6 := u_fits hfc hkC hkind (Or.inr hlay) hi hd hn hfit
  exact W.putFinK hexec hb hown hlink (hsame _ hi) hst hcf hin2 (by rw [q2]; exact h6) q1 q3 hlt rfl rfl hdg fun H' e1 e2 e3 => kk H' _ e2 (hup H' e1 e3) (hS0.put e2 e3 (hD.2 q0 _ he))
theorem y_astq (hexec : p.tables.exec = Jvm.exec) (hb : c.code = cc) (hK : va_K D cl tys s) (hP : va_P D cl ws H) (hD : va_D A ws) (hS : va_S A H0 H locs) (q0 t0 qk ci : Nat) {cA : ClassId} {r : vw_C} {n v : Nat} {vs : List Value} {f : Nat → Option Nat} (ha : ws[q0]? = some (a, .inl (cA, n, .inr (.inr (.inr (.inr f)))))) (ht : tys[t0]? = some (cA, .object r.1)) (hv : ws[qk]? = some (v, .inr (ci, vs))) (hc : cl[ci]? = some r) {i : Int32} (hin : vp_in i n) (hdg : decode cc pc = .ok (.aastore, 1))
    (kk : ∀ (H1 : Heap) (locs1 : List Loc), H1.size = H.size → va_P D cl (ws.set q0 (a, .inl (cA, n, .inr (.inr (.inr (.inr (va_up f i.toNatClampNeg (some v)))))))) H1 → va_S A H0 H1 locs1 → W p l e R s m args below meth c H1 locs1 cells slots Q (F0 m (pc + 1) ls rest)) : W p l e R s m args below meth c H locs cells slots Q (F0 m pc ls (.ref v :: .int i :: .ref a :: rest)) := by
  have hlt : i.toNatClampNeg < n := Nat.not_le.mp fun q => hin (Or.inr q)
  have h0 : ¬ i < 0 := fun q => hin (Or.inl q)
  obtain ⟨r', hr', cellV, g1, g2, g3, -⟩ := hP qk _ hv
  have hcls := (hK.1 ci r hc).2
  obtain ⟨kA, comp, k1, k2, k3, -⟩ := (hK.2 t0 _ ht).2
  have hcomp : comp = D.1 ci := Option.some.inj (k3.symm.trans hcls.1)
  subst hcomp
  obtain ⟨kC, hkC, -⟩ := hcls.2
  refine W.aast hexec hb (hP q0 _ ha) (fun q h => by cases h) (fun h => by cases h) k1 k2 rfl hkC ⟨h0, by show _ < (arrV _ _ _).slots.size; rw [arrV_size]; exact hlt⟩ g1 (fun q h => by rw [g3] at h; cases h) (by rw [g2]; exact hkC) (by rw [g2]; exact va_assign hcls) rfl rfl hdg fun H1 e z oq => ?_
  refine kk H1 _ z (hP.set hD ha ?_ oq) (hS.put z oq (hD.2 q0 _ ha))
  show H1[a]? = some (vp_cell _ _)
  rw [e, vp_cell_q, vp_cell_q, arrV_store]
  congr 2
  funext q
  by_cases hq : q = i.toNatClampNeg
  · subst hq
    simp [updV, va_up, va_rf]
  · simp [updV, va_up, hq]
end YP
end
section
section YS
variable {p : Program} {l : Launch} {e : Env} {R : Room} {s : State} {m : MethodId} {args : Array Value} {below : List Frame} {meth : Method} {c : Code} {H : Heap} {locs : List Loc} {cells slots : Nat} {Q : State → Prop}
variable {fk : Nat → List Nat} {b : Nat} {cA : Nat → ClassId} {D : va_G} {cl : List vw_C} {tys : List (ClassId × FieldType)} {H0 : Heap} {Ts Ws : List Jvm.Cond} {jn own : String} {cc : ByteArray} {nM : Nat} {M : Nat → z_M}
theorem y_S_new {A : Nat → Prop} {H1 : Heap} {q : Nat} (hS : va_S A H0 H locs) (hq : H.size = q) (hz : H1.size = q + 1) (o1 : ∀ x, x < q → H1[x]? = H[x]?) : va_S A H0 H1 locs := by
  refine ⟨by have := hS.1; omega, fun x h1 h2 => ?_, hS.2.2⟩
  rw [o1 x (by have := hS.1; omega)]
  exact hS.2.1 x h1 h2
theorem y_S_mono {A : Nat → Prop} {locs' : List Loc} (hS : va_S A H0 H locs) (h : ∀ x ∈ locs', x ∈ locs) : va_S A H0 H locs' := ⟨hS.1, hS.2.1, fun x hx => hS.2.2 x (h x hx)⟩
set_option maxHeartbeats 4000000 in
set_option maxRecDepth 100000 in
theorem y_next (hx : p.tables.exec = Jvm.exec) (hb : c.code = cc) (hown : s.vm.findClass own = some m.cls) (hnm : meth.name = "<init>") (hts : ∀ w ∈ Ts, w.before args s = true) (hWs : ∀ w ∈ Ws, goodWord w = true → w ∈ Ts) (hK : va_K D cl tys s) (hAO : va_AO jn s)
    (hty1 : tys[0]? = some (cA 0, .int)) (hty2 : tys[1]? = some (cA 1, .long)) (hty3 : tys[2]? = some (cA 2, .object jn)) (hCL : z_CL cl fk Ts)
    (hDK : ∀ ci C T N, cl[ci]? = some (C, T, N) → (∀ j, j < N → (parseFieldDescriptor (T j).2.2.1).map defaultValue = some (if (fk ci).getD j 0 = 2 then .null else .int 0)) ∧ Jvm.Cond.instantiable C N ∈ Ts ∧ Jvm.Cond.initialized C ∈ Ts)
    (hAC : Jvm.Cond.arrayClass .int ∈ Ts ∧ Jvm.Cond.arrayClass .long ∈ Ts) (hOB : Jvm.Cond.instanceMethod Lib.objectInit ∈ Ts ∧ Jvm.Cond.code Lib.objectInit ⟨#[0xb1]⟩ 1 none ∈ Ts)
    {nL pc pc' : Nat} {I : z_I} {L L' : z_L} {st st' : List z_V} {h h' : y_H} {ls : Array Slot} (hml : c.maxLocals = nL)
    (hchk : y_chk cl fk nM M Ws jn own cc R.frames R.locals pc I = true) (hstep : y_step fk M I pc L st h = some (.inl (pc', L', st', h')))
    (hl : z_hl (y_ad b) ls nL L) (hsz : H.size = b + h.length) (hP : va_P D cl (y_ws b cA h) H) (hS : va_S (fun q => b ≤ q) H0 H locs)
    (hrc : cells + (h'.length - h.length) ≤ R.cells) (hrs : slots + (y_sum h' - y_sum h) ≤ R.slots)
    (kk : ∀ (ls' : Array Slot) (H' : Heap) (locs' : List Loc), z_hl (y_ad b) ls' nL L' → H'.size = b + h'.length → va_P D cl (y_ws b cA h') H' → va_S (fun q => b ≤ q) H0 H' locs' → W p l e R s m args below meth c H' locs' (cells + (h'.length - h.length)) (slots + (y_sum h' - y_sum h)) Q (F0 m pc' ls' (st'.map (z_v (y_ad b))))) :
    W p l e R s m args below meth c H locs cells slots Q (F0 m pc ls (st.map (z_v (y_ad b)))) := by
  have hD : va_D (fun q => b ≤ q) (y_ws b cA h) := y_ws_D (fun _ h => h)
  have kk0 : h' = h → ∀ (ls' : Array Slot), z_hl (y_ad b) ls' nL L' → W p l e R s m args below meth c H locs cells slots Q (F0 m pc' ls' (st'.map (z_v (y_ad b)))) := by
    intro he ls' h1
    subst he
    exact W.cs (by omega) (by omega) (kk ls' H locs h1 hsz hP hS)
  have nn : ∀ z : Int32, 0 ≤ z.toInt → ¬ z < 0 ∧ ((z.toNatClampNeg : Nat) : Int) = z.toInt := by
    intro z hz
    refine ⟨fun h => ?_, ?_⟩
    · have := Int32.lt_iff_toInt_lt.mp h
      rw [Int32.toInt_zero] at this
      omega
    · show ((z.toInt.toNat : Nat) : Int) = z.toInt
      omega
  obtain ⟨ins, len, a, b1, t, q, c0, d⟩ := I
  unfold y_chk at hchk
  rw [Bool.and_eq_true, decide_eq_true_eq] at hchk
  obtain ⟨hd, hchk⟩ := hchk
  dsimp only at hd hchk
  cases ins
  case iconst n =>
    simp only [y_step] at hstep
    cases hstep
    simp only [Bool.and_eq_true, decide_eq_true_eq] at hchk
    obtain ⟨rfl, h2⟩ := hchk
    exact lv_iconst hx hb hd h2 (kk0 rfl ls hl)
  case bipush n =>
    simp only [y_step] at hstep
    cases hstep
    simp only [Bool.and_eq_true, decide_eq_true_eq] at hchk
    obtain ⟨rfl, h2⟩ := hchk
    exact lv_bipush hx hb hd h2 (kk0 rfl ls hl)
  case sipush n =>
    simp only [y_step] at hstep
    cases hstep
    simp only [Bool.and_eq_true, decide_eq_true_eq] at hchk
    obtain ⟨rfl, h2⟩ := hchk
    exact lv_sipush hx hb hd h2 (kk0 rfl ls hl)
  case iload_n k =>
    simp only [y_step] at hstep
    split at hstep
    · rename_i x hv
      cases hstep
      simp only [decide_eq_true_eq] at hchk
      subst hchk
      exact lv_iload_n hx hb hd rfl (z_ld_at hl hv) (kk0 rfl ls hl)
    · cases hstep
  case aload_n k =>
    simp only [y_step] at hstep
    split at hstep
    · rename_i x hv
      cases hstep
      simp only [decide_eq_true_eq] at hchk
      subst hchk
      exact lv_aload_n hx hb hd rfl (z_ld_at hl hv) (kk0 rfl ls hl)
    · cases hstep
  case istore_n k =>
    simp only [y_step] at hstep
    split at hstep
    · split at hstep
      · rename_i hk
        cases hstep
        simp only [decide_eq_true_eq] at hchk
        subst hchk
        exact lv_istore_n hx hb hd rfl hl.has (hl.2.2.1 ▸ hk) rfl (fun ls' h9 => kk0 rfl ls' (hl.st1 h9))
      · cases hstep
    · cases hstep
  case iinc k n =>
    simp only [y_step] at hstep
    split at hstep
    · rename_i x hv
      split at hstep
      · rename_i hk
        cases hstep
        simp only [Bool.and_eq_true, decide_eq_true_eq] at hchk
        obtain ⟨rfl, h2⟩ := hchk
        obtain ⟨j, hj⟩ := z_ld_as (ad := y_ad b) hv
        exact lv_iinc hx hb hd hl.has hj (by rw [h2]) (hl.2.2.1 ▸ hk) rfl (fun ls' h9 => kk0 rfl ls' (hl.st1 h9))
      · cases hstep
    · cases hstep
  case dup =>
    simp only [y_step] at hstep
    split at hstep
    · cases hstep
      simp only [decide_eq_true_eq] at hchk
      subst hchk
      exact lv_dup hx hb hd rfl (kk0 rfl ls hl)
    · cases hstep
  case if_icmp cnd off =>
    cases cnd
    case ge =>
      simp only [y_step] at hstep
      simp only [Bool.and_eq_true, decide_eq_true_eq] at hchk
      obtain ⟨rfl, h2⟩ := hchk
      split at hstep
      · cases hstep
        have kk1 := kk0 rfl ls hl
        exact lv_icmp_ge hx hb hd h2 (fun h => by rw [if_pos h] at kk1; exact kk1) (fun h => by rw [if_neg h] at kk1; exact kk1)
      · cases hstep
    all_goals (simp only [y_step] at hstep; cases hstep)
  case goto off =>
    simp only [y_step] at hstep
    cases hstep
    simp only [Bool.and_eq_true, decide_eq_true_eq] at hchk
    obtain ⟨rfl, h2⟩ := hchk
    exact lv_goto hx hb hd h2 (kk0 rfl ls hl)
  case new i =>
    simp only [y_step] at hstep
    cases hstep
    rw [Bool.and_eq_true, decide_eq_true_eq] at hchk
    obtain ⟨rfl, h2⟩ := hchk
    split at h2
    · rename_i C T N hc
      rw [decide_eq_true_eq] at h2
      obtain ⟨g1, g2, ⟨ty0, g3⟩, -⟩ := hCL a C T N hc
      obtain ⟨k1, k2, k3⟩ := hDK a C T N hc
      have hN : y_sl (.inl (a, (fk a).map (fun k => if k = 2 then ((.inr (.inr none)) : z_V) else (.inl 0)))) = N := by
        show ((fk a).map _).length = N
        rw [List.length_map]
        exact g2
      rw [y_sum_push, hN] at hrs
      rw [List.length_append, List.length_singleton] at hrc
      refine y_new hx hb hts g1 ty0 g3 hown (hts _ (hWs _ (List.mem_of_getElem? h2) rfl)) (hts _ k2) (hts _ k3) hK hP hc (fs := ((fk a).map (fun k => if k = 2 then ((.inr (.inr none)) : z_V) else (.inl 0))).map (z_v (y_ad b))) (fun j hj => ?_) (by omega) (by omega) hd hsz (fun H1 z1 p1 o1 => ?_)
      · have h9 := k1 j hj
        rw [g3 j hj] at h9
        have h9 : defaultValue (ty0 j) = if (fk a).getD j 0 = 2 then .null else .int 0 := by simpa using h9
        have hlt : j < (fk a).length := by omega
        rw [h9]
        unfold vp_V
        simp only [List.getD, List.getElem?_map, List.getElem?_eq_getElem hlt, Option.map_some, Option.getD_some]
        split <;> rfl
      · refine W.cs (by rw [List.length_append, List.length_singleton]; omega) (by rw [y_sum_push, hN]; omega) (kk ls H1 locs hl ?_ ?_ (y_S_new hS hsz z1 o1))
        · rw [z1, List.length_append, List.length_singleton]
          omega
        · rw [y_ws_push]
          exact p1
    · cases h2
  case newarray ty =>
    simp only [y_step] at hstep
    simp only [decide_eq_true_eq] at hchk
    subst hchk
    split at hstep
    · rename_i n r
      split at hstep
      · rename_i hn
        split at hstep
        · cases hstep
          have hR := (hK.2 0 _ hty1).2
          have e3 := (nn n hn.1).2
          rw [y_sum_push] at hrs
          rw [List.length_append, List.length_singleton] at hrc
          have hN : y_sl (.inr (.inl n.toNatClampNeg)) = n.toNatClampNeg := rfl
          rw [hN] at hrs
          refine y_newa (atype := .int) hx hb (hts _ hAC.1) (show s.vm.findClass ("[" ++ FieldType.int.toString) = some (cA 0) from hR) hP (a0 := (n.toNatClampNeg, .inl (fun _ => 0))) (fun _ => rfl) (nn n hn.1).1 rfl (by show n.toNatClampNeg * 4 ≤ _; omega) (by omega) (by omega) hd hsz (fun H1 z1 p1 o1 => ?_)
          refine W.cs (by rw [List.length_append, List.length_singleton]; omega) (by rw [y_sum_push, hN]; omega) (kk ls H1 locs hl ?_ ?_ (y_S_new hS hsz z1 o1))
          · rw [z1, List.length_append, List.length_singleton]
            omega
          · rw [y_ws_push]
            exact p1
        · cases hstep
          have hR := (hK.2 1 _ hty2).2
          have e3 := (nn n hn.1).2
          rw [y_sum_push] at hrs
          rw [List.length_append, List.length_singleton] at hrc
          have hN : y_sl (.inr (.inr (.inl n.toNatClampNeg))) = n.toNatClampNeg := rfl
          rw [hN] at hrs
          refine y_newa (atype := .long) hx hb (hts _ hAC.2) (show s.vm.findClass ("[" ++ FieldType.long.toString) = some (cA 1) from hR) hP (a0 := (n.toNatClampNeg, .inr (.inl (fun _ => 0)))) (fun _ => rfl) (nn n hn.1).1 rfl (by show n.toNatClampNeg * 8 ≤ _; omega) (by omega) (by omega) hd hsz (fun H1 z1 p1 o1 => ?_)
          refine W.cs (by rw [List.length_append, List.length_singleton]; omega) (by rw [y_sum_push, hN]; omega) (kk ls H1 locs hl ?_ ?_ (y_S_new hS hsz z1 o1))
          · rw [z1, List.length_append, List.length_singleton]
            omega
          · rw [y_ws_push]
            exact p1
        · cases hstep
      · cases hstep
    · cases hstep
  case anewarray i =>
    simp only [y_step] at hstep
    simp only [Bool.and_eq_true, decide_eq_true_eq] at hchk
    obtain ⟨rfl, h2⟩ := hchk
    split at hstep
    · rename_i n r
      split at hstep
      · rename_i hn
        cases hstep
        obtain ⟨kA, comp, f1, f2, f3, f4⟩ := (hK.2 2 _ hty3).2
        have e3 := (nn n hn.1).2
        rw [y_sum_push] at hrs
        rw [List.length_append, List.length_singleton] at hrc
        have hN : y_sl (.inr (.inr (.inr (List.replicate n.toNatClampNeg none)))) = n.toNatClampNeg := by
          show (List.replicate n.toNatClampNeg none).length = _
          rw [List.length_replicate]
        rw [hN] at hrs
        refine y_newq hx hb hown (hts _ (hWs _ (List.mem_of_getElem? h2) rfl)) hAO f4 hP (nn n hn.1).1 rfl (by omega) (by omega) (by omega) hd hsz (fun H1 z1 p1 o1 => ?_)
        refine W.cs (by rw [List.length_append, List.length_singleton]; omega) (by rw [y_sum_push, hN]; omega) (kk ls H1 locs hl ?_ ?_ (y_S_new hS hsz z1 o1))
        · rw [z1, List.length_append, List.length_singleton]
          omega
        · rw [y_ws_push]
          have e9 : y_cell b cA (.inr (.inr (.inr (List.replicate n.toNatClampNeg none)))) = .inl (cA 2, n.toNatClampNeg, .inr (.inr (.inr (.inr (fun _ => none))))) := by
            show Sum.inl (cA 2, (List.replicate n.toNatClampNeg none).length, _) = _
            rw [List.length_replicate]
            congr 7
            funext j
            by_cases hj : j < n.toNatClampNeg
            · simp [List.getD, hj]
            · simp [List.getD, hj]
          rw [e9]
          exact p1
      · cases hstep
    · cases hstep
  case getfield i =>
    simp only [y_step] at hstep
    simp only [Bool.and_eq_true, decide_eq_true_eq] at hchk
    obtain ⟨⟨rfl, h2⟩, hq⟩ := hchk
    unfold z_cf at h2
    split at h2
    · rename_i C T N hc
      simp only [Bool.and_eq_true, decide_eq_true_eq] at h2
      obtain ⟨⟨⟨hb1, hb2⟩, hb3⟩, hb4⟩ := h2
      rw [if_pos hq, decide_eq_true_eq] at hb4
      obtain ⟨g1, g2, -, -⟩ := hCL a C T N hc
      split at hstep
      · rename_i g o r
        split at hstep
        · rename_i ci fs ho
          split at hstep
          · rename_i hca
            split at hstep
            · rename_i x hf
              cases hstep
              subst hca
              have he := y_ws_at (b := b) (cA := cA) ho
              exact va_get hx hb hts g1 hown hK hP o he hc b1 hb1 (hts _ (hWs _ (List.mem_of_getElem? hb4) rfl)) (fun x h9 => by rw [hb2] at h9; exact h9) (v := .ref (y_ad b x)) (by rw [List.getElem?_map, hf]; rfl) hd (kk0 rfl ls hl)
            · cases hstep
          · cases hstep
        · cases hstep
      · cases hstep
    · cases h2
  case putfield i =>
    simp only [y_step] at hstep
    rw [Bool.and_eq_true, Bool.and_eq_true, Bool.and_eq_true, decide_eq_true_eq, decide_eq_true_eq] at hchk
    obtain ⟨⟨⟨rfl, h2⟩, hq⟩, h3⟩ := hchk
    unfold z_cf at h2
    split at h2
    · rename_i C T N hc
      rw [hc] at h3
      simp only [Bool.and_eq_true, decide_eq_true_eq] at h2
      dsimp only at h3
      rw [Bool.and_eq_true, decide_eq_true_eq] at h3
      obtain ⟨⟨⟨hb1, hb2⟩, hb3⟩, hb4⟩ := h2
      obtain ⟨hCo, hty⟩ := h3
      rw [if_pos hq, decide_eq_true_eq] at hb4
      obtain ⟨g1, g2, ⟨ty0, g3⟩, g4⟩ := hCL a C T N hc
      split at hstep
      · rename_i v g o r
        split at hstep
        · rename_i ci fs ho
          split at hstep
          · rename_i hca
            obtain ⟨hca, hbl⟩ := hca
            subst hca
            have he := y_ws_at (b := b) (cA := cA) ho
            have fin : ∀ (ty : FieldType) (u : z_V), parseFieldDescriptor (T b1).2.2.1 = some ty → narrow ty (z_v (y_ad b) u) = z_v (y_ad b) u → fits ty (z_v (y_ad b) u) = true → h' = h.set o (.inl (ci, fs.set b1 u)) → L' = L → st' = r → pc' = pc + 3 → W p l e R s m args below meth c H locs cells slots Q (F0 m pc ls (z_v (y_ad b) u :: Value.ref (y_ad b (g, o)) :: r.map (z_v (y_ad b)))) := by
              intro ty u hp hn hf e1 e2 e3 e4
              subst e1; subst e2; subst e3; subst e4
              have hset : (y_ws b cA h).set o (b + o, .inr (ci, (fs.map (z_v (y_ad b))).set b1 (z_v (y_ad b) u))) = y_ws b cA (h.set o (.inl (ci, fs.set b1 u))) := by
                rw [← y_ws_set ho]
                congr 2
                show _ = Sum.inr (ci, (fs.set b1 u).map (z_v (y_ad b)))
                rw [List.map_set]
              have go : ∀ (H1 : Heap) (locs1 : List Loc), H1.size = H.size → va_P D cl ((y_ws b cA h).set o (b + o, .inr (ci, (fs.map (z_v (y_ad b))).set b1 (z_v (y_ad b) u)))) H1 → va_S (fun q => b ≤ q) H0 H1 locs1 → W p l e R s m args below meth c H1 locs1 cells slots Q (F0 m (pc + 3) ls (st'.map (z_v (y_ad b)))) := by
                intro H1 locs1 hz k1 k3
                refine W.cs (by rw [List.length_set]; omega) (by rw [y_sum_set ho (by show (fs.set b1 u).length = fs.length; rw [List.length_set])]; omega) (kk ls H1 locs1 hl (by rw [hz, hsz, List.length_set]) (by rw [← hset]; exact k1) k3)
              by_cases hfin : (T b1).2.2.2 = true
              · exact y_putF hx hb hts g1 ty0 g3 g4 hown hK hP hD hS o he hc b1 hb1 (hts _ (hWs _ (List.mem_of_getElem? hb4) rfl)) (fun x h9 => by rw [hb2] at h9; exact h9) hfin hnm (by rw [hb2, hCo]) hp hn hf (by simpa using hbl) hd go
              · exact y_put hx hb hts g1 ty0 g3 g4 hown hK hP hD hS o he hc b1 hb1 (hts _ (hWs _ (List.mem_of_getElem? hb4) rfl)) (fun x h9 => by rw [hb2] at h9; exact h9) (by simpa using hfin) hp hn hf (by simpa using hbl) hd go
            split at hstep
            · rename_i x
              cases hstep
              split at hty <;> first | (rename_i hp; exact fin .int (.inl x) hp rfl rfl rfl rfl rfl rfl) | (simp at hty)
            · rename_i x
              split at hstep
              · rename_i hx01
                cases hstep
                split at hty <;> first | (rename_i hp; exact fin .boolean (.inl x) hp (by rcases hx01 with rfl | rfl <;> rfl) (by rcases hx01 with rfl | rfl <;> rfl) rfl rfl rfl rfl) | (simp at hty)
              · cases hstep
            · rename_i x
              cases hstep
              split at hty <;> first | (rename_i nm hp; exact fin (.object nm) (.inr (.inr (some x))) hp rfl rfl rfl rfl rfl rfl) | (rename_i nm hp; exact fin (.array nm) (.inr (.inr (some x))) hp rfl rfl rfl rfl rfl rfl) | (simp at hty)
            · cases hstep
          · cases hstep
        · cases hstep
      · cases hstep
    · cases h2
  case aastore =>
    simp only [y_step] at hstep
    simp only [Bool.and_eq_true, decide_eq_true_eq] at hchk
    obtain ⟨rfl, hjn⟩ := hchk
    split at hstep
    · rename_i g' v i g o r
      split at hstep
      · rename_i lst ci fs ho hv
        split at hstep
        · rename_i hh
          cases hstep
          obtain ⟨hca, hin⟩ := hh
          subst hca
          have he := y_ws_at (b := b) (cA := cA) ho
          have hev := y_ws_at (b := b) (cA := cA) hv
          cases hc : cl[ci]? with
          | none => rw [hc] at hjn; cases hjn
          | some r9 =>
            rw [hc] at hjn
            have hjn2 : r9.1 = jn := by simpa using hjn
            have hlt : i.toNatClampNeg < lst.length := Nat.not_le.mp fun q => (z_in_vp hin) (Or.inr q)
            refine y_astq hx hb hK hP hD hS o 2 v ci he (by rw [hjn2]; exact hty3) hev hc (z_in_vp hin) hd (fun H1 locs1 hz k1 k3 => ?_)
            refine W.cs (by rw [List.length_set]; omega) (by rw [y_sum_set ho (by show (lst.set _ _).length = lst.length; rw [List.length_set])]; omega) (kk ls H1 locs1 hl (by rw [hz, hsz, List.length_set]) ?_ k3)
            have hset : (y_ws b cA h).set o (b + o, .inl (cA 2, lst.length, .inr (.inr (.inr (.inr (va_up (fun j => (lst.getD j none).map (fun o => b + o)) i.toNatClampNeg (some (b + v)))))))) = y_ws b cA (h.set o (.inr (.inr (.inr (lst.set i.toNatClampNeg (some v)))))) := by
              rw [← y_ws_set ho]
              congr 2
              show _ = Sum.inl (cA 2, (lst.set i.toNatClampNeg (some v)).length, Sum.inr (Sum.inr (Sum.inr (Sum.inr (fun j => ((lst.set i.toNatClampNeg (some v)).getD j none).map (fun o => b + o))))))
              rw [List.length_set]
              congr 7
              funext j
              unfold va_up
              by_cases hj : j = i.toNatClampNeg
              · subst hj
                simp [List.getD, hlt]
              · rw [if_neg hj]
                simp [List.getD, List.getElem?_set_ne (Ne.symm hj)]
            rw [← hset]
            exact k1
        · cases hstep
      · cases hstep
    · cases hstep
  case invokespecial i =>
    simp only [y_step] at hstep
    rw [Bool.and_eq_true, decide_eq_true_eq] at hchk
    obtain ⟨rfl, h2⟩ := hchk
    split at hstep
    · split at hstep
      · split at hstep <;> cases hstep
      · cases hstep
    · rename_i ht
      split at hstep
      · rename_i x r
        split at hstep
        · rename_i hcat
          cases hstep
          split at h2
          · exact absurd rfl ht
          · simp only [Bool.and_eq_true, decide_eq_true_eq] at h2
            obtain ⟨⟨h3, h4⟩, h5⟩ := h2
            refine W.objInit hx hb hown (hts _ (hWs _ (List.mem_of_getElem? h3) rfl)) (hts _ hOB.1) (hts _ hOB.2) rfl (by rw [hml]; exact hl.1) rfl hd h4 ?_ ?_
            · show 2 * 0 + _ + 12 ≤ R.locals
              rw [z_cat_map]
              omega
            · exact W.eq rfl (kk0 rfl ls hl)
        · cases hstep
      · cases hstep
  case return_ =>
    simp only [y_step] at hstep
    split at hstep <;> cases hstep
  all_goals (simp only [y_step] at hstep; cases hstep)
end YS
end
section
set_option maxHeartbeats 4000000 in
set_option maxRecDepth 100000 in
theorem y_grow1 {fk : Nat → List Nat} {M : Nat → z_M} {I : z_I} {pc pc' : Nat} {L L' : z_L} {st st' : List z_V} {h h' : y_H} (hstep : y_step fk M I pc L st h = some (.inl (pc', L', st', h'))) : h.length ≤ h'.length ∧ y_sum h ≤ y_sum h' := by
  obtain ⟨ins, len, a, b, t, q, c0, d⟩ := I
  have push : ∀ e : y_E, h.length ≤ (h ++ [e]).length ∧ y_sum h ≤ y_sum (h ++ [e]) := fun e => ⟨by rw [List.length_append]; omega, by rw [y_sum_push]; omega⟩
  cases ins
  case putfield i =>
    simp only [y_step] at hstep
    split at hstep
    · rename_i v9 g9 o9 r9
      split at hstep
      · rename_i ci fs ho
        have fin : ∀ u, h.length ≤ (h.set o9 (Sum.inl (ci, fs.set b u))).length ∧ y_sum h ≤ y_sum (h.set o9 (Sum.inl (ci, fs.set b u))) := fun u => ⟨by rw [List.length_set]; omega, by rw [y_sum_set ho (by show (fs.set b u).length = fs.length; rw [List.length_set])]; omega⟩
        (repeat' split at hstep) <;> first | (cases hstep; done) | (cases hstep; exact fin _)
      · cases hstep
    · cases hstep
  case aastore =>
    simp only [y_step] at hstep
    split at hstep
    · split at hstep
      · rename_i lst ci fs ho hv
        split at hstep
        · cases hstep
          exact ⟨by rw [List.length_set]; omega, by rw [y_sum_set ho (by show (lst.set _ _).length = lst.length; rw [List.length_set])]; omega⟩
        · cases hstep
      · cases hstep
    · cases hstep
  case if_icmp cnd off =>
    cases cnd <;> (simp only [y_step] at hstep; (repeat' split at hstep) <;> first | (cases hstep; done) | (cases hstep; exact ⟨Nat.le_refl _, Nat.le_refl _⟩))
  all_goals (simp only [y_step] at hstep; first | (cases hstep; done) | (cases hstep; exact ⟨Nat.le_refl _, Nat.le_refl _⟩) | (cases hstep; exact push _) | ((repeat' split at hstep) <;> first | (cases hstep; done) | (cases hstep; exact ⟨Nat.le_refl _, Nat.le_refl _⟩) | (cases hstep; exact push _)))
theorem y_grow {fk : Nat → List Nat} {M : Nat → z_M} {C : Nat → Nat → Option z_I} : ∀ (n mi : Nat) (f : y_F) (h' : y_H), y_run fk M C n mi f = some h' → f.2.2.2.length ≤ h'.length ∧ y_sum f.2.2.2 ≤ y_sum h' := by
  intro n
  induction n with
  | zero => intro mi f h' hh; cases hh
  | succ n ih =>
    intro mi f h' hh
    obtain ⟨pc, L, st, h⟩ := f
    rw [y_run] at hh
    dsimp only
    cases hC : C mi pc with
    | none => rw [hC] at hh; cases hh
    | some I =>
      rw [hC] at hh
      dsimp only at hh
      cases hs : y_step fk M I pc L st h with
      | none => rw [hs] at hh; cases hh
      | some z =>
        rw [hs] at hh
        rcases z with f1 | rv | ⟨mj, as, rest⟩
        · dsimp only at hh
          obtain ⟨pc', L', st', h1⟩ := f1
          have g1 := y_grow1 hs
          have g2 := ih mi _ h' hh
          dsimp only at g2
          omega
        · cases hh
          exact ⟨Nat.le_refl _, Nat.le_refl _⟩
        · dsimp only at hh
          cases hr : y_run fk M C n mj (0, z_entry (M mj).2.2.1 as, [], h) with
          | none => rw [hr] at hh; cases hh
          | some h1 =>
            rw [hr] at hh
            have g1 := ih mj _ h1 hr
            have g2 := ih mi _ h' hh
            dsimp only at g1 g2
            omega
def y_rm (mt : z_M) (mc ms : Nat) : Room := { frames := mt.2.2.2.2.2.2.1, cells := mc, slots := ms, locals := mt.2.2.2.2.2.2.2 }
def y_Pc (b : Nat) (cA : Nat → ClassId) (D : va_G) (cl : List vw_C) (tys : List (ClassId × FieldType)) (jn : String) (as : List z_V) (h : y_H) : Array Value → State → Prop :=
  fun v U => v = (as.map (z_v (y_ad b))).toArray ∧ U.heap.size = b + h.length ∧ va_P D cl (y_ws b cA h) U.heap ∧ va_K D cl tys U ∧ va_AO jn U
def y_Qc (b : Nat) (cA : Nat → ClassId) (D : va_G) (cl : List vw_C) (h : y_H) : Array Value → State → Outcome → State → Prop :=
  fun _ st o t => o = .returned none ∧ t.heap.size = b + h.length ∧ va_P D cl (y_ws b cA h) t.heap ∧ va_F (fun q => b ≤ q) st t
def y_OK (fk : Nat → List Nat) (cA : Nat → ClassId) (cl : List vw_C) (tys : List (ClassId × FieldType)) (Ts Ws : List Jvm.Cond) (jn : String) (nM : Nat) (M : Nat → z_M) (C : Nat → Nat → Option z_I) : Prop :=
  (∀ w ∈ Ws, goodWord w = true → w ∈ Ts) ∧ (∀ w ∈ Ts, goodWord w = true) ∧ (tys[0]? = some (cA 0, .int) ∧ tys[1]? = some (cA 1, .long) ∧ tys[2]? = some (cA 2, .object jn)) ∧ z_CL cl fk Ts ∧
  (∀ ci C T N, cl[ci]? = some (C, T, N) → (∀ j, j < N → (parseFieldDescriptor (T j).2.2.1).map defaultValue = some (if (fk ci).getD j 0 = 2 then .null else .int 0)) ∧ Jvm.Cond.instantiable C N ∈ Ts ∧ Jvm.Cond.initialized C ∈ Ts) ∧
  (Jvm.Cond.arrayClass .int ∈ Ts ∧ Jvm.Cond.arrayClass .long ∈ Ts) ∧ (Jvm.Cond.instanceMethod Lib.objectInit ∈ Ts ∧ Jvm.Cond.code Lib.objectInit ⟨#[0xb1]⟩ 1 none ∈ Ts) ∧
  (∀ mi, mi < nM → y_MO Ts (M mi)) ∧ (∀ mi pc I, mi < nM → C mi pc = some I → y_chk cl fk nM M Ws jn (M mi).1.cls (M mi).2.1 (M mi).2.2.2.2.2.2.1 (M mi).2.2.2.2.2.2.2 pc I = true)
def y_WR (l : Launch) (fk : Nat → List Nat) (b : Nat) (cA : Nat → ClassId) (D : va_G) (cl : List vw_C) (tys : List (ClassId × FieldType)) (Ts : List Jvm.Cond) (jn : String) (nM : Nat) (M : Nat → z_M) (C : Nat → Nat → Option z_I) (n : Nat) : Prop :=
  ∀ (p : Program) (e : Env) (s : State) (m : MethodId) (args : Array Value) (below : List Frame) (meth : Method) (c : Code) (mi mc ms : Nat), mi < nM → p.tables.exec = Jvm.exec → c.code = (M mi).2.1 → c.maxLocals = (M mi).2.2.1 → meth.sig.returnType = none → meth.locks = false → s.vm.findClass (M mi).1.cls = some m.cls → meth.name = "<init>" → (∀ w ∈ Ts, w.before args s = true) → va_K D cl tys s → va_AO jn s →
    ∀ (f : y_F) (h' : y_H), y_run fk M C n mi f = some h' → ∀ (ls : Array Slot) (H : Heap) (locs : List Loc) (cells slots : Nat), z_hl (y_ad b) ls (M mi).2.2.1 f.2.1 → H.size = b + f.2.2.2.length → va_P D cl (y_ws b cA f.2.2.2) H → va_S (fun q => b ≤ q) s.heap H locs →
      cells + (h'.length - f.2.2.2.length) = mc → slots + (y_sum h' - y_sum f.2.2.2) = ms →
      W p l e (y_rm (M mi) mc ms) s m args below meth c H locs cells slots (MQ below (y_Qc b cA D cl h') args s mc ms (fun q => b ≤ q)) (F0 m f.1 ls (f.2.2.1.map (z_v (y_ad b))))
section YM
variable {l : Launch} {fk : Nat → List Nat} {b : Nat} {cA : Nat → ClassId} {D : va_G} {cl : List vw_C} {tys : List (ClassId × FieldType)} {Ts Ws : List Jvm.Cond} {jn : String} {nM : Nat} {M : Nat → z_M} {C : Nat → Nat → Option z_I}
theorem y_met {n : Nat} (IH : y_WR l fk b cA D cl tys Ts jn nM M C n) (ok : y_OK fk cA cl tys Ts Ws jn nM M C) {mi : Nat} (hmi : mi < nM) {as : List z_V} {h h' : y_H}
    (hh : y_run fk M C n mi (0, z_entry (M mi).2.2.1 as, [], h) = some h') (hal : (z_args as).length ≤ (M mi).2.2.1) :
    Met l (M mi).1 (z_wm Ts (M mi)) (y_rm (M mi) (h'.length - h.length) (y_sum h' - y_sum h)) (y_Pc b cA D cl tys jn as h) (y_Qc b cA D cl h') (h'.length - h.length) (y_sum h' - y_sum h) (fun q => b ≤ q) := by
  obtain ⟨o1, o2, o3, o4, o5, o6, o7, o8, o9⟩ := ok
  obtain ⟨m1, m2, m3, m4, m5, m6, m7, m8⟩ := o8 mi hmi
  refine Met.ofW (cc := (M mi).2.1) (maxL := (M mi).2.2.1) (ret := (M mi).2.2.2.1) m1 rfl ?_
  intro p e s m args below meth c s₁ B hml hv
  obtain ⟨rfl, hsz, hP, hK, hAO⟩ := hv
  have hts := atoms_spec (ws := z_wm Ts (M mi)) B.pre
  have hnm : meth.name = "<init>" := (name_of_methodNamed B.named B.method).1.trans m7
  rw [lg_entry_eq]
  exact IH p e s m _ below meth c mi _ _ hmi B.exec B.bytes hml (B.returns.trans m8) B.notSynchronized (findClass_of_methodNamed B.named) hnm (fun w hw => hts w (List.mem_cons_of_mem _ hw)) hK hAO (0, z_entry (M mi).2.2.1 as, [], h) h' hh _ _ [] 0 0 (z_entry_hl (y_ad b) as hal) hsz hP va_S.rf (Nat.zero_add _) (Nat.zero_add _)
set_option maxHeartbeats 4000000 in
set_option maxRecDepth 100000 in
theorem y_wr (ok : y_OK fk cA cl tys Ts Ws jn nM M C) : ∀ n, y_WR l fk b cA D cl tys Ts jn nM M C n := by
  intro n
  induction n with
  | zero =>
    intro p e s m args below meth c mi mc ms hmi hx hb hml hr hlk hown hnm hts hK hAO f h' hh
    cases hh
  | succ n ih =>
    intro p e s m args below meth c mi mc ms hmi hx hb hml hr hlk hown hnm hts hK hAO f h' hh ls H locs cells slots hl hsz hP hS hmc hms
    obtain ⟨pc, L, st, h⟩ := f
    have ok' := ok
    obtain ⟨o1, o2, ⟨o3a, o3b, o3c⟩, o4, o5, o6, o7, o8, o9⟩ := ok'
    dsimp only at hl hsz hP hmc hms
    rw [y_run] at hh
    cases hC : C mi pc with
    | none => rw [hC] at hh; cases hh
    | some I =>
      rw [hC] at hh
      dsimp only at hh
      have hchk := o9 mi pc I hmi hC
      cases hst0 : y_step fk M I pc L st h with
      | none => rw [hst0] at hh; cases hh
      | some z =>
        rw [hst0] at hh
        rcases z with f1 | rv | ⟨mj, as, rest⟩
        · dsimp only at hh
          obtain ⟨pc', L', st', h1⟩ := f1
          have g1 := y_grow1 hst0
          have g2 := y_grow n mi _ h' hh
          dsimp only at g2
          exact y_next (R := y_rm (M mi) mc ms) hx hb hown hnm hts o1 hK hAO o3a o3b o3c o4 o5 o6 o7 hml hchk hst0 hl hsz hP hS (show cells + (h1.length - h.length) ≤ mc by omega) (show slots + (y_sum h1 - y_sum h) ≤ ms by omega)
            (fun ls' H' locs' b1 b2 b3 b4 => ih p e s m args below meth c mi mc ms hmi hx hb hml hr hlk hown hnm hts hK hAO (pc', L', st', h1) h' hh ls' H' locs' _ _ b1 b2 b3 b4 (by show cells + (h1.length - h.length) + (h'.length - h1.length) = mc; omega) (by show slots + (y_sum h1 - y_sum h) + (y_sum h' - y_sum h1) = ms; omega))
        · cases hh
          -- the end
          have e1 : cells = mc := by omega
          have e2 : slots = ms := by omega
          subst e1; subst e2
          obtain ⟨ins, len, a, b1, t, q, c0, d⟩ := I
          unfold y_chk at hchk
          rw [Bool.and_eq_true, decide_eq_true_eq] at hchk
          obtain ⟨hd, hchk⟩ := hchk
          dsimp only at hd hchk
          have hret : ins = .return_ ∧ st = [] := by
            cases ins
            case return_ =>
              simp only [y_step] at hst0
              split at hst0
              · exact ⟨rfl, rfl⟩
              · cases hst0
            case if_icmp cnd off =>
              cases cnd <;> (simp only [y_step] at hst0; (repeat' split at hst0) <;> cases hst0)
            all_goals (simp only [y_step] at hst0; first | (cases hst0; done) | ((repeat' split at hst0) <;> cases hst0))
          obtain ⟨rfl, rfl⟩ := hret
          simp only [decide_eq_true_eq] at hchk
          subst hchk
          exact W.vret hx hb hr (fun t ht _ => ⟨rfl, by rw [ht]; exact hsz, by rw [ht]; exact hP, hS.F ht⟩) hS.2.2 hd hlk
        · dsimp only at hh
          cases hrun : y_run fk M C n mj (0, z_entry (M mj).2.2.1 as, [], h) with
          | none => rw [hrun] at hh; cases hh
          | some h1 =>
            rw [hrun] at hh
            dsimp only at hh
            have g1 := y_grow n mj _ h1 hrun
            have g2 := y_grow n mi _ h' hh
            dsimp only at g1 g2
            obtain ⟨ins, len, a, b1, t, q, c0, d⟩ := I
            unfold y_chk at hchk
            rw [Bool.and_eq_true, decide_eq_true_eq] at hchk
            obtain ⟨hd, hchk⟩ := hchk
            dsimp only at hd hchk
            cases ins
            case invokespecial i =>
              simp only [y_step] at hst0
              rw [Bool.and_eq_true, decide_eq_true_eq] at hchk
              obtain ⟨rfl, h2⟩ := hchk
              split at hst0
              · split at hst0
                · rename_i hg
                  split at hst0
                  · rename_i x as' he
                    cases hst0
                    obtain ⟨k1, k2, k3⟩ := hg
                    simp only [Bool.and_eq_true, decide_eq_true_eq] at h2
                    obtain ⟨h2, h3⟩ := h2
                    unfold z_cr at h3
                    simp only [Bool.and_eq_true, decide_eq_true_eq] at h3
                    obtain ⟨⟨r1, r2⟩, r3⟩ := h3
                    obtain ⟨m1, m2, m3, m4, m5, m6, m7, m8⟩ := o8 mj r1
                    have hstk : st = ((st.take (M mj).2.2.2.2.1).reverse).reverse ++ st.drop (M mj).2.2.2.2.1 := by rw [List.reverse_reverse, List.take_append_drop]
                    have hlen : ((st.take (M mj).2.2.2.2.1).reverse).length = (M mj).2.2.2.2.1 := by rw [List.length_reverse, List.length_take]; omega
                    rw [he] at hstk hlen hrun k3
                    have hpar : ∀ sig, parseMethodDescriptor (M mj).1.desc = some sig → as'.length = sig.parameters.length := by
                      intro sig hsig
                      have := m5 sig hsig
                      simp only [List.length_cons] at hlen
                      omega
                    have hstack : (st.map (z_v (y_ad b))) = (as'.map (z_v (y_ad b))).reverse ++ Value.ref (y_ad b x) :: (st.drop (M mj).2.2.2.2.1).map (z_v (y_ad b)) := by
                      conv => lhs; rw [hstk]
                      simp [z_v]
                    have hMet := y_met ih ok r1 hrun k3
                    have blind : FrameBlind (y_Pc b cA D cl tys jn ((.inr (.inr (some x))) :: as') h) := by
                      intro a U g mk hq
                      obtain ⟨q0, q1, qP, qK, qA⟩ := hq
                      exact ⟨q0, q1, qP, va_K.moved (u := U) (U := U.calling g mk a) (Vm.Alike.refl U.vm) qK, va_AO.moved (u := U) (U := U.calling g mk a) (Vm.Alike.refl U.vm) qA⟩
                    have pre : ∀ U : State, U.heap = H → s.WarmedH U.vm → y_Pc b cA D cl tys jn ((.inr (.inr (some x))) :: as') h (Value.ref (y_ad b x) :: as'.map (z_v (y_ad b))).toArray U := fun U hU hW =>
                      ⟨rfl, by rw [hU]; exact hsz, by rw [hU]; exact hP, va_K.moved hW.alike hK, va_AO.moved hW.alike hAO⟩
                    have hrunI := va_runI (p := p) (l := l) (e := e) (R := y_rm (M mi) mc ms) (s := s) (m := m) (args := args) (below := below) (meth := meth) (c := c) (H := H) (locs := locs) (cells := cells) (slots := slots) (cc := (M mi).2.1) (nL := (M mi).2.2.1) (Ts := Ts) (own := (M mi).1.cls) (b := y_ad b x) (As := as'.map (z_v (y_ad b))) (rest := (st.drop (M mj).2.2.2.2.1).map (z_v (y_ad b))) (g := F0 m pc ls (st.map (z_v (y_ad b)))) (index := i) (bytes := (M mj).2.1) (maxL := (M mj).2.2.1) (n := as'.length)
                      ⟨hx, hb, hml, hown, hts⟩ hMet
                      ⟨⟨rfl, rfl, r2, r3, fun w hw a' U hW => by
                          have hwT : w ∈ Ts := by
                            rcases List.mem_cons.mp hw with rfl | hw
                            · exact m3
                            · exact hw
                          exact word_at hW (good_of_word (o2 w hwT)) (hts w hwT), by rw [← m8]; exact List.mem_cons_self, by rw [← m8]; exact hts _ m3, hts _ m4, m2, hpar, hts _ (o1 _ (List.mem_of_getElem? h2) rfl)⟩, m7, hts _ m6⟩
                      ⟨blind, pre⟩ rfl (by simp) hl.1 hstack (lv_room (by rw [z_cat_map]; exact k2)) hd
                      ⟨show cells + (h1.length - h.length) ≤ mc by omega, show slots + (y_sum h1 - y_sum h) ≤ ms by omega⟩
                    intro T hT X
                    obtain ⟨v, st₀, t, T', Lx, t0, X', hLx, e1, e2, hq, stp⟩ := hrunI T hT X
                    obtain ⟨q1, q2, q3, q4⟩ := hq
                    cases q1
                    have hS' : va_S (fun q => b ≤ q) s.heap T'.heap (locs ++ Lx) := by
                      refine ⟨Nat.le_trans hS.1 (by rw [e1, ← t0]; exact q4.1), fun q g3 g4 => ?_, fun x9 hx9 => ?_⟩
                      · rw [e1, q4.2 q (by rw [t0]; exact Nat.lt_of_lt_of_le g3 hS.1) g4, t0]
                        exact hS.2.1 q g3 g4
                      · rcases List.mem_append.mp hx9 with h9 | h9
                        · exact hS.2.2 x9 h9
                        · exact hLx x9 h9
                    obtain ⟨t2, a1, b9⟩ := ih p e s m args below meth c mi mc ms hmi hx hb hml hr hlk hown hnm hts hK hAO (pc + 3, L, st.drop (M mj).2.2.2.2.1, h1) h' hh ls T'.heap (locs ++ Lx) (cells + (h1.length - h.length)) (slots + (y_sum h1 - y_sum h)) hl (by rw [e1]; exact q2) (by rw [e1]; exact q3) hS' (by show _ + (h'.length - h1.length) = mc; omega) (by show _ + (y_sum h' - y_sum h1) = ms; omega) T' rfl X'
                    exact ⟨t2, stp t2 a1, b9⟩
                  · cases hst0
                · cases hst0
              · (repeat' split at hst0) <;> cases hst0
            case if_icmp cnd off =>
              cases cnd <;> (simp only [y_step] at hst0; (repeat' split at hst0) <;> cases hst0)
            all_goals (simp only [y_step] at hst0; first | (cases hst0; done) | ((repeat' split at hst0) <;> cases hst0))
theorem y_main (ok : y_OK fk cA cl tys Ts Ws jn nM M C) {n mi : Nat} (hmi : mi < nM) {as : List z_V} {h h' : y_H}
    (hh : y_run fk M C n mi (0, z_entry (M mi).2.2.1 as, [], h) = some h') (hal : (z_args as).length ≤ (M mi).2.2.1) :
    Met l (M mi).1 (z_wm Ts (M mi)) (y_rm (M mi) (h'.length - h.length) (y_sum h' - y_sum h)) (y_Pc b cA D cl tys jn as h) (y_Qc b cA D cl h') (h'.length - h.length) (y_sum h' - y_sum h) (fun q => b ≤ q) := y_met (y_wr ok n) ok hmi hh hal
end YM
end
section
/-! the constructors: tables, checks, what they make -/
def ym0 : z_M := (⟨"PrintHouse$Bytes", "<init>", "(I)V"⟩, prog_2_method_1_code, 2, none, 2, 5, 1, 20)
def ym1 : z_M := (⟨"PrintHouse$Disk", "<init>", "()V"⟩, prog_3_method_1_code, 1, none, 1, 9, 1, 20)
def ym2 : z_M := (⟨"PrintHouse$Job", "<init>", "()V"⟩, prog_4_method_1_code, 1, none, 1, 7, 1, 20)
def ym3 : z_M := (⟨"PrintHouse$Message", "<init>", "(LPrintHouse$Bytes;)V"⟩, prog_5_method_1_code, 2, none, 2, 6, 1, 20)
def ym4 : z_M := (⟨"PrintHouse$PageReader", "<init>", "(LPrintHouse$Bytes;)V"⟩, prog_6_method_1_code, 2, none, 2, 8, 1, 20)
def ym5 : z_M := (⟨"PrintHouse$Press", "<init>", "()V"⟩, prog_7_method_1_code, 1, none, 1, 11, 2, 41)
def ym6 : z_M := (⟨"PrintHouse$Spool", "<init>", "(LPrintHouse$Disk;)V"⟩, prog_8_method_1_code, 3, none, 2, 10, 2, 40)
def ym7 : z_M := (⟨"PrintHouse", "<init>", "()V"⟩, prog_1_method_1_code, 1, none, 1, 4, 3, 62)
def ym8 : z_M := (⟨"PrintHouseModel", "<init>", "()V"⟩, prog_10_method_1_code, 1, none, 1, 12, 1, 20)
def yM (i : Nat) : z_M := (cond (Nat.blt i 4) (cond (Nat.blt i 2) (cond (Nat.blt i 1) ym0 ym1) (cond (Nat.blt i 3) ym2 ym3)) (cond (Nat.blt i 6) (cond (Nat.blt i 5) ym4 ym5) (cond (Nat.blt i 7) ym6 (cond (Nat.blt i 8) ym7 ym8))))
-- PrintHouse$Bytes.<init> (I)V
def yc0 (pc : Nat) : Option z_I := cond (Nat.blt pc 12)
  (cond (Nat.blt pc 5)
   (cond (Nat.blt pc 1)
    (cond (Nat.beq pc 0) (some (.aload_n 0, 1, 0, 0, 0, 0, 0, 0)) none)
    (cond (Nat.blt pc 4)
     (cond (Nat.beq pc 1) (some (.invokespecial 3, 3, 0, 0, 1, 107, 0, 0)) none)
     (cond (Nat.beq pc 4) (some (.aload_n 0, 1, 0, 0, 0, 0, 0, 0)) none)))
   (cond (Nat.blt pc 8)
    (cond (Nat.blt pc 6)
     (cond (Nat.beq pc 5) (some (.iload_n 1, 1, 0, 0, 0, 0, 0, 0)) none)
     (cond (Nat.beq pc 6) (some (.newarray .int, 2, 0, 0, 0, 0, 0, 0)) none))
    (cond (Nat.blt pc 11)
     (cond (Nat.beq pc 8) (some (.putfield 9, 3, 1, 0, 2, 216, 0, 0)) none)
     (cond (Nat.beq pc 11) (some (.return_, 1, 0, 0, 0, 0, 0, 0)) none)))) none
-- PrintHouse$Disk.<init> ()V
def yc1 (pc : Nat) : Option z_I := cond (Nat.blt pc 15)
  (cond (Nat.blt pc 6)
   (cond (Nat.blt pc 4)
    (cond (Nat.blt pc 1)
     (cond (Nat.beq pc 0) (some (.aload_n 0, 1, 0, 0, 0, 0, 0, 0)) none)
     (cond (Nat.beq pc 1) (some (.invokespecial 3, 3, 0, 0, 1, 238, 0, 0)) none))
    (cond (Nat.blt pc 5)
     (cond (Nat.beq pc 4) (some (.aload_n 0, 1, 0, 0, 0, 0, 0, 0)) none)
     (cond (Nat.beq pc 5) (some (.iconst 1, 1, 0, 0, 0, 0, 1, 0)) none)))
   (cond (Nat.blt pc 10)
    (cond (Nat.blt pc 9)
     (cond (Nat.beq pc 6) (some (.putfield 9, 3, 5, 2, 1, 486, 0, 0)) none)
     (cond (Nat.beq pc 9) (some (.aload_n 0, 1, 0, 0, 0, 0, 0, 0)) none))
    (cond (Nat.blt pc 11)
     (cond (Nat.beq pc 10) (some (.iconst (-1), 1, 0, 0, 0, 0, (-1), 0)) none)
     (cond (Nat.blt pc 14)
      (cond (Nat.beq pc 11) (some (.putfield 15, 3, 5, 3, 0, 488, 0, 0)) none)
      (cond (Nat.beq pc 14) (some (.return_, 1, 0, 0, 0, 0, 0, 0)) none))))) none
-- PrintHouse$Job.<init> ()V
def yc2 (pc : Nat) : Option z_I := cond (Nat.blt pc 18)
  (cond (Nat.blt pc 9)
   (cond (Nat.blt pc 4)
    (cond (Nat.blt pc 1)
     (cond (Nat.beq pc 0) (some (.aload_n 0, 1, 0, 0, 0, 0, 0, 0)) none)
     (cond (Nat.beq pc 1) (some (.invokespecial 3, 3, 0, 0, 1, 183, 0, 0)) none))
    (cond (Nat.blt pc 5)
     (cond (Nat.beq pc 4) (some (.aload_n 0, 1, 0, 0, 0, 0, 0, 0)) none)
     (cond (Nat.blt pc 7)
      (cond (Nat.beq pc 5) (some (.bipush 72, 2, 0, 0, 0, 0, 72, 0)) none)
      (cond (Nat.beq pc 7) (some (.newarray .int, 2, 0, 0, 0, 0, 0, 0)) none))))
   (cond (Nat.blt pc 13)
    (cond (Nat.blt pc 12)
     (cond (Nat.beq pc 9) (some (.putfield 9, 3, 3, 0, 2, 368, 0, 0)) none)
     (cond (Nat.beq pc 12) (some (.aload_n 0, 1, 0, 0, 0, 0, 0, 0)) none))
    (cond (Nat.blt pc 14)
     (cond (Nat.beq pc 13) (some (.iconst 1, 1, 0, 0, 0, 0, 1, 0)) none)
     (cond (Nat.blt pc 17)
      (cond (Nat.beq pc 14) (some (.putfield 15, 3, 3, 5, 0, 394, 0, 0)) none)
      (cond (Nat.beq pc 17) (some (.return_, 1, 0, 0, 0, 0, 0, 0)) none))))) none
-- PrintHouse$Message.<init> (LPrintHouse$Bytes;)V
def yc3 (pc : Nat) : Option z_I := cond (Nat.blt pc 34)
  (cond (Nat.blt pc 17)
   (cond (Nat.blt pc 6)
    (cond (Nat.blt pc 4)
     (cond (Nat.blt pc 1)
      (cond (Nat.beq pc 0) (some (.aload_n 0, 1, 0, 0, 0, 0, 0, 0)) none)
      (cond (Nat.beq pc 1) (some (.invokespecial 3, 3, 0, 0, 1, 125, 0, 0)) none))
     (cond (Nat.blt pc 5)
      (cond (Nat.beq pc 4) (some (.aload_n 0, 1, 0, 0, 0, 0, 0, 0)) none)
      (cond (Nat.beq pc 5) (some (.aload_n 1, 1, 0, 0, 0, 0, 0, 0)) none)))
    (cond (Nat.blt pc 10)
     (cond (Nat.blt pc 9)
      (cond (Nat.beq pc 6) (some (.putfield 9, 3, 2, 0, 2, 252, 0, 0)) none)
      (cond (Nat.beq pc 9) (some (.aload_n 0, 1, 0, 0, 0, 0, 0, 0)) none))
     (cond (Nat.blt pc 12)
      (cond (Nat.beq pc 10) (some (.bipush 34, 2, 0, 0, 0, 0, 34, 0)) none)
      (cond (Nat.blt pc 14)
       (cond (Nat.beq pc 12) (some (.newarray .int, 2, 0, 0, 0, 0, 0, 0)) none)
       (cond (Nat.beq pc 14) (some (.putfield 15, 3, 2, 1, 2, 254, 0, 0)) none)))))
   (cond (Nat.blt pc 25)
    (cond (Nat.blt pc 20)
     (cond (Nat.blt pc 18)
      (cond (Nat.beq pc 17) (some (.aload_n 0, 1, 0, 0, 0, 0, 0, 0)) none)
      (cond (Nat.beq pc 18) (some (.bipush 34, 2, 0, 0, 0, 0, 34, 0)) none))
     (cond (Nat.blt pc 22)
      (cond (Nat.beq pc 20) (some (.newarray .long, 2, 0, 0, 0, 0, 0, 0)) none)
      (cond (Nat.beq pc 22) (some (.putfield 19, 3, 2, 2, 2, 256, 0, 0)) none)))
    (cond (Nat.blt pc 28)
     (cond (Nat.blt pc 26)
      (cond (Nat.beq pc 25) (some (.aload_n 0, 1, 0, 0, 0, 0, 0, 0)) none)
      (cond (Nat.beq pc 26) (some (.bipush 34, 2, 0, 0, 0, 0, 34, 0)) none))
     (cond (Nat.blt pc 30)
      (cond (Nat.beq pc 28) (some (.newarray .long, 2, 0, 0, 0, 0, 0, 0)) none)
      (cond (Nat.blt pc 33)
       (cond (Nat.beq pc 30) (some (.putfield 23, 3, 2, 3, 2, 258, 0, 0)) none)
       (cond (Nat.beq pc 33) (some (.return_, 1, 0, 0, 0, 0, 0, 0)) none)))))) none
-- PrintHouse$PageReader.<init> (LPrintHouse$Bytes;)V
def yc4 (pc : Nat) : Option z_I := cond (Nat.blt pc 17)
  (cond (Nat.blt pc 9)
   (cond (Nat.blt pc 4)
    (cond (Nat.blt pc 1)
     (cond (Nat.beq pc 0) (some (.aload_n 0, 1, 0, 0, 0, 0, 0, 0)) none)
     (cond (Nat.beq pc 1) (some (.invokespecial 3, 3, 0, 0, 1, 170, 0, 0)) none))
    (cond (Nat.blt pc 5)
     (cond (Nat.beq pc 4) (some (.aload_n 0, 1, 0, 0, 0, 0, 0, 0)) none)
     (cond (Nat.blt pc 6)
      (cond (Nat.beq pc 5) (some (.aload_n 1, 1, 0, 0, 0, 0, 0, 0)) none)
      (cond (Nat.beq pc 6) (some (.putfield 9, 3, 4, 0, 2, 342, 0, 0)) none))))
   (cond (Nat.blt pc 11)
    (cond (Nat.blt pc 10)
     (cond (Nat.beq pc 9) (some (.aload_n 0, 1, 0, 0, 0, 0, 0, 0)) none)
     (cond (Nat.beq pc 10) (some (.iconst 4, 1, 0, 0, 0, 0, 4, 0)) none))
    (cond (Nat.blt pc 13)
     (cond (Nat.beq pc 11) (some (.newarray .int, 2, 0, 0, 0, 0, 0, 0)) none)
     (cond (Nat.blt pc 16)
      (cond (Nat.beq pc 13) (some (.putfield 15, 3, 4, 1, 2, 344, 0, 0)) none)
      (cond (Nat.beq pc 16) (some (.return_, 1, 0, 0, 0, 0, 0, 0)) none))))) none
-- PrintHouse$Press.<init> ()V
def yc5 (pc : Nat) : Option z_I := cond (Nat.blt pc 27)
  (cond (Nat.blt pc 12)
   (cond (Nat.blt pc 5)
    (cond (Nat.blt pc 1)
     (cond (Nat.beq pc 0) (some (.aload_n 0, 1, 0, 0, 0, 0, 0, 0)) none)
     (cond (Nat.blt pc 4)
      (cond (Nat.beq pc 1) (some (.invokespecial 3, 3, 0, 0, 1, 283, 0, 0)) none)
      (cond (Nat.beq pc 4) (some (.aload_n 0, 1, 0, 0, 0, 0, 0, 0)) none)))
    (cond (Nat.blt pc 8)
     (cond (Nat.beq pc 5) (some (.new 9, 3, 1, 0, 0, 284, 0, 0)) none)
     (cond (Nat.blt pc 9)
      (cond (Nat.beq pc 8) (some (.dup, 1, 0, 0, 0, 0, 0, 0)) none)
      (cond (Nat.beq pc 9) (some (.sipush 256, 3, 0, 0, 0, 0, 256, 0)) none))))
   (cond (Nat.blt pc 19)
    (cond (Nat.blt pc 15)
     (cond (Nat.beq pc 12) (some (.invokespecial 11, 3, 0, 0, 0, 285, 0, 0)) none)
     (cond (Nat.blt pc 18)
      (cond (Nat.beq pc 15) (some (.putfield 14, 3, 7, 0, 2, 572, 0, 0)) none)
      (cond (Nat.beq pc 18) (some (.aload_n 0, 1, 0, 0, 0, 0, 0, 0)) none)))
    (cond (Nat.blt pc 23)
     (cond (Nat.blt pc 21)
      (cond (Nat.beq pc 19) (some (.bipush 48, 2, 0, 0, 0, 0, 48, 0)) none)
      (cond (Nat.beq pc 21) (some (.newarray .int, 2, 0, 0, 0, 0, 0, 0)) none))
     (cond (Nat.blt pc 26)
      (cond (Nat.beq pc 23) (some (.putfield 20, 3, 7, 1, 2, 576, 0, 0)) none)
      (cond (Nat.beq pc 26) (some (.return_, 1, 0, 0, 0, 0, 0, 0)) none))))) none
-- PrintHouse$Spool.<init> (LPrintHouse$Disk;)V
def yc6 (pc : Nat) : Option z_I := cond (Nat.blt pc 51)
  (cond (Nat.blt pc 23)
   (cond (Nat.blt pc 10)
    (cond (Nat.blt pc 5)
     (cond (Nat.blt pc 1)
      (cond (Nat.beq pc 0) (some (.aload_n 0, 1, 0, 0, 0, 0, 0, 0)) none)
      (cond (Nat.blt pc 4)
       (cond (Nat.beq pc 1) (some (.invokespecial 3, 3, 0, 0, 1, 259, 0, 0)) none)
       (cond (Nat.beq pc 4) (some (.aload_n 0, 1, 0, 0, 0, 0, 0, 0)) none)))
     (cond (Nat.blt pc 6)
      (cond (Nat.beq pc 5) (some (.aload_n 1, 1, 0, 0, 0, 0, 0, 0)) none)
      (cond (Nat.blt pc 9)
       (cond (Nat.beq pc 6) (some (.putfield 9, 3, 6, 0, 2, 526, 0, 0)) none)
       (cond (Nat.beq pc 9) (some (.aload_n 0, 1, 0, 0, 0, 0, 0, 0)) none))))
    (cond (Nat.blt pc 18)
     (cond (Nat.blt pc 12)
      (cond (Nat.beq pc 10) (some (.bipush 20, 2, 0, 0, 0, 0, 20, 0)) none)
      (cond (Nat.blt pc 15)
       (cond (Nat.beq pc 12) (some (.anewarray 15, 3, 0, 0, 0, 260, 0, 0)) none)
       (cond (Nat.beq pc 15) (some (.putfield 17, 3, 6, 1, 2, 528, 0, 0)) none)))
     (cond (Nat.blt pc 20)
      (cond (Nat.blt pc 19)
       (cond (Nat.beq pc 18) (some (.iconst 0, 1, 0, 0, 0, 0, 0, 0)) none)
       (cond (Nat.beq pc 19) (some (.istore_n 2, 1, 0, 0, 0, 0, 0, 0)) none))
      (cond (Nat.blt pc 21)
       (cond (Nat.beq pc 20) (some (.iload_n 2, 1, 0, 0, 0, 0, 0, 0)) none)
       (cond (Nat.beq pc 21) (some (.bipush 20, 2, 0, 0, 0, 0, 20, 0)) none)))))
   (cond (Nat.blt pc 38)
    (cond (Nat.blt pc 30)
     (cond (Nat.blt pc 26)
      (cond (Nat.beq pc 23) (some (.if_icmp .ge 22, 3, 45, 0, 0, 0, 0, 0)) none)
      (cond (Nat.blt pc 27)
       (cond (Nat.beq pc 26) (some (.aload_n 0, 1, 0, 0, 0, 0, 0, 0)) none)
       (cond (Nat.beq pc 27) (some (.getfield 17, 3, 6, 1, 2, 528, 0, 0)) none)))
     (cond (Nat.blt pc 34)
      (cond (Nat.blt pc 31)
       (cond (Nat.beq pc 30) (some (.iload_n 2, 1, 0, 0, 0, 0, 0, 0)) none)
       (cond (Nat.beq pc 31) (some (.new 15, 3, 3, 0, 0, 260, 0, 0)) none))
      (cond (Nat.blt pc 35)
       (cond (Nat.beq pc 34) (some (.dup, 1, 0, 0, 0, 0, 0, 0)) none)
       (cond (Nat.beq pc 35) (some (.invokespecial 21, 3, 2, 0, 0, 262, 0, 0)) none))))
    (cond (Nat.blt pc 45)
     (cond (Nat.blt pc 39)
      (cond (Nat.beq pc 38) (some (.aastore, 1, 3, 0, 0, 0, 0, 0)) none)
      (cond (Nat.blt pc 42)
       (cond (Nat.beq pc 39) (some (.iinc 2 1, 3, 0, 0, 0, 0, 1, 0)) none)
       (cond (Nat.beq pc 42) (some (.goto (-22), 3, 20, 0, 0, 0, 0, 0)) none)))
     (cond (Nat.blt pc 47)
      (cond (Nat.blt pc 46)
       (cond (Nat.beq pc 45) (some (.aload_n 0, 1, 0, 0, 0, 0, 0, 0)) none)
       (cond (Nat.beq pc 46) (some (.iconst 1, 1, 0, 0, 0, 0, 1, 0)) none))
      (cond (Nat.blt pc 50)
       (cond (Nat.beq pc 47) (some (.putfield 22, 3, 6, 3, 0, 534, 0, 0)) none)
       (cond (Nat.beq pc 50) (some (.return_, 1, 0, 0, 0, 0, 0, 0)) none)))))) none
-- PrintHouse.<init> ()V
def yc7 (pc : Nat) : Option z_I := cond (Nat.blt pc 111)
  (cond (Nat.blt pc 53)
   (cond (Nat.blt pc 24)
    (cond (Nat.blt pc 12)
     (cond (Nat.blt pc 5)
      (cond (Nat.blt pc 1)
       (cond (Nat.beq pc 0) (some (.aload_n 0, 1, 0, 0, 0, 0, 0, 0)) none)
       (cond (Nat.blt pc 4)
        (cond (Nat.beq pc 1) (some (.invokespecial 3, 3, 0, 0, 1, 99, 0, 0)) none)
        (cond (Nat.beq pc 4) (some (.aload_n 0, 1, 0, 0, 0, 0, 0, 0)) none)))
      (cond (Nat.blt pc 8)
       (cond (Nat.beq pc 5) (some (.new 9, 3, 1, 0, 0, 102, 0, 0)) none)
       (cond (Nat.blt pc 9)
        (cond (Nat.beq pc 8) (some (.dup, 1, 0, 0, 0, 0, 0, 0)) none)
        (cond (Nat.beq pc 9) (some (.sipush 240, 3, 0, 0, 0, 0, 240, 0)) none))))
     (cond (Nat.blt pc 19)
      (cond (Nat.blt pc 15)
       (cond (Nat.beq pc 12) (some (.invokespecial 11, 3, 0, 0, 0, 104, 0, 0)) none)
       (cond (Nat.blt pc 18)
        (cond (Nat.beq pc 15) (some (.putfield 14, 3, 0, 0, 2, 626, 0, 0)) none)
        (cond (Nat.beq pc 18) (some (.aload_n 0, 1, 0, 0, 0, 0, 0, 0)) none)))
      (cond (Nat.blt pc 22)
       (cond (Nat.beq pc 19) (some (.new 18, 3, 2, 0, 0, 120, 0, 0)) none)
       (cond (Nat.blt pc 23)
        (cond (Nat.beq pc 22) (some (.dup, 1, 0, 0, 0, 0, 0, 0)) none)
        (cond (Nat.beq pc 23) (some (.aload_n 0, 1, 0, 0, 0, 0, 0, 0)) none)))))
    (cond (Nat.blt pc 38)
     (cond (Nat.blt pc 33)
      (cond (Nat.blt pc 27)
       (cond (Nat.beq pc 24) (some (.getfield 14, 3, 0, 0, 2, 626, 0, 0)) none)
       (cond (Nat.blt pc 30)
        (cond (Nat.beq pc 27) (some (.invokespecial 20, 3, 3, 0, 0, 122, 0, 0)) none)
        (cond (Nat.beq pc 30) (some (.putfield 23, 3, 0, 1, 2, 628, 0, 0)) none)))
      (cond (Nat.blt pc 34)
       (cond (Nat.beq pc 33) (some (.aload_n 0, 1, 0, 0, 0, 0, 0, 0)) none)
       (cond (Nat.blt pc 37)
        (cond (Nat.beq pc 34) (some (.new 27, 3, 4, 0, 0, 165, 0, 0)) none)
        (cond (Nat.beq pc 37) (some (.dup, 1, 0, 0, 0, 0, 0, 0)) none))))
     (cond (Nat.blt pc 45)
      (cond (Nat.blt pc 39)
       (cond (Nat.beq pc 38) (some (.aload_n 0, 1, 0, 0, 0, 0, 0, 0)) none)
       (cond (Nat.blt pc 42)
        (cond (Nat.beq pc 39) (some (.getfield 14, 3, 0, 0, 2, 626, 0, 0)) none)
        (cond (Nat.beq pc 42) (some (.invokespecial 29, 3, 4, 0, 0, 167, 0, 0)) none)))
      (cond (Nat.blt pc 49)
       (cond (Nat.blt pc 48)
        (cond (Nat.beq pc 45) (some (.putfield 30, 3, 0, 2, 2, 630, 0, 0)) none)
        (cond (Nat.beq pc 48) (some (.aload_n 0, 1, 0, 0, 0, 0, 0, 0)) none))
       (cond (Nat.blt pc 52)
        (cond (Nat.beq pc 49) (some (.new 34, 3, 3, 0, 0, 178, 0, 0)) none)
        (cond (Nat.beq pc 52) (some (.dup, 1, 0, 0, 0, 0, 0, 0)) none))))))
   (cond (Nat.blt pc 82)
    (cond (Nat.blt pc 67)
     (cond (Nat.blt pc 60)
      (cond (Nat.blt pc 56)
       (cond (Nat.beq pc 53) (some (.invokespecial 36, 3, 2, 0, 0, 180, 0, 0)) none)
       (cond (Nat.blt pc 59)
        (cond (Nat.beq pc 56) (some (.putfield 37, 3, 0, 3, 2, 632, 0, 0)) none)
        (cond (Nat.beq pc 59) (some (.aload_n 0, 1, 0, 0, 0, 0, 0, 0)) none)))
      (cond (Nat.blt pc 63)
       (cond (Nat.beq pc 60) (some (.new 41, 3, 5, 0, 0, 233, 0, 0)) none)
       (cond (Nat.blt pc 64)
        (cond (Nat.beq pc 63) (some (.dup, 1, 0, 0, 0, 0, 0, 0)) none)
        (cond (Nat.beq pc 64) (some (.invokespecial 43, 3, 1, 0, 0, 235, 0, 0)) none))))
     (cond (Nat.blt pc 74)
      (cond (Nat.blt pc 70)
       (cond (Nat.beq pc 67) (some (.putfield 44, 3, 0, 4, 2, 634, 0, 0)) none)
       (cond (Nat.blt pc 71)
        (cond (Nat.beq pc 70) (some (.aload_n 0, 1, 0, 0, 0, 0, 0, 0)) none)
        (cond (Nat.beq pc 71) (some (.new 48, 3, 6, 0, 0, 254, 0, 0)) none)))
      (cond (Nat.blt pc 76)
       (cond (Nat.blt pc 75)
        (cond (Nat.beq pc 74) (some (.dup, 1, 0, 0, 0, 0, 0, 0)) none)
        (cond (Nat.beq pc 75) (some (.aload_n 0, 1, 0, 0, 0, 0, 0, 0)) none))
       (cond (Nat.blt pc 79)
        (cond (Nat.beq pc 76) (some (.getfield 44, 3, 0, 4, 2, 634, 0, 0)) none)
        (cond (Nat.beq pc 79) (some (.invokespecial 50, 3, 6, 0, 0, 256, 0, 0)) none)))))
    (cond (Nat.blt pc 96)
     (cond (Nat.blt pc 89)
      (cond (Nat.blt pc 85)
       (cond (Nat.beq pc 82) (some (.putfield 53, 3, 0, 5, 2, 636, 0, 0)) none)
       (cond (Nat.blt pc 86)
        (cond (Nat.beq pc 85) (some (.aload_n 0, 1, 0, 0, 0, 0, 0, 0)) none)
        (cond (Nat.beq pc 86) (some (.new 9, 3, 1, 0, 0, 102, 0, 0)) none)))
      (cond (Nat.blt pc 90)
       (cond (Nat.beq pc 89) (some (.dup, 1, 0, 0, 0, 0, 0, 0)) none)
       (cond (Nat.blt pc 93)
        (cond (Nat.beq pc 90) (some (.sipush 512, 3, 0, 0, 0, 0, 512, 0)) none)
        (cond (Nat.beq pc 93) (some (.invokespecial 11, 3, 0, 0, 0, 104, 0, 0)) none))))
     (cond (Nat.blt pc 103)
      (cond (Nat.blt pc 99)
       (cond (Nat.beq pc 96) (some (.putfield 57, 3, 0, 6, 2, 638, 0, 0)) none)
       (cond (Nat.blt pc 100)
        (cond (Nat.beq pc 99) (some (.aload_n 0, 1, 0, 0, 0, 0, 0, 0)) none)
        (cond (Nat.beq pc 100) (some (.new 60, 3, 7, 0, 0, 278, 0, 0)) none)))
      (cond (Nat.blt pc 107)
       (cond (Nat.blt pc 104)
        (cond (Nat.beq pc 103) (some (.dup, 1, 0, 0, 0, 0, 0, 0)) none)
        (cond (Nat.beq pc 104) (some (.invokespecial 62, 3, 5, 0, 0, 280, 0, 0)) none))
       (cond (Nat.blt pc 110)
        (cond (Nat.beq pc 107) (some (.putfield 63, 3, 0, 7, 2, 640, 0, 0)) none)
        (cond (Nat.beq pc 110) (some (.return_, 1, 0, 0, 0, 0, 0, 0)) none))))))) none
-- PrintHouseModel.<init> ()V
def yc8 (pc : Nat) : Option z_I := cond (Nat.blt pc 81)
  (cond (Nat.blt pc 41)
   (cond (Nat.blt pc 22)
    (cond (Nat.blt pc 10)
     (cond (Nat.blt pc 4)
      (cond (Nat.blt pc 1)
       (cond (Nat.beq pc 0) (some (.aload_n 0, 1, 0, 0, 0, 0, 0, 0)) none)
       (cond (Nat.beq pc 1) (some (.invokespecial 1, 3, 0, 0, 1, 875, 0, 0)) none))
      (cond (Nat.blt pc 5)
       (cond (Nat.beq pc 4) (some (.aload_n 0, 1, 0, 0, 0, 0, 0, 0)) none)
       (cond (Nat.blt pc 8)
        (cond (Nat.beq pc 5) (some (.sipush 240, 3, 0, 0, 0, 0, 240, 0)) none)
        (cond (Nat.beq pc 8) (some (.newarray .int, 2, 0, 0, 0, 0, 0, 0)) none))))
     (cond (Nat.blt pc 14)
      (cond (Nat.blt pc 13)
       (cond (Nat.beq pc 10) (some (.putfield 7, 3, 8, 3, 2, 1758, 0, 0)) none)
       (cond (Nat.beq pc 13) (some (.aload_n 0, 1, 0, 0, 0, 0, 0, 0)) none))
      (cond (Nat.blt pc 17)
       (cond (Nat.beq pc 14) (some (.sipush 260, 3, 0, 0, 0, 0, 260, 0)) none)
       (cond (Nat.blt pc 19)
        (cond (Nat.beq pc 17) (some (.newarray .int, 2, 0, 0, 0, 0, 0, 0)) none)
        (cond (Nat.beq pc 19) (some (.putfield 13, 3, 8, 5, 2, 1762, 0, 0)) none)))))
    (cond (Nat.blt pc 32)
     (cond (Nat.blt pc 26)
      (cond (Nat.blt pc 23)
       (cond (Nat.beq pc 22) (some (.aload_n 0, 1, 0, 0, 0, 0, 0, 0)) none)
       (cond (Nat.beq pc 23) (some (.sipush 1872, 3, 0, 0, 0, 0, 1872, 0)) none))
      (cond (Nat.blt pc 28)
       (cond (Nat.beq pc 26) (some (.newarray .int, 2, 0, 0, 0, 0, 0, 0)) none)
       (cond (Nat.blt pc 31)
        (cond (Nat.beq pc 28) (some (.putfield 16, 3, 8, 6, 2, 1764, 0, 0)) none)
        (cond (Nat.beq pc 31) (some (.aload_n 0, 1, 0, 0, 0, 0, 0, 0)) none))))
     (cond (Nat.blt pc 36)
      (cond (Nat.blt pc 33)
       (cond (Nat.beq pc 32) (some (.iconst 1, 1, 0, 0, 0, 0, 1, 0)) none)
       (cond (Nat.beq pc 33) (some (.putfield 19, 3, 8, 7, 0, 1766, 0, 0)) none))
      (cond (Nat.blt pc 37)
       (cond (Nat.beq pc 36) (some (.aload_n 0, 1, 0, 0, 0, 0, 0, 0)) none)
       (cond (Nat.blt pc 39)
        (cond (Nat.beq pc 37) (some (.bipush 60, 2, 0, 0, 0, 0, 60, 0)) none)
        (cond (Nat.beq pc 39) (some (.newarray .int, 2, 0, 0, 0, 0, 0, 0)) none))))))
   (cond (Nat.blt pc 60)
    (cond (Nat.blt pc 50)
     (cond (Nat.blt pc 45)
      (cond (Nat.blt pc 44)
       (cond (Nat.beq pc 41) (some (.putfield 23, 3, 8, 22, 2, 1796, 0, 0)) none)
       (cond (Nat.beq pc 44) (some (.aload_n 0, 1, 0, 0, 0, 0, 0, 0)) none))
      (cond (Nat.blt pc 46)
       (cond (Nat.beq pc 45) (some (.iconst (-1), 1, 0, 0, 0, 0, (-1), 0)) none)
       (cond (Nat.blt pc 49)
        (cond (Nat.beq pc 46) (some (.putfield 26, 3, 8, 23, 0, 1798, 0, 0)) none)
        (cond (Nat.beq pc 49) (some (.aload_n 0, 1, 0, 0, 0, 0, 0, 0)) none))))
     (cond (Nat.blt pc 55)
      (cond (Nat.blt pc 53)
       (cond (Nat.beq pc 50) (some (.sipush 800, 3, 0, 0, 0, 0, 800, 0)) none)
       (cond (Nat.beq pc 53) (some (.newarray .int, 2, 0, 0, 0, 0, 0, 0)) none))
      (cond (Nat.blt pc 58)
       (cond (Nat.beq pc 55) (some (.putfield 29, 3, 8, 24, 2, 1800, 0, 0)) none)
       (cond (Nat.blt pc 59)
        (cond (Nat.beq pc 58) (some (.aload_n 0, 1, 0, 0, 0, 0, 0, 0)) none)
        (cond (Nat.beq pc 59) (some (.iconst (-1), 1, 0, 0, 0, 0, (-1), 0)) none)))))
    (cond (Nat.blt pc 72)
     (cond (Nat.blt pc 64)
      (cond (Nat.blt pc 63)
       (cond (Nat.beq pc 60) (some (.putfield 32, 3, 8, 25, 0, 1802, 0, 0)) none)
       (cond (Nat.beq pc 63) (some (.aload_n 0, 1, 0, 0, 0, 0, 0, 0)) none))
      (cond (Nat.blt pc 67)
       (cond (Nat.beq pc 64) (some (.sipush 300, 3, 0, 0, 0, 0, 300, 0)) none)
       (cond (Nat.blt pc 69)
        (cond (Nat.beq pc 67) (some (.newarray .int, 2, 0, 0, 0, 0, 0, 0)) none)
        (cond (Nat.beq pc 69) (some (.putfield 35, 3, 8, 26, 2, 1804, 0, 0)) none))))
     (cond (Nat.blt pc 75)
      (cond (Nat.blt pc 73)
       (cond (Nat.beq pc 72) (some (.aload_n 0, 1, 0, 0, 0, 0, 0, 0)) none)
       (cond (Nat.beq pc 73) (some (.bipush 48, 2, 0, 0, 0, 0, 48, 0)) none))
      (cond (Nat.blt pc 77)
       (cond (Nat.beq pc 75) (some (.newarray .int, 2, 0, 0, 0, 0, 0, 0)) none)
       (cond (Nat.blt pc 80)
        (cond (Nat.beq pc 77) (some (.putfield 38, 3, 8, 27, 2, 1806, 0, 0)) none)
        (cond (Nat.beq pc 80) (some (.return_, 1, 0, 0, 0, 0, 0, 0)) none))))))) none
def yC (mi pc : Nat) : Option z_I := cond (Nat.blt mi 9) (cond (Nat.blt mi 4) (cond (Nat.blt mi 2) (cond (Nat.blt mi 1) (yc0 pc) (yc1 pc)) (cond (Nat.blt mi 3) (yc2 pc) (yc3 pc))) (cond (Nat.blt mi 6) (cond (Nat.blt mi 5) (yc4 pc) (yc5 pc)) (cond (Nat.blt mi 7) (yc6 pc) (cond (Nat.blt mi 8) (yc7 pc) (yc8 pc))))) none
def y_ck (mi pc : Nat) (I : z_I) : Bool := y_chk zcl zfk 9 yM lw_tbl "PrintHouse$Job" (yM mi).1.cls (yM mi).2.1 (yM mi).2.2.2.2.2.2.1 (yM mi).2.2.2.2.2.2.2 pc I
def y_mck (Ws : List Jvm.Cond) (mt : z_M) (pc pi ps : Nat) : Bool :=
  plainName mt.1.cls && decide (mt.1.cls ≠ "java/lang/invoke/MethodHandle" ∧ mt.1.cls ≠ "java/lang/invoke/VarHandle") && decide (Ws[pc]? = some (.code mt.1 mt.2.1 mt.2.2.1 mt.2.2.2.1)) && decide (Ws[pi]? = some (.initialized mt.1.cls)) &&
  decide ((parseMethodDescriptor mt.1.desc).map (fun d => d.parameters.length + 1) = some mt.2.2.2.2.1) && decide (Ws[ps]? = some (.instanceMethod mt.1)) && decide (mt.1.name = "<init>") && decide (mt.2.2.2.1 = none)
theorem y_mck_ok {Ws Ts : List Jvm.Cond} {mt : z_M} {pc pi ps : Nat} (hW : ∀ w ∈ Ws, goodWord w = true → w ∈ Ts) (h : y_mck Ws mt pc pi ps = true) : y_MO Ts mt := by
  unfold y_mck at h
  simp only [Bool.and_eq_true, decide_eq_true_eq] at h
  obtain ⟨⟨⟨⟨⟨⟨⟨h1, h2⟩, h3⟩, h4⟩, h5⟩, h6⟩, h7⟩, h8⟩ := h
  refine ⟨h1, h2, hW _ (List.mem_of_getElem? h3) rfl, hW _ (List.mem_of_getElem? h4) rfl, ?_, hW _ (List.mem_of_getElem? h6) rfl, h7, h8⟩
  intro sig hs
  rw [hs] at h5
  exact (Option.some.inj h5).symm
theorem yk0 : z_all (yC 0) 12 (y_ck 0) = true := by decide +kernel
theorem yn0 : y_mck lw_tbl (yM 0) 106 80 105 = true := by decide +kernel
theorem yk1 : z_all (yC 1) 15 (y_ck 1) = true := by decide +kernel
theorem yn1 : y_mck lw_tbl (yM 1) 237 84 236 = true := by decide +kernel
theorem yk2 : z_all (yC 2) 18 (y_ck 2) = true := by decide +kernel
theorem yn2 : y_mck lw_tbl (yM 2) 182 83 181 = true := by decide +kernel
theorem yk3 : z_all (yC 3) 34 (y_ck 3) = true := by decide +kernel
theorem yn3 : y_mck lw_tbl (yM 3) 124 81 123 = true := by decide +kernel
theorem yk4 : z_all (yC 4) 17 (y_ck 4) = true := by decide +kernel
theorem yn4 : y_mck lw_tbl (yM 4) 169 82 168 = true := by decide +kernel
theorem yk5 : z_all (yC 5) 27 (y_ck 5) = true := by decide +kernel
theorem yn5 : y_mck lw_tbl (yM 5) 282 86 281 = true := by decide +kernel
theorem yk6 : z_all (yC 6) 51 (y_ck 6) = true := by decide +kernel
theorem yn6 : y_mck lw_tbl (yM 6) 258 85 257 = true := by decide +kernel
theorem yk7 : z_all (yC 7) 111 (y_ck 7) = true := by decide +kernel
theorem yn7 : y_mck lw_tbl (yM 7) 98 79 97 = true := by decide +kernel
theorem yk8 : z_all (yC 8) 81 (y_ck 8) = true := by decide +kernel
theorem yn8 : y_mck lw_tbl (yM 8) 874 87 873 = true := by decide +kernel
def y_dk (C : String) (T : u_T) (N : Nat) (ks : List Nat) (pi pn : Nat) : Bool := (List.range N).all (fun j => decide ((parseFieldDescriptor (T j).2.2.1).map defaultValue = some (if ks.getD j 0 = 2 then .null else .int 0))) && decide (lw_tbl[pi]? = some (.instantiable C N)) && decide (lw_tbl[pn]? = some (.initialized C))
theorem y_dk_ok {C : String} {T : u_T} {N : Nat} {ks : List Nat} {pi pn : Nat} (h : y_dk C T N ks pi pn = true) : (∀ j, j < N → (parseFieldDescriptor (T j).2.2.1).map defaultValue = some (if ks.getD j 0 = 2 then .null else .int 0)) ∧ Jvm.Cond.instantiable C N ∈ zTs ∧ Jvm.Cond.initialized C ∈ zTs := by
  unfold y_dk at h
  rw [Bool.and_eq_true, Bool.and_eq_true, decide_eq_true_eq, decide_eq_true_eq] at h
  obtain ⟨⟨h1, h2⟩, h3⟩ := h
  exact ⟨fun j hj => by simpa using List.all_eq_true.mp h1 j (List.mem_range.mpr hj), zTs_in _ (List.mem_of_getElem? h2) rfl, zTs_in _ (List.mem_of_getElem? h3) rfl⟩
theorem y_d0 : y_dk "PrintHouse" zT0 8 (zfk 0) 95 79 = true := by decide +kernel
theorem y_d1 : y_dk "PrintHouse$Bytes" zT1 3 (zfk 1) 103 80 = true := by decide +kernel
theorem y_d2 : y_dk "PrintHouse$Message" zT2 11 (zfk 2) 121 81 = true := by decide +kernel
theorem y_d3 : y_dk "PrintHouse$Job" zT3 10 (zfk 3) 179 83 = true := by decide +kernel
theorem y_d4 : y_dk "PrintHouse$PageReader" zT4 2 (zfk 4) 166 82 = true := by decide +kernel
theorem y_d5 : y_dk "PrintHouse$Disk" zT5 4 (zfk 5) 234 84 = true := by decide +kernel
theorem y_d6 : y_dk "PrintHouse$Spool" zT6 4 (zfk 6) 255 85 = true := by decide +kernel
theorem y_d7 : y_dk "PrintHouse$Press" zT7 8 (zfk 7) 279 86 = true := by decide +kernel
theorem y_d8 : y_dk "PrintHouseModel" zT8 28 (zfk 8) 871 87 = true := by decide +kernel
theorem y_dko : ∀ ci C T N, zcl[ci]? = some (C, T, N) → (∀ j, j < N → (parseFieldDescriptor (T j).2.2.1).map defaultValue = some (if (zfk ci).getD j 0 = 2 then .null else .int 0)) ∧ Jvm.Cond.instantiable C N ∈ zTs ∧ Jvm.Cond.initialized C ∈ zTs := by
  intro ci C T N h
  match ci, h with
  | 0, h => cases h; exact y_dk_ok y_d0
  | 1, h => cases h; exact y_dk_ok y_d1
  | 2, h => cases h; exact y_dk_ok y_d2
  | 3, h => cases h; exact y_dk_ok y_d3
  | 4, h => cases h; exact y_dk_ok y_d4
  | 5, h => cases h; exact y_dk_ok y_d5
  | 6, h => cases h; exact y_dk_ok y_d6
  | 7, h => cases h; exact y_dk_ok y_d7
  | 8, h => cases h; exact y_dk_ok y_d8
  | n + 9, h => cases h
theorem y_ac : Jvm.Cond.arrayClass .int ∈ zTs ∧ Jvm.Cond.arrayClass .long ∈ zTs := ⟨zTs_in _ (List.mem_of_getElem? (i := 119) (by decide +kernel)) rfl, zTs_in _ (List.mem_of_getElem? (i := 164) (by decide +kernel)) rfl⟩
theorem y_ob : Jvm.Cond.instanceMethod Lib.objectInit ∈ zTs ∧ Jvm.Cond.code Lib.objectInit ⟨#[0xb1]⟩ 1 none ∈ zTs := ⟨zTs_in _ (List.mem_of_getElem? (i := 100) (by decide +kernel)) rfl, zTs_in _ (List.mem_of_getElem? (i := 101) (by decide +kernel)) rfl⟩
theorem y_mo : ∀ mi, mi < 9 → y_MO zTs (yM mi) := by
  intro mi hm
  rcases Nat.lt_or_ge mi 4 with h2 | h2
  ·
   rcases Nat.lt_or_ge mi 2 with h3 | h3
   ·
    rcases Nat.lt_or_ge mi 1 with h4 | h4
    ·
     have e : mi = 0 := by omega
     subst e
     exact y_mck_ok zTs_in yn0
    ·
     have e : mi = 1 := by omega
     subst e
     exact y_mck_ok zTs_in yn1
   ·
    rcases Nat.lt_or_ge mi 3 with h4 | h4
    ·
     have e : mi = 2 := by omega
     subst e
     exact y_mck_ok zTs_in yn2
    ·
     have e : mi = 3 := by omega
     subst e
     exact y_mck_ok zTs_in yn3
  ·
   rcases Nat.lt_or_ge mi 6 with h3 | h3
   ·
    rcases Nat.lt_or_ge mi 5 with h4 | h4
    ·
     have e : mi = 4 := by omega
     subst e
     exact y_mck_ok zTs_in yn4
    ·
     have e : mi = 5 := by omega
     subst e
     exact y_mck_ok zTs_in yn5
   ·
    rcases Nat.lt_or_ge mi 7 with h4 | h4
    ·
     have e : mi = 6 := by omega
     subst e
     exact y_mck_ok zTs_in yn6
    ·
     rcases Nat.lt_or_ge mi 8 with h5 | h5
     ·
      have e : mi = 7 := by omega
      subst e
      exact y_mck_ok zTs_in yn7
     ·
      have e : mi = 8 := by omega
      subst e
      exact y_mck_ok zTs_in yn8
theorem y_co : ∀ mi, mi < 9 → ∀ pc I, yC mi pc = some I → y_ck mi pc I = true := by
  intro mi hm
  rcases Nat.lt_or_ge mi 4 with h2 | h2
  ·
   rcases Nat.lt_or_ge mi 2 with h3 | h3
   ·
    rcases Nat.lt_or_ge mi 1 with h4 | h4
    ·
     have e : mi = 0 := by omega
     subst e
     exact z_all_ok yk0 (fun pc h => (show yc0 pc = none from z_blt h))
    ·
     have e : mi = 1 := by omega
     subst e
     exact z_all_ok yk1 (fun pc h => (show yc1 pc = none from z_blt h))
   ·
    rcases Nat.lt_or_ge mi 3 with h4 | h4
    ·
     have e : mi = 2 := by omega
     subst e
     exact z_all_ok yk2 (fun pc h => (show yc2 pc = none from z_blt h))
    ·
     have e : mi = 3 := by omega
     subst e
     exact z_all_ok yk3 (fun pc h => (show yc3 pc = none from z_blt h))
  ·
   rcases Nat.lt_or_ge mi 6 with h3 | h3
   ·
    rcases Nat.lt_or_ge mi 5 with h4 | h4
    ·
     have e : mi = 4 := by omega
     subst e
     exact z_all_ok yk4 (fun pc h => (show yc4 pc = none from z_blt h))
    ·
     have e : mi = 5 := by omega
     subst e
     exact z_all_ok yk5 (fun pc h => (show yc5 pc = none from z_blt h))
   ·
    rcases Nat.lt_or_ge mi 7 with h4 | h4
    ·
     have e : mi = 6 := by omega
     subst e
     exact z_all_ok yk6 (fun pc h => (show yc6 pc = none from z_blt h))
    ·
     rcases Nat.lt_or_ge mi 8 with h5 | h5
     ·
      have e : mi = 7 := by omega
      subst e
      exact z_all_ok yk7 (fun pc h => (show yc7 pc = none from z_blt h))
     ·
      have e : mi = 8 := by omega
      subst e
      exact z_all_ok yk8 (fun pc h => (show yc8 pc = none from z_blt h))
theorem y_ok {cA : Nat → ClassId} {tys : List (ClassId × FieldType)} (h1 : tys[0]? = some (cA 0, .int)) (h2 : tys[1]? = some (cA 1, .long)) (h3 : tys[2]? = some (cA 2, .object "PrintHouse$Job")) : y_OK zfk cA zcl tys zTs lw_tbl "PrintHouse$Job" 9 yM yC :=
  ⟨zTs_in, zTs_good, ⟨h1, h2, h3⟩, z_clok, y_dko, y_ac, y_ob, y_mo, fun mi pc I hm hC => y_co mi hm pc I hC⟩
def hC : y_H := [.inl (0, [.inr (.inr (some (0, 1))), .inr (.inr (some (0, 3))), .inr (.inr (some (0, 7))), .inr (.inr (some (0, 9))), .inr (.inr (some (0, 11))), .inr (.inr (some (0, 12))), .inr (.inr (some (0, 54))), .inr (.inr (some (0, 56)))]), .inl (1, [.inr (.inr (some (0, 2))), .inl 0, .inl 0]), .inr (.inl 240), .inl (2, [.inr (.inr (some (0, 1))), .inr (.inr (some (0, 4))), .inr (.inr (some (0, 5))), .inr (.inr (some (0, 6))), .inl 0, .inl 0, .inl 0, .inl 0, .inl 0, .inl 0, .inl 0]), .inr (.inl 34), .inr (.inr (.inl 34)), .inr (.inr (.inl 34)), .inl (4, [.inr (.inr (some (0, 1))), .inr (.inr (some (0, 8)))]), .inr (.inl 4), .inl (3, [.inr (.inr (some (0, 10))), .inl 0, .inl 0, .inl 0, .inl 0, .inl 1, .inl 0, .inl 0, .inl 0, .inl 0]), .inr (.inl 72), .inl (5, [.inl 0, .inl 0, .inl 1, .inl (-1)]), .inl (6, [.inr (.inr (some (0, 11))), .inr (.inr (some (0, 13))), .inl 0, .inl 1]), .inr (.inr (.inr [some 14, some 16, some 18, some 20, some 22, some 24, some 26, some 28, some 30, some 32, some 34, some 36, some 38, some 40, some 42, some 44, some 46, some 48, some 50, some 52])), .inl (3, [.inr (.inr (some (0, 15))), .inl 0, .inl 0, .inl 0, .inl 0, .inl 1, .inl 0, .inl 0, .inl 0, .inl 0]), .inr (.inl 72), .inl (3, [.inr (.inr (some (0, 17))), .inl 0, .inl 0, .inl 0, .inl 0, .inl 1, .inl 0, .inl 0, .inl 0, .inl 0]), .inr (.inl 72), .inl (3, [.inr (.inr (some (0, 19))), .inl 0, .inl 0, .inl 0, .inl 0, .inl 1, .inl 0, .inl 0, .inl 0, .inl 0]), .inr (.inl 72), .inl (3, [.inr (.inr (some (0, 21))), .inl 0, .inl 0, .inl 0, .inl 0, .inl 1, .inl 0, .inl 0, .inl 0, .inl 0]), .inr (.inl 72), .inl (3, [.inr (.inr (some (0, 23))), .inl 0, .inl 0, .inl 0, .inl 0, .inl 1, .inl 0, .inl 0, .inl 0, .inl 0]), .inr (.inl 72), .inl (3, [.inr (.inr (some (0, 25))), .inl 0, .inl 0, .inl 0, .inl 0, .inl 1, .inl 0, .inl 0, .inl 0, .inl 0]), .inr (.inl 72), .inl (3, [.inr (.inr (some (0, 27))), .inl 0, .inl 0, .inl 0, .inl 0, .inl 1, .inl 0, .inl 0, .inl 0, .inl 0]), .inr (.inl 72), .inl (3, [.inr (.inr (some (0, 29))), .inl 0, .inl 0, .inl 0, .inl 0, .inl 1, .inl 0, .inl 0, .inl 0, .inl 0]), .inr (.inl 72), .inl (3, [.inr (.inr (some (0, 31))), .inl 0, .inl 0, .inl 0, .inl 0, .inl 1, .inl 0, .inl 0, .inl 0, .inl 0]), .inr (.inl 72), .inl (3, [.inr (.inr (some (0, 33))), .inl 0, .inl 0, .inl 0, .inl 0, .inl 1, .inl 0, .inl 0, .inl 0, .inl 0]), .inr (.inl 72), .inl (3, [.inr (.inr (some (0, 35))), .inl 0, .inl 0, .inl 0, .inl 0, .inl 1, .inl 0, .inl 0, .inl 0, .inl 0]), .inr (.inl 72), .inl (3, [.inr (.inr (some (0, 37))), .inl 0, .inl 0, .inl 0, .inl 0, .inl 1, .inl 0, .inl 0, .inl 0, .inl 0]), .inr (.inl 72), .inl (3, [.inr (.inr (some (0, 39))), .inl 0, .inl 0, .inl 0, .inl 0, .inl 1, .inl 0, .inl 0, .inl 0, .inl 0]), .inr (.inl 72), .inl (3, [.inr (.inr (some (0, 41))), .inl 0, .inl 0, .inl 0, .inl 0, .inl 1, .inl 0, .inl 0, .inl 0, .inl 0]), .inr (.inl 72), .inl (3, [.inr (.inr (some (0, 43))), .inl 0, .inl 0, .inl 0, .inl 0, .inl 1, .inl 0, .inl 0, .inl 0, .inl 0]), .inr (.inl 72), .inl (3, [.inr (.inr (some (0, 45))), .inl 0, .inl 0, .inl 0, .inl 0, .inl 1, .inl 0, .inl 0, .inl 0, .inl 0]), .inr (.inl 72), .inl (3, [.inr (.inr (some (0, 47))), .inl 0, .inl 0, .inl 0, .inl 0, .inl 1, .inl 0, .inl 0, .inl 0, .inl 0]), .inr (.inl 72), .inl (3, [.inr (.inr (some (0, 49))), .inl 0, .inl 0, .inl 0, .inl 0, .inl 1, .inl 0, .inl 0, .inl 0, .inl 0]), .inr (.inl 72), .inl (3, [.inr (.inr (some (0, 51))), .inl 0, .inl 0, .inl 0, .inl 0, .inl 1, .inl 0, .inl 0, .inl 0, .inl 0]), .inr (.inl 72), .inl (3, [.inr (.inr (some (0, 53))), .inl 0, .inl 0, .inl 0, .inl 0, .inl 1, .inl 0, .inl 0, .inl 0, .inl 0]), .inr (.inl 72), .inl (1, [.inr (.inr (some (0, 55))), .inl 0, .inl 0]), .inr (.inl 512), .inl (7, [.inr (.inr (some (0, 57))), .inr (.inr (some (0, 59))), .inl 0, .inl 0, .inl 0, .inl 0, .inl 0, .inl 0]), .inl (1, [.inr (.inr (some (0, 58))), .inl 0, .inl 0]), .inr (.inl 256), .inr (.inl 48)]
def hC0 : y_H := [.inl (0, [.inr (.inr none), .inr (.inr none), .inr (.inr none), .inr (.inr none), .inr (.inr none), .inr (.inr none), .inr (.inr none), .inr (.inr none)])]
set_option maxRecDepth 1000000 in
set_option maxHeartbeats 4000000 in
theorem hC_run : y_run zfk yM yC 1200 7 (0, [some (.inr (.inr (some (0, 0))))], [], hC0) = some hC := by rfl
def hR : y_H := [.inl (8, [.inl 0, .inl 0, .inl 0, .inr (.inr (some (0, 1))), .inl 0, .inr (.inr (some (0, 2))), .inr (.inr (some (0, 3))), .inl 1, .inl 0, .inl 0, .inl 0, .inl 0, .inl 0, .inl 0, .inl 0, .inl 0, .inl 0, .inl 0, .inl 0, .inl 0, .inl 0, .inl 0, .inr (.inr (some (0, 4))), .inl (-1), .inr (.inr (some (0, 5))), .inl (-1), .inr (.inr (some (0, 6))), .inr (.inr (some (0, 7)))]), .inr (.inl 240), .inr (.inl 260), .inr (.inl 1872), .inr (.inl 60), .inr (.inl 800), .inr (.inl 300), .inr (.inl 48)]
def hR0 : y_H := [.inl (8, [.inl 0, .inl 0, .inl 0, .inr (.inr none), .inl 0, .inr (.inr none), .inr (.inr none), .inl 0, .inl 0, .inl 0, .inl 0, .inl 0, .inl 0, .inl 0, .inl 0, .inl 0, .inl 0, .inl 0, .inl 0, .inl 0, .inl 0, .inl 0, .inr (.inr none), .inl 0, .inr (.inr none), .inl 0, .inr (.inr none), .inr (.inr none)])]
theorem hR_run : y_run zfk yM yC 200 8 (0, [some (.inr (.inr (some (0, 0))))], [], hR0) = some hR := by rfl
end
section
/-! the worlds at the start -/
def posC (o : z_N) : Nat := match o.1 with
  | 0 => 0
  | 1 => (match o.2 with
    | 0 => 1
    | 1 => 54
    | _ => 57)
  | 2 => (match o.2 with
    | 0 => 2
    | 1 => 55
    | _ => 58)
  | 3 => 3
  | 4 => 4
  | 5 => 5
  | 6 => 6
  | 7 => 7
  | 8 => 8
  | 9 => (if o.2 = 20 then 9 else 14 + 2 * o.2)
  | 10 => (if o.2 = 20 then 10 else 15 + 2 * o.2)
  | 11 => 11
  | 12 => 12
  | 13 => 13
  | 14 => 56
  | _ => 59
def adC (b : Nat) (o : z_N) : Nat := b + posC o
def adR (b : Nat) (o : z_N) : Nat := b + o.1
def w0i (g _i : Nat) : Nat → Int32 := match g with
  | 9 => fun k => (match k with
    | 5 => 1
    | _ => 0)
  | 11 => fun k => (match k with
    | 2 => 1
    | 3 => -1
    | _ => 0)
  | 12 => fun k => (match k with
    | 3 => 1
    | _ => 0)
  | _ => fun _ => 0
def w0 : z_W := (w0i, fun _ _ _ => 0, fun _ _ j => if j < 20 then j else 0)
def v0i (g _i : Nat) : Nat → Int32 := match g with
  | 0 => fun k => (match k with
    | 7 => 1
    | 23 => -1
    | 25 => -1
    | _ => 0)
  | _ => fun _ => 0
def v0 : z_W := (v0i, fun _ _ _ => 0, fun _ _ _ => 0)
theorem posC_nm : ∀ k, k < 60 → (sCn[k]?).map posC = some k := by decide +kernel
theorem sCn_len : sCn.length = 60 := by decide +kernel
theorem c_at {b : Nat} {cA : Nat → ClassId} {w : z_W} {k : Nat} {q : Nat × va_E} (h : (z_ws sC zfk (adC b) cA w)[k]? = some q) : k < 60 ∧ q.1 = b + k := by
  unfold z_ws at h
  rw [List.getElem?_map] at h
  cases ho : sC.2.2.2.2[k]? with
  | none => rw [ho] at h; cases h
  | some o =>
    rw [ho] at h
    cases h
    have hk : k < 60 := by
      have := (List.getElem?_eq_some_iff.mp ho).1
      rwa [show sC.2.2.2.2.length = 60 from sCn_len] at this
    refine ⟨hk, ?_⟩
    have h2 := posC_nm k hk
    rw [show sCn[k]? = some o from ho] at h2
    show b + posC o = b + k
    rw [Option.some.inj h2]
theorem c_D {b : Nat} {cA : Nat → ClassId} {A : Nat → Prop} (hA : ∀ q, b ≤ q → q < b + 60 → A q) (w : z_W) : va_D A (z_ws sC zfk (adC b) cA w) := by
  refine ⟨fun i j p q hp hq hpq => ?_, fun k q hq => ?_⟩
  · have := (c_at hp).2
    have := (c_at hq).2
    omega
  · have h := c_at hq
    exact hA _ (by omega) (by omega)
theorem r_at {b : Nat} {cA : Nat → ClassId} {w : z_W} {k : Nat} {q : Nat × va_E} (h : (z_ws sR zfk (adR b) cA w)[k]? = some q) : k < 8 ∧ q.1 = b + k := by
  have hn : ∀ k, k < 8 → (sRn[k]?).map (fun o => o.1) = some k := by decide +kernel
  unfold z_ws at h
  rw [List.getElem?_map] at h
  cases ho : sR.2.2.2.2[k]? with
  | none => rw [ho] at h; cases h
  | some o =>
    rw [ho] at h
    cases h
    have hk : k < 8 := (List.getElem?_eq_some_iff.mp ho).1
    refine ⟨hk, ?_⟩
    have h2 := hn k hk
    rw [show sRn[k]? = some o from ho] at h2
    have h3 : o.1 = k := Option.some.inj h2
    show b + o.1 = b + k
    rw [h3]
theorem r_D {b : Nat} {cA : Nat → ClassId} {A : Nat → Prop} (hA : ∀ q, b ≤ q → q < b + 8 → A q) (w : z_W) : va_D A (z_ws sR zfk (adR b) cA w) := by
  refine ⟨fun i j p q hp hq hpq => ?_, fun k q hq => ?_⟩
  · have := (r_at hp).2
    have := (r_at hq).2
    omega
  · have h := r_at hq
    exact hA _ (by omega) (by omega)
set_option maxRecDepth 100000 in
set_option maxHeartbeats 4000000 in
theorem r_start {b : Nat} {cA : Nat → ClassId} {D : va_G} {H : Heap} (hP : va_P D zcl (y_ws b cA hR) H) : va_P D zcl (z_ws sR zfk (adR b) cA v0) H := by
  have e : y_ws b cA hR = z_ws sR zfk (adR b) cA v0 := rfl
  rw [← e]
  exact hP
theorem arrV_cg (cI : ClassId) (N : Nat) (f g : Nat → Value) (h : ∀ j, j < N → f j = g j) : arrV cI N f = arrV cI N g := by
  unfold arrV
  have : (fun j : Fin N => f j.val) = fun j : Fin N => g j.val := funext fun j => h j.val j.isLt
  rw [this]
set_option maxRecDepth 100000 in
set_option maxHeartbeats 4000000 in
theorem c_start {b : Nat} {cA : Nat → ClassId} {D : va_G} {H : Heap} (hP : va_P D zcl (y_ws b cA hC) H) : va_P D zcl (z_ws sC zfk (adC b) cA w0) H := by
  have e1 : (y_ws b cA hC).take 13 = (z_ws sC zfk (adC b) cA w0).take 13 := rfl
  have e2 : (y_ws b cA hC).drop 14 = (z_ws sC zfk (adC b) cA w0).drop 14 := rfl
  intro k q hq
  by_cases h1 : k < 13
  · have h2 : ((z_ws sC zfk (adC b) cA w0).take 13)[k]? = some q := by rw [List.getElem?_take_of_lt h1]; exact hq
    rw [← e1, List.getElem?_take_of_lt h1] at h2
    exact hP k q h2
  · by_cases h3 : k = 13
    · subst h3
      have h4 : q = (b + 13, .inl (cA 2, 20, .inr (.inr (.inr (.inr (fun j => some (adC b (9, w0.2.2 13 0 j)))))))) := by
        have : (z_ws sC zfk (adC b) cA w0)[13]? = some (b + 13, .inl (cA 2, 20, .inr (.inr (.inr (.inr (fun j => some (adC b (9, w0.2.2 13 0 j)))))))) := rfl
        exact (Option.some.inj (this.symm.trans hq)).symm
      subst h4
      have h5 := hP 13 _ (y_ws_at (b := b) (cA := cA) (h := hC) (o := 13) rfl)
      have h6 : H[b + 13]? = some (vp_cell (cA 2) (20, .inr (.inr (.inr (.inr (fun j => (([some 14, some 16, some 18, some 20, some 22, some 24, some 26, some 28, some 30, some 32, some 34, some 36, some 38, some 40, some 42, some 44, some 46, some 48, some 50, some 52] : List (Option Nat)).getD j none).map (fun o => b + o))))))) := h5
      show H[b + 13]? = some (vp_cell (cA 2) (20, .inr (.inr (.inr (.inr (fun j => some (adC b (9, w0.2.2 13 0 j)))))))) 
      rw [h6, vp_cell_q, vp_cell_q]
      congr 1
    · have h4 : k = 14 + (k - 14) := by omega
      have h2 : ((z_ws sC zfk (adC b) cA w0).drop 14)[k - 14]? = some q := by rw [List.getElem?_drop, ← h4]; exact hq
      rw [← e2, List.getElem?_drop, ← h4] at h2
      exact hP k q h2
theorem w0_v : z_vw sC w0 := by
  intro g i j
  show (9, if j < 20 then j else 0) ∈ sCn
  have h : ∀ j, j < 20 → (9, j) ∈ sCn := by decide +kernel
  split
  · exact h j ‹_›
  · exact h 0 (by decide)
theorem v0_v (v : z_W) (h : v.2.2 = v0.2.2) : z_vw sR v := by
  intro g i j
  rw [h]
  show ((0, 0) : z_N) ∈ sRn
  decide +kernel
end
section
/-! roads that throw -/
def t_Q (E : String) (st : State) (o : Outcome) (t : State) : Prop := ∃ (q : Addr) (ce : Cell), o = .threw q ∧ t.heap[q]? = some ce ∧ ce.vm = .none ∧ st.vm.findClass E = some ce.cls ∧ st.WarmedH t.vm ∧ st.sameButNew ({ t with vm := st.vm } : State) [] 1 6
def t_Met (l : Launch) (y : MethodName) (ws : List Jvm.Cond) (rm : Room) (Pc : Array Value → State → Prop) (E : String) : Prop := MetFree l y (headSpec ws rm) Pc (fun _ _ _ _ _ => True) (fun _ st o t => t_Q E st o t)
def t_MQ (below : List Frame) (E : String) (s : State) : State → Prop := fun t => ∃ o, t.status = .running ∧ Ended t below o ∧ t_Q E s o t
theorem t_frame {s U : State} {k n : Nat} (h : s.sameButNew ({ U with vm := s.vm } : State) [] k n) : s.heap.size ≤ U.heap.size ∧ ∀ q : Nat, q < s.heap.size → U.heap[q]? = s.heap[q]? := by
  obtain ⟨-, h2, -, -, -, h6⟩ := h
  refine ⟨h2, fun q hq => ?_⟩
  obtain ⟨c', e1, e2, e3, e4⟩ := h6 q (s.heap[q]) (Array.getElem?_eq_getElem hq)
  have hs : c'.slots = (s.heap[q]).slots := Array.ext_getElem? fun i => e4 i (fun h => by cases h)
  have hc : c' = s.heap[q] := by
    rw [hs] at e2
    exact e2
  have e5 : U.heap[q]? = some c' := e1
  rw [e5, hc, Array.getElem?_eq_getElem hq]
theorem t_ofW {l : Launch} {y : MethodName} {ws ws' : List Jvm.Cond} {rm : Room} {Pc : Array Value → State → Prop} {E : String} {cc : ByteArray} {maxL : Nat} {ret : Option FieldType}
    (hy : plainName y.cls = true) (hw : ws = Jvm.Cond.code y cc maxL ret :: ws')
    (body : ∀ p e s m args below meth c s₁, BodyLoose p l y (headSpec ws rm) cc maxL ret e s m args below meth c s₁ → c.maxLocals = maxL → c.exceptionTable.isEmpty = true → Pc args s →
      W p l e (headSpec ws rm).room s m args below meth c s.heap [] 0 0 (t_MQ below E s) (entryFrame m args maxL)) : t_Met l y ws rm Pc E := by
  refine MetFree.of_bodyS (code := cc) (maxLocals := maxL) (ret := ret) hy ?_ ?_
  · intro args s m h hn
    obtain ⟨meth, c, h1, h2, h3, h4, h5, h6, -, -⟩ := Cond.code_spec hn (atoms_spec (ws := ws) h _ (by rw [hw]; exact List.mem_cons_self))
    exact ⟨meth, c, h1, h2, h3, h4, h5, h6⟩
  · intro p e s m args below meth c s₁ B hml hP _
    have hh0 : s₁.heap = s.heap := by rw [B.state]; rfl
    have ht := B.noHandlers (atoms_spec (ws := ws) B.pre _ (by rw [hw]; exact List.mem_cons_self))
    obtain ⟨t, a1, o, b1, b2, b3⟩ := body p e s m args below meth c s₁ B hml ht hP s₁ hh0 (Stand.of_body B)
    exact ⟨t, o, a1, b1, b2, b3⟩
section TT
variable {p : Program} {l : Launch} {e : Env} {R : Room} {s : State} {m : MethodId} {args : Array Value} {below : List Frame} {meth : Method} {c : Code} {H : Heap} {locs : List Loc} {cells slots : Nat} {Q : State → Prop}
theorem t_throw {cc : ByteArray} {pc : Nat} {ls : Array Slot} (hexec : p.tables.exec = Jvm.exec) (hb : c.code = cc) (hl : l.stackTraces = false) {own cls text : String} {names : List String} {ik is ic sa : Nat}
    (hown : s.vm.findClass own = some m.cls) (hcls : Jvm.Bundle.fit cls = true) (hnames : ∀ n ∈ names, Jvm.Bundle.fit n = true)
    (hk : (Jvm.Cond.classLink own ik cls).before args s = true) (hini : (Jvm.Cond.initialized cls).before args s = true) (hstr : (Jvm.Cond.stringRef own is text).before args s = true) (hstr2 : (Term.string own is).eval args s none [] s = some (.ref sa))
    (h : ∀ w ∈ Jvm.Bundle.ownAtoms own ic cls names, w.before args s = true) (hsize : ls.size = c.maxLocals)
    (d0 : decode cc pc = .ok (.new ik, 3)) (d3 : decode cc (pc + 3) = .ok (.dup, 1)) (d4 : decode cc (pc + 4) = .ok (.ldc is, 2)) (d6 : decode cc (pc + 6) = .ok (.invokespecial ic, 3)) (d9 : decode cc (pc + 9) = .ok (.athrow, 1))
    (hempty : c.exceptionTable.isEmpty = true) (hRframes : names.length + 3 < R.frames) (hRlocals : 13 * (names.length + 1) + 43 ≤ R.locals) (hRcells : 1 ≤ R.cells) (hRslots : 6 ≤ R.slots) (hlocks : meth.locks = false) :
    W p l e R s m args below meth c s.heap [] 0 0 (t_MQ below cls s) (F0 m pc ls []) := by
  intro T hT X
  have hout : ∀ x ∈ c.exceptionTable.toList, covers x (pc + 9) = false := by
    intro x hx
    rw [Array.isEmpty_iff.mp hempty] at hx
    cases hx
  have htr : e.platform.stackTraces = false := (show e.platform.stackTraces = l.stackTraces by rw [X.admits.platform]).trans hl
  have hins : (Jvm.Cond.instantiable cls 6).before args s = true := h _ (by simp [Jvm.Bundle.ownAtoms])
  obtain ⟨vm₁, cX, kX, hfX, hkX, -, -, X₁, st1⟩ := X.newCold hexec (own := own) (C := cls) (index := ik) (n := 6) hown hk hins hini (g := F0 m pc ls []) rfl (by rw [hb]; exact d0) (by omega) (by omega)
  generalize hT1 : (T.setVm vm₁).pushCell { cls := cX, slots := kX.instanceTypes.map defaultValue, vm := .none } = T1 at X₁ st1
  have hcellA : T1.heap[T.heap.size]? = some (freshCell cX kX) := by rw [← hT1]; exact State.heap_pushCell_size _ _
  have d3' : decode c.code (pc + 3) = .ok (.dup, 1) := by rw [hb]; exact d3
  have d4' : decode c.code (pc + 4) = .ok (.ldc is, 2) := by rw [hb]; exact d4
  have hcat : (Value.ref T.heap.size).category = 1 := rfl
  obtain ⟨U, hsteps, hrun, hend, hW, hsame, ce, hce, hO⟩ := X₁.ctorThrowS hexec htr (own := own) (cls := cls) (names := names) (ic := ic) hown hcls hnames h (fun x hx => nomatch hx) hfX hkX hcellA (by rw [hT]; exact Nat.le_refl _) (msg := .ref sa) rfl
    (g := { method := m, pc := pc + 6, locals := ls, stack := .ref sa :: .ref T.heap.size :: .ref T.heap.size :: [], locked := none }) rfl hsize rfl rfl (rest := []) rfl
    (by rw [hb]; exact d6) (by rw [hb]; exact d9) hout hRframes (by simp only [List.map_cons, List.map_nil, List.sum_cons, List.sum_nil, hcat]; show 2 * 0 + _ + _ ≤ _; omega) hlocks
  refine ⟨U, ?_, .threw T.heap.size, hrun, hend, T.heap.size, ce, rfl, hce, hO.vm, hO.cls, hW, hsame⟩
  refine st1 _ ?_
  show Steps p.tables e below (T1.setTop { method := m, pc := pc + 3, locals := ls, stack := [.ref T.heap.size], locked := none }) _
  jvm_step X₁.here [X₁.here.top, hexec, d3', Value.category]
  exact X₁.ldcString hexec (own := own) (text := text) (index := is) (a := sa) hown hstr hstr2
    (g := { method := m, pc := pc + 4, locals := ls, stack := [.ref T.heap.size, .ref T.heap.size], locked := none }) rfl d4' _ hsteps
/-- a call whose callee throws -/
theorem t_call {T : State} (X : Stand p l e R s m args below meth c T locs cells slots) (hexec : p.tables.exec = Jvm.exec) {own C E : String} {index : Nat} {y : MethodName} {bytes : ByteArray} {maxL : Nat} {ret : Option FieldType} {ws : List Jvm.Cond} {rm : Room} {Pc : Array Value → State → Prop}
    (hM : t_Met l y ws rm Pc E) (hblind : FrameBlind Pc) (hrc : rm.cells = 1) (hrs : rm.slots = 6) (hframes : rm.frames + 1 ≤ R.frames) (hlocals : 8 + (maxL + 11) + rm.locals ≤ R.locals) (hcells : cells + 1 ≤ R.cells) (hslots : slots + 6 ≤ R.slots)
    (hws : ∀ w ∈ ws, ∀ (a' : Array Value) (U : State), s.WarmedH U.vm → w.before a' U = true) (hcw : Jvm.Cond.code y bytes maxL ret ∈ ws)
    (hown : s.vm.findClass own = some m.cls) (hlink : (Jvm.Cond.methodLink own index y).before args s = true) (hinst : (Jvm.Cond.instanceMethod y).before args s = true) (hsel : (Jvm.Cond.selects C y y).before args s = true) (hini : (Jvm.Cond.initialized y.cls).before args s = true)
    (hy : y.cls ≠ "java/lang/invoke/MethodHandle" ∧ y.cls ≠ "java/lang/invoke/VarHandle") {b : Addr} {cellB : Cell} (hcell : T.heap[b]? = some cellB) (hobj : cellB.vm.isStatics = false) (hcls : s.vm.findClass C = some cellB.cls)
    {g : JFrame} (hg : g.method = m) (hsize : g.locals.size = c.maxLocals) {argsL rest : List Value} (hlen : ∀ sig, parseMethodDescriptor y.desc = some sig → argsL.length = sig.parameters.length)
    (hstack : g.stack = argsL.reverse ++ .ref b :: rest) (hW : 2 * g.monitorRoom + (rest.map fun v => v.category).sum ≤ 8) (hdg : decode c.code g.pc = .ok (.invokevirtual index, 3))
    (hPc : ∀ U : State, U.heap = T.heap → s.WarmedH U.vm → Pc (Value.ref b :: argsL).toArray U) :
    ∃ (q : Addr) (ce : Cell) (T' : State), Stand p l e R s m args below meth c T' locs (cells + 1) (slots + 6) ∧ T'.heap[q]? = some ce ∧ ce.vm = .none ∧ s.vm.findClass E = some ce.cls ∧ T.heap.size ≤ T'.heap.size ∧ (∀ x : Nat, x < T.heap.size → T'.heap[x]? = T.heap[x]?) ∧
      ∀ target, Steps p.tables e below ((T'.setTop { g with stack := rest }).pushFrame (.throwing q)) target → Steps p.tables e below (T.setTop g) target := by
  have hcode : (Jvm.Cond.code y bytes maxL ret).before args s = true := hws _ hcw _ _ (State.WarmedH.refl s)
  obtain ⟨mk, methM, hnamed, hmethM, hstM, habM⟩ := Cond.instanceMethod_spec hinst
  obtain ⟨methM', cM, hmethM', -, -, -, -, -, -, hsigM⟩ := Cond.code_spec hnamed hcode
  cases hmethM.symm.trans hmethM'
  obtain ⟨c2, r2, m2, q1, q2, q3, q4, kP, hkP, hkPi⟩ := Cond.selects_spec hsel
  cases hcls.symm.trans q1
  cases (State.methodFound?_of_named hnamed hy).symm.trans q2
  cases hnamed.symm.trans q3
  have hselP : selectMethod e.platform s.vm cellB.cls mk = .method mk := by rw [Launch.admits_selectMethod X.admits]; exact q4
  obtain ⟨vm₁, X₁, hstep₁⟩ := X.invokevirtual hexec hown hlink hnamed hmethM hstM hkP hkPi hy (a := b) (cell := cellB) hcell
    (fun z h => by rw [h] at hobj; cases hobj) hselP hmethM habM hkP hkPi (g := g) hg (argsL := argsL) (rest := rest) (hlen _ hsigM) hstack hdg
  generalize hU : T.setVm vm₁ = U at X₁ hstep₁
  have hUh : U.heap = T.heap := by rw [← hU]; rfl
  have hn := X₁.named hnamed
  have h1 : (headSpec ws rm).pre.before (Value.ref b :: argsL).toArray U = true := atoms_intro fun w hw => hws w hw _ _ X₁.warmed
  have h2 : (Jvm.Cond.code y bytes maxL ret).before (Value.ref b :: argsL).toArray U = true := hws _ hcw _ _ X₁.warmed
  have h3 : (Jvm.Cond.initialized y.cls).before (Value.ref b :: argsL).toArray U = true := word_at X₁.warmed (Or.inl rfl) hini
  obtain ⟨methY, cY, hmY, hcY, -, hlY, -, -, -, -⟩ := Cond.code_spec hn h2
  obtain ⟨kY, hkY, -⟩ := className_of_methodNamed hn
  have hinitY : kY.init = .initialized := Cond.initialized_spec (findClass_of_methodNamed hn) hkY h3
  subst hg
  generalize hg1 : ({ g with stack := rest } : JFrame) = g1 at hstep₁ ⊢
  have m1 : g1.method = g.method := by rw [← hg1]
  have m2 : g1.pc = g.pc := by rw [← hg1]
  have m3 : g1.locals = g.locals := by rw [← hg1]
  have m4 : g1.stack = rest := by rw [← hg1]
  have m5 : g1.monitorRoom = g.monitorRoom := by rw [← hg1]
  have hh : At U g1.method c below := by rw [m1]; exact X₁.here
  have hdg1 : decode c.code g1.pc = .ok (.invokevirtual index, 3) := by rw [m2]; exact hdg
  have hsize1 : g1.locals.size = c.maxLocals := by rw [m3]; exact hsize
  have happ : (headSpec ws rm).appliesLoose y e.platform (U.calling g1 mk (Value.ref b :: argsL).toArray) = true :=
    Spec.appliesLoose_calling (g := g1) hh hdg1 hn hkY hinitY
      (X₁.room_calling (g := g1) (R' := (headSpec ws rm).room) hsize1 hmY hcY hframes (by rw [hlY, m4, m5]; have : (headSpec ws rm).room.locals = rm.locals := rfl; omega) (by rw [show (headSpec ws rm).room.cells = 1 from hrc]; exact hcells) (by rw [show (headSpec ws rm).room.slots = 6 from hrs]; exact hslots)) h1
  have hPc' : Pc (Value.ref b :: argsL).toArray (U.calling g1 mk (Value.ref b :: argsL).toArray) := hblind _ _ _ _ (hPc U hUh X₁.warmed)
  obtain ⟨mid, hmid⟩ := hh.above
  have hfr : (U.setTop g1).frames = (.java g1 :: mid) ++ below := by rw [State.frames_setTop' g1 hh.top, hmid]; rfl
  obtain ⟨o, s₂, hsteps, -, hend, hq⟩ := Steps.callFree hM p X₁.admits X₁.cas X₁.clock (acts := []) hfr happ hPc' trivial
  have hq' : t_Q E (U.calling g1 mk (Value.ref b :: argsL).toArray) o s₂ := hq
  obtain ⟨q, ce, rfl, hce, hcv, hcl, hW₂, hsm⟩ := hq'
  rw [State.frames_setTop' g1 hh.top] at hend
  obtain ⟨g₀, hg0⟩ := Option.isSome_iff_exists.mp hh.top
  obtain ⟨r, hr⟩ := State.topJava?_eq_some.mp hg0
  have hr' : (({ U with heap := s₂.heap, slotsUsed := s₂.slotsUsed } : State).setVm s₂.vm).frames = .java g₀ :: r := hr
  obtain ⟨e2, p2, p3, p4, p5, p6⟩ := id hsm
  have e3 : s₂ = ({ (U.calling g1 mk (Value.ref b :: argsL).toArray).setFrames s₂.frames with heap := s₂.heap, slotsUsed := s₂.slotsUsed } : State).setVm s₂.vm := by
    have h9 : s₂ = ({ s₂ with vm := (U.calling g1 mk (Value.ref b :: argsL).toArray).vm } : State).setVm s₂.vm := rfl
    rw [e2] at h9
    exact h9
  have hf₂ : s₂.frames = .throwing q :: .java g1 :: U.frames.tail := hend
  have hW' : U.WarmedH s₂.vm := hW₂
  have hs₂ : s₂ = ((({ U with heap := s₂.heap, slotsUsed := s₂.slotsUsed } : State).setVm s₂.vm).setTop g1).pushFrame (.throwing q) := by
    refine e3.trans ?_
    rw [hf₂, State.calling_eq hh.top, State.setFrames_setFrames, State.pushFrame, State.frames_setTop _ hr', State.setTop_of_frames _ hr', State.setFrames_setFrames, hr]
    rfl
  have hsame : U.sameButNew ({ U with heap := s₂.heap, slotsUsed := s₂.slotsUsed } : State) [] 1 6 := by
    refine ⟨?_, p2, p3, p4, p5, p6⟩
    obtain ⟨t, ht, -⟩ := State.frames_cons hr
    show ({ U with heap := s₂.heap, slotsUsed := s₂.slotsUsed } : State) = { U.setFrames U.frames with heap := s₂.heap, slotsUsed := s₂.slotsUsed }
    rw [State.setFrames_self ht]
  have hfrm := t_frame (s := U.calling g1 mk (Value.ref b :: argsL).toArray) (U := s₂) hsm
  have hsame2 := X₁.same.trans (hsame.setVm s.vm)
  rw [List.append_nil] at hsame2
  refine ⟨q, ce, ({ U with heap := s₂.heap, slotsUsed := s₂.slotsUsed } : State).setVm s₂.vm,
    ⟨X₁.admits, X₁.cas, X₁.clock, X₁.frames, X₁.room, X₁.hears, X₁.method, X₁.code, (X₁.here.setHeapUsed s₂.heap s₂.slotsUsed).setVm hW'.alike, X₁.tail, State.WarmedH.trans X₁.warmed hW', X₁.limits, X₁.bytes, hsame2⟩,
    hce, hcv, ?_, ?_, ?_, fun target ht => ?_⟩
  · have h9 : U.vm.findClass E = some ce.cls := hcl
    rw [X₁.warmed.alike.findClass] at h9
    exact h9
  · have h9 : U.heap.size ≤ s₂.heap.size := hfrm.1
    rw [hUh] at h9
    exact h9
  · intro x hx
    have h9 : s₂.heap[x]? = U.heap[x]? := hfrm.2 x (show x < U.heap.size by rw [hUh]; exact hx)
    rw [hUh] at h9
    exact h9
  · refine hstep₁ _ fun acts => ?_
    rw [doInvoke_state]
    refine hsteps.trans ?_
    rw [hs₂]
    exact ht
/-- what is thrown in a callee goes on out of the caller -/
theorem t_out {T' : State} {q : Addr} {ce : Cell} {E : String} (X' : Stand p l e R s m args below meth c T' [] 1 6) {g : JFrame} (hg : g.method = m) (hlocked : g.locked = none) (hentered : g.entered = []) (hempty : c.exceptionTable.isEmpty = true) (hlocks : meth.locks = false) (hce : T'.heap[q]? = some ce) (hcv : ce.vm = .none) (hcl : s.vm.findClass E = some ce.cls) :
    ∃ t, Steps p.tables e below ((T'.setTop g).pushFrame (.throwing q)) t ∧ t_MQ below E s t := by
  have hout : ∀ x ∈ c.exceptionTable.toList, covers x g.pc = false := by
    intro x hx
    rw [Array.isEmpty_iff.mp hempty] at hx
    cases hx
  obtain ⟨st1, hrun, hend, hW, hsm⟩ := X'.leaveThrown q (g := g) hg hlocked hentered hout hlocks
  exact ⟨_, st1, .threw q, hrun, hend, q, ce, rfl, hce, hcv, hcl, hW, hsm⟩
end TT
end
section
/-! a run up to a place that the codes leave out -/
def z_stk (S : z_S) (M : Nat → z_M) (C : Nat → Nat → Option z_I) : Nat → Nat → z_F → Option z_F
  | 0, _, _ => none
  | n + 1, mi, (pc, L, st, w) => match C mi pc with
    | none => some (pc, L, st, w)
    | some I => match z_step S M I pc L st w with
      | none => none
      | some (.inl f) => z_stk S M C n mi f
      | some (.inr (.inl _)) => none
      | some (.inr (.inr (mj, as, rest))) => match z_run S M C n mj (0, z_entry (M mj).2.2.1 as, [], w) with
        | none => none
        | some (w', r) => z_stk S M C n mi (pc + 3, L, r.toList ++ rest, w')
theorem z_cr_mono {nM fr lo fr' lo' a : Nat} {M : Nat → z_M} (h : z_cr nM M fr lo a = true) (hf : fr ≤ fr') (hl : lo ≤ lo') : z_cr nM M fr' lo' a = true := by
  unfold z_cr at h ⊢
  simp only [Bool.and_eq_true, decide_eq_true_eq] at h ⊢
  exact ⟨⟨h.1.1, by omega⟩, by omega⟩
theorem z_ca_mono {Ws : List Jvm.Cond} {own : String} {i fr lo fr' lo' : Nat} (h : z_ca Ws own i fr lo = true) (hf : fr ≤ fr') (hl : lo ≤ lo') : z_ca Ws own i fr' lo' = true := by
  unfold z_ca at h ⊢
  simp only [Bool.and_eq_true, decide_eq_true_eq] at h ⊢
  exact ⟨⟨h.1.1, by omega⟩, by omega⟩
theorem z_chk_mono {cl : List vw_C} {fk : Nat → List Nat} {nM : Nat} {M : Nat → z_M} {Ws : List Jvm.Cond} {jn hst own : String} {cc : ByteArray} {rt : Option FieldType} {fr lo fr' lo' pc : Nat} {I : z_I}
    (h : z_chk cl fk nM M Ws jn hst own cc rt fr lo pc I = true) (hf : fr ≤ fr') (hl : lo ≤ lo') : z_chk cl fk nM M Ws jn hst own cc rt fr' lo' pc I = true := by
  obtain ⟨ins, len, a, b, t, q, c0, d⟩ := I
  unfold z_chk at h ⊢
  rw [Bool.and_eq_true] at h ⊢
  refine ⟨h.1, ?_⟩
  have h := h.2
  cases ins
  case invokevirtual i =>
    simp only [Bool.and_eq_true] at h ⊢
    exact ⟨⟨h.1.1, z_cr_mono h.1.2 hf hl⟩, h.2⟩
  case invokestatic i =>
    cases t with
    | zero =>
      simp only [Bool.and_eq_true] at h ⊢
      exact ⟨h.1, ⟨h.2.1.1, z_cr_mono h.2.1.2 hf hl⟩, h.2.2⟩
    | succ t =>
      simp only [Bool.and_eq_true] at h ⊢
      exact ⟨h.1, z_ca_mono h.2 hf hl⟩
  all_goals exact h
section ZK
variable {p : Program} {l : Launch} {e : Env} {R : Room} {s : State} {m : MethodId} {args : Array Value} {below : List Frame} {meth : Method} {c : Code} {Q : State → Prop}
variable {S : z_S} {fk : Nat → List Nat} {ad : z_N → Nat} {cA : Nat → ClassId} {D : va_G} {cl : List vw_C} {tys : List (ClassId × FieldType)} {A : Nat → Prop} {Ts Ws Ns : List Jvm.Cond} {jn hst : String} {nM : Nat} {M : Nat → z_M} {C : Nat → Nat → Option z_I}
theorem z_wstk (ok : z_OK S fk ad cA cl tys A Ts Ws Ns jn hst nM M C) {mi : Nat} (hmi : mi < nM) (hx : p.tables.exec = Jvm.exec) (hb : c.code = (M mi).2.1) (hml : c.maxLocals = (M mi).2.2.1) (hown : s.vm.findClass (M mi).1.cls = some m.cls) (hts : ∀ w ∈ Ts, w.before args s = true) (hNs : ∀ w ∈ Ns, va_Nw w s) (hK : va_K D cl tys s)
    (hRf : (M mi).2.2.2.2.2.2.1 ≤ R.frames) (hRl : (M mi).2.2.2.2.2.2.2 ≤ R.locals) {f' : z_F}
    (kk : ∀ (ls : Array Slot) (H : Heap) (locs : List Loc), z_hl ad ls (M mi).2.2.1 f'.2.1 → va_P D cl (z_ws S fk ad cA f'.2.2.2) H → va_S A s.heap H locs → W p l e R s m args below meth c H locs 0 0 Q (F0 m f'.1 ls (f'.2.2.1.map (z_v ad)))) :
    ∀ (n : Nat) (f : z_F), z_stk S M C n mi f = some f' → z_vs S f.2.2.1 → z_vL S f.2.1 → z_vw S f.2.2.2 → ∀ (ls : Array Slot) (H : Heap) (locs : List Loc), z_hl ad ls (M mi).2.2.1 f.2.1 → va_P D cl (z_ws S fk ad cA f.2.2.2) H → va_S A s.heap H locs → W p l e R s m args below meth c H locs 0 0 Q (F0 m f.1 ls (f.2.2.1.map (z_v ad))) := by
  intro n
  induction n with
  | zero => intro f h; cases h
  | succ n ih =>
    intro f h hv1 hv2 hv3 ls H locs hl hP hS
    obtain ⟨pc, L, st, w⟩ := f
    have ok' := ok
    obtain ⟨⟨o1, o1n⟩, o2, o3, o4, ⟨o5, o5r⟩, ⟨o6a, o6b, o6c⟩, o7, o8, o9, o10⟩ := ok'
    dsimp only at hv1 hv2 hv3 hl hP
    rw [z_stk] at h
    cases hC : C mi pc with
    | none =>
      rw [hC] at h
      cases h
      exact kk ls H locs hl hP hS
    | some I =>
      rw [hC] at h
      dsimp only at h
      have hchk := z_chk_mono (o10 mi pc I hmi hC) hRf hRl
      cases hst0 : z_step S M I pc L st w with
      | none => rw [hst0] at h; cases h
      | some z =>
        rw [hst0] at h
        rcases z with f1 | rv | ⟨mj, as, rest⟩
        · dsimp only at h
          obtain ⟨pc', L', st', w1⟩ := f1
          obtain ⟨a1, a2, a3⟩ := z_pres o5r hst0 hv1 hv2 hv3
          exact z_next hx hb hown hts o1 o1n hNs hK o5 o6a o6b o6c o7 (o8 mi pc I hmi hC) hml hchk hst0 hl hv1 hP hS (fun ls' H' locs' b1 b2 b3 => ih (pc', L', st', w1) h a1 a2 a3 ls' H' locs' b1 b2 b3)
        · cases h
        · dsimp only at h
          obtain ⟨g1, g2⟩ := z_callv hst0 hv1
          cases hrun : z_run S M C n mj (0, z_entry (M mj).2.2.1 as, [], w) with
          | none => rw [hrun] at h; cases h
          | some y =>
            obtain ⟨w1, r1⟩ := y
            rw [hrun] at h
            dsimp only at h
            obtain ⟨b1, b2⟩ := z_keep o5r n mj _ w1 r1 hrun (fun _ hx => by cases hx) (z_vL.entry g1) hv3
            exact z_inv hx hb hown hts o1 o1n hNs hK o2 o3 o4 hv1 o9 hml hl.1 hchk hst0 hP hS (fun hj ha => z_met (z_wr ok n) ok hj hrun ha g1 hv3) (fun H' locs' a2 a3 => ih (pc + 3, L, r1.toList ++ rest, w1) h (fun v hv => by
              rcases List.mem_append.mp hv with hv | hv
              · exact b2 v hv
              · exact g2 v hv) hv2 b1 ls H' locs' hl a2 a3)
end ZK
/-! what a throw needs of the tables and of the statics -/
def t_St (C n d : String) (n0 : Nat) (U : State) (H : Heap) : Prop := ∃ (c : ClassId) (k : Class) (i : Nat) (f : Field) (a : Nat) (cell : Cell) (v : Value), U.vm.findClass C = some c ∧ U.fieldFound? C n d = some (c, k, i, f) ∧ f.isStatic = true ∧ k.statics = some a ∧ H[a]? = some cell ∧ cell.vm.isStatics = true ∧ cell.cls = c ∧ f.slot < cell.slots.size ∧ k.staticTypes[f.slot]? = some f.type ∧ cell.slots[f.slot]? = some v ∧ v.isRef = true ∧ a < n0
theorem t_St.of {args : Array Value} {s : State} {C n d : String} (h1 : (Jvm.Cond.laysStatic C n d).before args s = true) (h2 : (Jvm.Cond.isRef (.static C n d)).before args s = true) : t_St C n d s.heap.size s s.heap := by
  obtain ⟨c, k, i, f, a, cell, e1, e2, e3, e4, e5, e6, e7, e8, e9⟩ := Cond.laysStatic_spec h1
  cases hv : (Term.static C n d).eval args s none [] s with
  | none => simp [Cond.before, Cond.holds, Cond.value, hv] at h2
  | some v =>
    obtain ⟨-, a', cell', q1, q2, -, q3⟩ := Term.static_spec e2 hv
    cases e4.symm.trans q1
    cases e5.symm.trans q2
    refine ⟨c, k, i, f, a, cell, v, e1, e2, e3, e4, e5, e6, e7, e8, e9, q3, ?_, (Array.getElem?_eq_some_iff.mp e5).1⟩
    simp only [Cond.before, Cond.holds, Cond.value, hv] at h2
    cases v <;> simp_all [Value.isRef]
theorem t_St.moved {C n d : String} {n0 : Nat} {u U : State} {H H1 : Heap} (hvm : u.vm.Alike U.vm) (hk : ∀ a : Nat, a < n0 → H1[a]? = H[a]?) (h : t_St C n d n0 u H) : t_St C n d n0 U H1 := by
  obtain ⟨c, k, i, f, a, cell, v, e1, e2, e3, e4, e5, e6, e7, e8, e9, e10, e11, e12⟩ := h
  obtain ⟨k', hi', he⟩ := State.fieldFound?_setVm hvm e2
  exact ⟨c, k', i, f, a, cell, v, by rw [hvm.findClass]; exact e1, hi', e3, by rw [he]; exact e4, by rw [hk a e12]; exact e5, e6, e7, e8, by rw [he]; exact e9, e10, e11, e12⟩
theorem t_St.lays {C n d : String} {n0 : Nat} {s : State} {args : Array Value} (h : t_St C n d n0 s s.heap) : (Jvm.Cond.laysStatic C n d).before args s = true := by
  obtain ⟨c, k, i, f, a, cell, v, e1, e2, e3, e4, e5, e6, e7, e8, e9, -⟩ := h
  show (Jvm.Cond.laysStatic C n d).holds args s none s [] = true
  exact Cond.laysStatic_of e1 e2 e3 e4 e5 e6 e7 e8 e9
theorem t_St.ref {C n d : String} {n0 : Nat} {s : State} {args : Array Value} (h : t_St C n d n0 s s.heap) : (Jvm.Cond.isRef (.static C n d)).before args s = true := by
  obtain ⟨c, k, i, f, a, cell, v, e1, e2, e3, e4, e5, e6, e7, e8, e9, e10, e11, e12⟩ := h
  have he : (Term.static C n d).eval args s none [] s = some v := by
    simp [Term.eval, State.fieldNamed?, e2, e3, e4, e5, e6, e10]
  simp only [Cond.before, Cond.holds, Cond.value, he]
  cases v <;> simp_all [Value.isRef]
def z_xw : Jvm.Cond → Bool
  | .declares .. => true
  | .castable .. => true
  | _ => false
def zXs : List Jvm.Cond := lw_tbl.filter z_xw
theorem z_xw_mv {w : Jvm.Cond} (h : z_xw w = true) {s U : State} (hW : s.WarmedH U.vm) (hZ : va_Nw w s) : va_Nw w U := by
  cases w <;> first | exact va_Nw.warmD hW hZ | exact va_Nw.warmC hW hZ | (simp [z_xw] at h)
theorem z_xw_on {w : Jvm.Cond} (h : z_xw w = true) : w.onTables = true := by
  cases w <;> first | rfl | (simp [z_xw] at h)
def t_X (n0 : Nat) (U : State) (H : Heap) : Prop :=
  (t_St "java/lang/Throwable" "UNASSIGNED_STACK" "[Ljava/lang/StackTraceElement;" n0 U H ∧ t_St "java/lang/Throwable" "SUPPRESSED_SENTINEL" "Ljava/util/List;" n0 U H) ∧ (∀ w ∈ zXs, va_Nw w U) ∧
  ((∃ a, vk_R "PrintHouse" 181 "the house is down" a U) ∧ (∃ a, vk_R "PrintHouse" 147 "no such job, or nothing such of it" a U) ∧ (∃ a, vk_R "PrintHouse" 159 "no such pixel" a U)) ∧ va_Nc "java/lang/IndexOutOfBoundsException" "java/lang/IllegalStateException" U
theorem t_X.moved {n0 : Nat} {s U : State} {H H1 : Heap} (hW : s.WarmedH U.vm) (hk : ∀ a : Nat, a < n0 → H1[a]? = H[a]?) (h : t_X n0 s H) : t_X n0 U H1 := by
  obtain ⟨⟨h1, h2⟩, h3, ⟨⟨a1, h4⟩, ⟨a2, h5⟩, ⟨a3, h6⟩⟩, c, t, h7, h8, h9⟩ := h
  refine ⟨⟨h1.moved hW.alike hk, h2.moved hW.alike hk⟩, fun w hw => z_xw_mv (List.mem_filter.mp hw).2 hW (h3 w hw), ⟨⟨a1, vk_R.warm hW h4⟩, ⟨a2, vk_R.warm hW h5⟩, ⟨a3, vk_R.warm hW h6⟩⟩, c, t, by rw [hW.alike.findClass]; exact h7, by rw [hW.alike.findClass]; exact h8, by rw [hW.alike.assignable]; exact h9⟩
theorem t_X.call {n0 : Nat} {U : State} {g : JFrame} {mk : MethodId} {a : Array Value} (h : t_X n0 U U.heap) : t_X n0 (U.calling g mk a) (U.calling g mk a).heap := by
  obtain ⟨⟨h1, h2⟩, h3, ⟨⟨a1, h4⟩, ⟨a2, h5⟩, ⟨a3, h6⟩⟩, c, t, h7, h8, h9⟩ := h
  exact ⟨⟨t_St.moved (u := U) (U := U.calling g mk a) (H1 := (U.calling g mk a).heap) (Vm.Alike.refl U.vm) (fun _ _ => rfl) h1, t_St.moved (u := U) (U := U.calling g mk a) (H1 := (U.calling g mk a).heap) (Vm.Alike.refl U.vm) (fun _ _ => rfl) h2⟩, fun w hw => va_Nw.same (u := U) (U := U.calling g mk a) (z_xw_on (List.mem_filter.mp hw).2) rfl (h3 w hw), ⟨⟨a1, vk_R.same (u := U) rfl h4⟩, ⟨a2, vk_R.same (u := U) rfl h5⟩, ⟨a3, vk_R.same (u := U) rfl h6⟩⟩, c, t, h7, h8, h9⟩
/-- all words of a throw -/
theorem t_own {n0 : Nat} {s : State} {args : Array Value} {L : List Jvm.Cond} (hts : ∀ w ∈ zTs, w.before args s = true) (hX : t_X n0 s s.heap)
    (hL : L.all (fun w => (lw_tbl.contains w && (goodWord w || z_xw w)) || decide (w = .laysStatic "java/lang/Throwable" "UNASSIGNED_STACK" "[Ljava/lang/StackTraceElement;") || decide (w = .laysStatic "java/lang/Throwable" "SUPPRESSED_SENTINEL" "Ljava/util/List;") || decide (w = .isRef (.static "java/lang/Throwable" "UNASSIGNED_STACK" "[Ljava/lang/StackTraceElement;")) || decide (w = .isRef (.static "java/lang/Throwable" "SUPPRESSED_SENTINEL" "Ljava/util/List;"))) = true) : ∀ w ∈ L, w.before args s = true := by
  intro w hw
  have h := List.all_eq_true.mp hL w hw
  simp only [Bool.or_eq_true, Bool.and_eq_true, decide_eq_true_eq, List.contains_iff_mem] at h
  rcases h with (((⟨h1, h2⟩ | h) | h) | h) | h
  · rcases h2 with h2 | h2
    · exact hts w (zTs_in w h1 h2)
    · exact va_Nw.use (z_xw_on h2) (hX.2.1 w (List.mem_filter.mpr ⟨h1, h2⟩))
  · rw [h]; exact hX.1.1.lays
  · rw [h]; exact hX.1.2.lays
  · rw [h]; exact hX.1.1.ref
  · rw [h]; exact hX.1.2.ref
end
section
/-! roads of the class that throw -/
section ZKR
variable {S : z_S} {M : Nat → z_M} {C : Nat → Nat → Option z_I}
theorem z_stk_mono1 : ∀ (n mi : Nat) (f f' : z_F), z_stk S M C n mi f = some f' → z_stk S M C (n + 1) mi f = some f' := by
  intro n
  induction n with
  | zero => intro mi f f' h; cases h
  | succ n ih =>
    intro mi f f' h
    obtain ⟨pc, L, st, w⟩ := f
    rw [z_stk] at h ⊢
    cases hC : C mi pc with
    | none => rw [hC] at h; exact h
    | some I =>
      rw [hC] at h
      dsimp only at h ⊢
      cases hs : z_step S M I pc L st w with
      | none => rw [hs] at h; cases h
      | some z =>
        rw [hs] at h
        rcases z with f1 | rv | ⟨mj, as, rest⟩
        · dsimp only at h ⊢
          exact ih mi f1 f' h
        · cases h
        · dsimp only at h ⊢
          cases hr : z_run S M C n mj (0, z_entry (M mj).2.2.1 as, [], w) with
          | none => rw [hr] at h; cases h
          | some y =>
            rw [hr] at h
            rw [z_mono1 n mj _ y hr]
            exact ih mi _ f' h
theorem z_stk_mono {n k mi : Nat} {f f' : z_F} (hk : n ≤ k) (h : z_stk S M C n mi f = some f') : z_stk S M C k mi f = some f' := by
  induction hk with
  | refl => exact h
  | step _ ih => exact z_stk_mono1 _ _ _ _ ih
def z_K (S : z_S) (M : Nat → z_M) (C : Nat → Nat → Option z_I) (mi : Nat) (f f' : z_F) : Prop := ∃ n, z_stk S M C n mi f = some f'
variable {mi pc a b : Nat} {I : z_I} {L : z_L} {st : List z_V} {w : z_W} {f f' f1 : z_F}
theorem z_K.nil (hC : C mi pc = none) : z_K S M C mi (pc, L, st, w) (pc, L, st, w) := ⟨1, by rw [z_stk, hC]⟩
theorem z_K.go1 (hC : C mi pc = some I) (hs : z_step S M I pc L st w = some (.inl f1)) (k : z_K S M C mi f1 f') : z_K S M C mi (pc, L, st, w) f' := by
  obtain ⟨n, h⟩ := k
  refine ⟨n + 1, ?_⟩
  rw [z_stk, hC]
  dsimp only
  rw [hs]
  exact h
theorem z_K.call {mj : Nat} {as rest : List z_V} (hC : C mi pc = some I) (hs : z_step S M I pc L st w = some (.inr (.inr (mj, as, rest)))) (hk : z_C S M C mj (0, z_entry (M mj).2.2.1 as, [], w) (fun w' r => z_K S M C mi (pc + 3, L, r.toList ++ rest, w') f')) : z_K S M C mi (pc, L, st, w) f' := by
  obtain ⟨n1, w1, r1, h1, n2, h2⟩ := hk
  refine ⟨max n1 n2 + 1, ?_⟩
  rw [z_stk, hC]
  dsimp only
  rw [hs]
  dsimp only
  rw [z_mono (Nat.le_max_left n1 n2) h1]
  exact z_stk_mono (Nat.le_max_right n1 n2) h2
theorem z_K.if {c : Prop} [Decidable c] (h1 : c → z_K S M C mi (a, L, st, w) f') (h2 : ¬ c → z_K S M C mi (b, L, st, w) f') : z_K S M C mi (if c then a else b, L, st, w) f' := by
  split
  · exact h1 ‹_›
  · exact h2 ‹_›
theorem z_K.go : ∀ (k : Nat) {f f1 : z_F}, z_go S M C mi k f = some f1 → z_K S M C mi f1 f' → z_K S M C mi f f'
  | 0, f, f1, h, k => by cases h; exact k
  | n + 1, (pc, L, st, w), f1, h, k => by
    rw [z_go] at h
    cases hC : C mi pc with
    | none => rw [hC] at h; cases h
    | some I =>
      rw [hC] at h
      dsimp only at h
      cases hs : z_step S M I pc L st w with
      | none => rw [hs] at h; cases h
      | some z =>
        rw [hs] at h
        rcases z with f2 | rv | y
        · exact z_K.go1 hC hs (z_K.go n h k)
        · cases h
        · cases h
theorem z_run_sub {C' : Nat → Nat → Option z_I} (hC' : ∀ mi pc I, C' mi pc = some I → C mi pc = some I) : ∀ (n mi : Nat) (f : z_F) (x : z_W × Option z_V), z_run S M C' n mi f = some x → z_run S M C n mi f = some x := by
  intro n
  induction n with
  | zero => intro mi f x h; cases h
  | succ n ih =>
    intro mi f x h
    obtain ⟨pc, L, st, w⟩ := f
    rw [z_run] at h ⊢
    cases hC : C' mi pc with
    | none => rw [hC] at h; cases h
    | some I =>
      rw [hC] at h
      rw [hC' mi pc I hC]
      dsimp only at h ⊢
      cases hs : z_step S M I pc L st w with
      | none => rw [hs] at h; cases h
      | some z =>
        rw [hs] at h
        rcases z with f1 | rv | ⟨mj, as, rest⟩
        · exact ih mi f1 x h
        · exact h
        · dsimp only at h ⊢
          cases hr : z_run S M C' n mj (0, z_entry (M mj).2.2.1 as, [], w) with
          | none => rw [hr] at h; cases h
          | some y =>
            rw [hr] at h
            rw [ih mj _ y hr]
            exact ih mi _ x h
theorem z_C.sub {C' : Nat → Nat → Option z_I} {Q : z_W → Option z_V → Prop} (hC' : ∀ mi pc I, C' mi pc = some I → C mi pc = some I) (h : z_C S M C' mi f Q) : z_C S M C mi f Q := by
  obtain ⟨n, w', r, h1, h2⟩ := h
  exact ⟨n, w', r, z_run_sub hC' n mi f _ h1, h2⟩
end ZKR
abbrev zI (x : Int32) : z_V := .inl x
abbrev zR (g i : Nat) : z_V := .inr (.inr (some (g, i)))
def x_Pc (b : Nat) (cA : Nat → ClassId) (D : va_G) (tys : List (ClassId × FieldType)) (n0 : Nat) (as : List z_V) (w : z_W) : Array Value → State → Prop := fun v U => z_Pc sC zfk (adC b) cA D zcl tys zNs as w v U ∧ t_X n0 U U.heap
theorem x_Pc.blind {b : Nat} {cA : Nat → ClassId} {D : va_G} {tys : List (ClassId × FieldType)} {n0 : Nat} {as : List z_V} {w : z_W} : FrameBlind (x_Pc b cA D tys n0 as w) := by
  intro a U g mk hq
  obtain ⟨⟨q0, qP, qK, qN⟩, hX⟩ := hq
  exact ⟨⟨q0, qP, va_K.moved (u := U) (U := U.calling g mk a) (Vm.Alike.refl U.vm) qK, fun x hx1 => va_Nw.same (u := U) (U := U.calling g mk a) (zNs_on x hx1) rfl (qN x hx1)⟩, hX.call⟩
theorem t_names : ∀ n ∈ ["java/lang/RuntimeException", "java/lang/Exception"], Jvm.Bundle.fit n = true := by decide +kernel
set_option maxRecDepth 100000 in
theorem t_atI : (Jvm.Bundle.ownAtoms "PrintHouse" 183 "java/lang/IllegalStateException" ["java/lang/RuntimeException", "java/lang/Exception"]).all (fun w => (lw_tbl.contains w && (goodWord w || z_xw w)) || decide (w = .laysStatic "java/lang/Throwable" "UNASSIGNED_STACK" "[Ljava/lang/StackTraceElement;") || decide (w = .laysStatic "java/lang/Throwable" "SUPPRESSED_SENTINEL" "Ljava/util/List;") || decide (w = .isRef (.static "java/lang/Throwable" "UNASSIGNED_STACK" "[Ljava/lang/StackTraceElement;")) || decide (w = .isRef (.static "java/lang/Throwable" "SUPPRESSED_SENTINEL" "Ljava/util/List;"))) = true := by decide +kernel
set_option maxRecDepth 100000 in
theorem t_atB : (Jvm.Bundle.ownAtoms "PrintHouse" 149 "java/lang/IndexOutOfBoundsException" ["java/lang/RuntimeException", "java/lang/Exception"]).all (fun w => (lw_tbl.contains w && (goodWord w || z_xw w)) || decide (w = .laysStatic "java/lang/Throwable" "UNASSIGNED_STACK" "[Ljava/lang/StackTraceElement;") || decide (w = .laysStatic "java/lang/Throwable" "SUPPRESSED_SENTINEL" "Ljava/util/List;") || decide (w = .isRef (.static "java/lang/Throwable" "UNASSIGNED_STACK" "[Ljava/lang/StackTraceElement;")) || decide (w = .isRef (.static "java/lang/Throwable" "SUPPRESSED_SENTINEL" "Ljava/util/List;"))) = true := by decide +kernel
/-- a method that comes to a 'throw new E(text)' of its own, writing nothing -/
theorem t_road {l : Launch} (hl : l.stackTraces = false) {b n0 : Nat} {cA : Nat → ClassId} {D : va_G} {tys : List (ClassId × FieldType)} (h1 : tys[0]? = some (cA 0, .int)) (h2 : tys[1]? = some (cA 1, .long)) (h3 : tys[2]? = some (cA 2, .object "PrintHouse$Job"))
    {k : Nat} (hk : k < znM) {as : List z_V} {w : z_W} (hva : z_vs sC as) (hvw : z_vw sC w) (hal : (z_args as).length ≤ (zM k).2.2.1) (hown9 : (zM k).1.cls = "PrintHouse") (hf9 : (zM k).2.2.2.2.2.2.1 ≤ 6) (hl9 : (zM k).2.2.2.2.2.2.2 ≤ 130)
    {pc : Nat} {L : z_L} (hreach : z_K sC zM zCr k (0, z_entry (zM k).2.2.1 as, [], w) (pc, L, [], w)) {E text : String} {ik is ic : Nat} (hE : Jvm.Bundle.fit E = true)
    (hkW : Jvm.Cond.classLink "PrintHouse" ik E ∈ zTs) (hiW : Jvm.Cond.initialized E ∈ zTs)
    (hat : (Jvm.Bundle.ownAtoms "PrintHouse" ic E ["java/lang/RuntimeException", "java/lang/Exception"]).all (fun w => (lw_tbl.contains w && (goodWord w || z_xw w)) || decide (w = .laysStatic "java/lang/Throwable" "UNASSIGNED_STACK" "[Ljava/lang/StackTraceElement;") || decide (w = .laysStatic "java/lang/Throwable" "SUPPRESSED_SENTINEL" "Ljava/util/List;") || decide (w = .isRef (.static "java/lang/Throwable" "UNASSIGNED_STACK" "[Ljava/lang/StackTraceElement;")) || decide (w = .isRef (.static "java/lang/Throwable" "SUPPRESSED_SENTINEL" "Ljava/util/List;"))) = true)
    (hstr : ∀ U : State, t_X n0 U U.heap → ∃ a, vk_R "PrintHouse" is text a U)
    (d0 : decode (zM k).2.1 pc = .ok (.new ik, 3)) (d3 : decode (zM k).2.1 (pc + 3) = .ok (.dup, 1)) (d4 : decode (zM k).2.1 (pc + 4) = .ok (.ldc is, 2)) (d6 : decode (zM k).2.1 (pc + 6) = .ok (.invokespecial ic, 3)) (d9 : decode (zM k).2.1 (pc + 9) = .ok (.athrow, 1)) :
    t_Met l (zM k).1 (z_wm zTs (zM k)) { frames := 6, cells := 1, slots := 6, locals := 130 } (x_Pc b cA D tys n0 as w) E := by
  have ok := z_okCr (ad := adC b) (A := fun _ => False) h1 h2 h3
  have hmo := z_mo k hk
  refine t_ofW (cc := (zM k).2.1) (maxL := (zM k).2.2.1) (ret := (zM k).2.2.2.1) hmo.1 rfl ?_
  intro p e s m args below meth c s₁ B hml hempty hv
  obtain ⟨⟨rfl, hP, hK, hN⟩, hX⟩ := hv
  have hts0 := atoms_spec (ws := z_wm zTs (zM k)) B.pre
  have hts : ∀ w ∈ zTs, w.before (as.map (z_v (adC b))).toArray s = true := fun w hw => hts0 w (List.mem_cons_of_mem _ hw)
  have hown : s.vm.findClass (zM k).1.cls = some m.cls := findClass_of_methodNamed B.named
  have hownP : s.vm.findClass "PrintHouse" = some m.cls := by rw [← hown9]; exact hown
  obtain ⟨sa, hs1, hs2⟩ := hstr s hX
  obtain ⟨n, hn⟩ := hreach
  rw [lg_entry_eq]
  refine z_wstk ok hk B.exec B.bytes hml hown hts hN hK (show _ ≤ 6 from hf9) (show _ ≤ 130 from hl9) (f' := (pc, L, [], w)) (fun ls H locs g1 g2 g3 => ?_) n (0, z_entry (zM k).2.2.1 as, [], w) hn (fun _ hx => by cases hx) (z_vL.entry hva) hvw _ _ [] (z_entry_hl (adC b) as hal) hP va_S.rf
  intro T hT X
  have hlocs : locs = [] := by
    cases locs with
    | nil => rfl
    | cons x r => exact absurd (g3.2.2 x List.mem_cons_self) id
  subst hlocs
  have hheap : T.heap = s.heap := by
    have z1 : T.heap.size = s.heap.size := by
      have a1 := X.same.2.2.1
      have a2 := g3.1
      rw [← hT] at a2
      have a3 : (T.setVm s.vm).heap.size = T.heap.size := rfl
      omega
    apply Array.ext_getElem?
    intro i
    by_cases hi : i < s.heap.size
    · rw [hT]
      exact g3.2.1 i hi (fun h => h)
    · rw [Array.getElem?_eq_none (by omega), Array.getElem?_eq_none (by omega)]
  exact t_throw (text := text) (sa := sa) B.exec B.bytes hl hownP hE t_names (hts _ hkW) (hts _ hiW) hs1 ((Term.string_eval_of_vm (args := #[]) (args' := (as.map (z_v (adC b))).toArray) (U := s) (V := s) rfl).trans hs2) (t_own hts hX hat) (by rw [hml]; exact g1.1) d0 d3 d4 d6 d9 hempty (show 2 + 3 < 6 by omega) (show 13 * (2 + 1) + 43 ≤ 130 by omega) (Nat.le_refl _) (Nat.le_refl _) B.notSynchronized T hheap X
end
