section
-- ===== PART A: goes FIRST, ahead of the names: the tables' words, and 'selects' of the private methods out of them =====
/-- a private method of a class that the tables say can be made, by its rows of tables_1 -/
def lw_okq (q : MethodName × Nat) : Prop := (q.1.cls ≠ "java/lang/invoke/MethodHandle" ∧ q.1.cls ≠ "java/lang/invoke/VarHandle") ∧ Cond.instantiable q.1.cls q.2 ∈ tables_1 ∧ Cond.privateMethod q.1 ∈ tables_1 ∧ Cond.instanceMethod q.1 ∈ tables_1
theorem lw_p0 : lw_okq (⟨"PrintHouse", "refuseIfDown", "()V"⟩, 8) := ⟨⟨by decide +kernel, by decide +kernel⟩, List.mem_of_getElem? (i := 17) (by decide +kernel), List.mem_of_getElem? (i := 317) (by decide +kernel), List.mem_of_getElem? (i := 318) (by decide +kernel)⟩
theorem lw_p1 : lw_okq (⟨"java/lang/Throwable", "fillInStackTrace", "(I)Ljava/lang/Throwable;"⟩, 6) := ⟨⟨by decide +kernel, by decide +kernel⟩, List.mem_of_getElem? (i := 358) (by decide +kernel), List.mem_of_getElem? (i := 356) (by decide +kernel), List.mem_of_getElem? (i := 357) (by decide +kernel)⟩
theorem lw_p2 : lw_okq (⟨"PrintHouse$Message", "readGroups", "()Z"⟩, 11) := ⟨⟨by decide +kernel, by decide +kernel⟩, List.mem_of_getElem? (i := 43) (by decide +kernel), List.mem_of_getElem? (i := 410) (by decide +kernel), List.mem_of_getElem? (i := 411) (by decide +kernel)⟩
theorem lw_p3 : lw_okq (⟨"PrintHouse$Message", "readGroup", "()Z"⟩, 11) := ⟨⟨by decide +kernel, by decide +kernel⟩, List.mem_of_getElem? (i := 43) (by decide +kernel), List.mem_of_getElem? (i := 415) (by decide +kernel), List.mem_of_getElem? (i := 416) (by decide +kernel)⟩
theorem lw_p4 : lw_okq (⟨"PrintHouse$Message", "readAttribute", "()Z"⟩, 11) := ⟨⟨by decide +kernel, by decide +kernel⟩, List.mem_of_getElem? (i := 43) (by decide +kernel), List.mem_of_getElem? (i := 423) (by decide +kernel), List.mem_of_getElem? (i := 424) (by decide +kernel)⟩
theorem lw_p5 : lw_okq (⟨"PrintHouse$Message", "isLastNameTwice", "(I)Z"⟩, 11) := ⟨⟨by decide +kernel, by decide +kernel⟩, List.mem_of_getElem? (i := 43) (by decide +kernel), List.mem_of_getElem? (i := 438) (by decide +kernel), List.mem_of_getElem? (i := 439) (by decide +kernel)⟩
theorem lw_p6 : lw_okq (⟨"PrintHouse", "statusOfMessage", "()I"⟩, 8) := ⟨⟨by decide +kernel, by decide +kernel⟩, List.mem_of_getElem? (i := 17) (by decide +kernel), List.mem_of_getElem? (i := 442) (by decide +kernel), List.mem_of_getElem? (i := 443) (by decide +kernel)⟩
theorem lw_p7 : lw_okq (⟨"PrintHouse", "statusOfPrint", "()I"⟩, 8) := ⟨⟨by decide +kernel, by decide +kernel⟩, List.mem_of_getElem? (i := 17) (by decide +kernel), List.mem_of_getElem? (i := 450) (by decide +kernel), List.mem_of_getElem? (i := 451) (by decide +kernel)⟩
theorem lw_p8 : lw_okq (⟨"PrintHouse$Job", "setInteger", "(JI)Z"⟩, 10) := ⟨⟨by decide +kernel, by decide +kernel⟩, List.mem_of_getElem? (i := 101) (by decide +kernel), List.mem_of_getElem? (i := 466) (by decide +kernel), List.mem_of_getElem? (i := 467) (by decide +kernel)⟩
theorem lw_p9 : lw_okq (⟨"PrintHouse$Job", "setBoolean", "(JI)Z"⟩, 10) := ⟨⟨by decide +kernel, by decide +kernel⟩, List.mem_of_getElem? (i := 101) (by decide +kernel), List.mem_of_getElem? (i := 473) (by decide +kernel), List.mem_of_getElem? (i := 474) (by decide +kernel)⟩
theorem lw_p10 : lw_okq (⟨"PrintHouse$Job", "setSides", "(J)Z"⟩, 10) := ⟨⟨by decide +kernel, by decide +kernel⟩, List.mem_of_getElem? (i := 101) (by decide +kernel), List.mem_of_getElem? (i := 480) (by decide +kernel), List.mem_of_getElem? (i := 481) (by decide +kernel)⟩
theorem lw_p11 : lw_okq (⟨"PrintHouse$PageReader", "readRaster", "(LPrintHouse$Job;)Z"⟩, 2) := ⟨⟨by decide +kernel, by decide +kernel⟩, List.mem_of_getElem? (i := 88) (by decide +kernel), List.mem_of_getElem? (i := 494) (by decide +kernel), List.mem_of_getElem? (i := 495) (by decide +kernel)⟩
theorem lw_p12 : lw_okq (⟨"PrintHouse$PageReader", "readRow", "()Z"⟩, 2) := ⟨⟨by decide +kernel, by decide +kernel⟩, List.mem_of_getElem? (i := 88) (by decide +kernel), List.mem_of_getElem? (i := 498) (by decide +kernel), List.mem_of_getElem? (i := 499) (by decide +kernel)⟩
theorem lw_p13 : lw_okq (⟨"PrintHouse$PageReader", "keepRow", "(LPrintHouse$Job;II)V"⟩, 2) := ⟨⟨by decide +kernel, by decide +kernel⟩, List.mem_of_getElem? (i := 88) (by decide +kernel), List.mem_of_getElem? (i := 505) (by decide +kernel), List.mem_of_getElem? (i := 506) (by decide +kernel)⟩
theorem lw_p14 : lw_okq (⟨"PrintHouse$Message", "jobAttribute", "()I"⟩, 11) := ⟨⟨by decide +kernel, by decide +kernel⟩, List.mem_of_getElem? (i := 43) (by decide +kernel), List.mem_of_getElem? (i := 533) (by decide +kernel), List.mem_of_getElem? (i := 534) (by decide +kernel)⟩
theorem lw_p15 : lw_okq (⟨"PrintHouse", "statusOfJobRequest", "()I"⟩, 8) := ⟨⟨by decide +kernel, by decide +kernel⟩, List.mem_of_getElem? (i := 17) (by decide +kernel), List.mem_of_getElem? (i := 538) (by decide +kernel), List.mem_of_getElem? (i := 539) (by decide +kernel)⟩
def lw_privs_1 : List (MethodName × Nat) := [(⟨"PrintHouse", "refuseIfDown", "()V"⟩, 8), (⟨"java/lang/Throwable", "fillInStackTrace", "(I)Ljava/lang/Throwable;"⟩, 6), (⟨"PrintHouse$Message", "readGroups", "()Z"⟩, 11), (⟨"PrintHouse$Message", "readGroup", "()Z"⟩, 11), (⟨"PrintHouse$Message", "readAttribute", "()Z"⟩, 11), (⟨"PrintHouse$Message", "isLastNameTwice", "(I)Z"⟩, 11), (⟨"PrintHouse", "statusOfMessage", "()I"⟩, 8), (⟨"PrintHouse", "statusOfPrint", "()I"⟩, 8), (⟨"PrintHouse$Job", "setInteger", "(JI)Z"⟩, 10), (⟨"PrintHouse$Job", "setBoolean", "(JI)Z"⟩, 10), (⟨"PrintHouse$Job", "setSides", "(J)Z"⟩, 10), (⟨"PrintHouse$PageReader", "readRaster", "(LPrintHouse$Job;)Z"⟩, 2), (⟨"PrintHouse$PageReader", "readRow", "()Z"⟩, 2), (⟨"PrintHouse$PageReader", "keepRow", "(LPrintHouse$Job;II)V"⟩, 2), (⟨"PrintHouse$Message", "jobAttribute", "()I"⟩, 11), (⟨"PrintHouse", "statusOfJobRequest", "()I"⟩, 8)]
theorem lw_r1 : ∀ q ∈ lw_privs_1, lw_okq q := List.forall_mem_cons.mpr ⟨lw_p0, List.forall_mem_cons.mpr ⟨lw_p1, List.forall_mem_cons.mpr ⟨lw_p2, List.forall_mem_cons.mpr ⟨lw_p3, List.forall_mem_cons.mpr ⟨lw_p4, List.forall_mem_cons.mpr ⟨lw_p5, List.forall_mem_cons.mpr ⟨lw_p6, List.forall_mem_cons.mpr ⟨lw_p7, List.forall_mem_cons.mpr ⟨lw_p8, List.forall_mem_cons.mpr ⟨lw_p9, List.forall_mem_cons.mpr ⟨lw_p10, List.forall_mem_cons.mpr ⟨lw_p11, List.forall_mem_cons.mpr ⟨lw_p12, List.forall_mem_cons.mpr ⟨lw_p13, List.forall_mem_cons.mpr ⟨lw_p14, List.forall_mem_cons.mpr ⟨lw_p15, fun _ h => absurd h List.not_mem_nil⟩⟩⟩⟩⟩⟩⟩⟩⟩⟩⟩⟩⟩⟩⟩⟩
theorem lw_p16 : lw_okq (⟨"PrintHouse", "carryOut", "()Z"⟩, 8) := ⟨⟨by decide +kernel, by decide +kernel⟩, List.mem_of_getElem? (i := 17) (by decide +kernel), List.mem_of_getElem? (i := 554) (by decide +kernel), List.mem_of_getElem? (i := 555) (by decide +kernel)⟩
theorem lw_p17 : lw_okq (⟨"PrintHouse$Spool", "isLogged", "(I)Z"⟩, 4) := ⟨⟨by decide +kernel, by decide +kernel⟩, List.mem_of_getElem? (i := 177) (by decide +kernel), List.mem_of_getElem? (i := 562) (by decide +kernel), List.mem_of_getElem? (i := 563) (by decide +kernel)⟩
theorem lw_p18 : lw_okq (⟨"PrintHouse$Spool", "isLogRenewed", "()Z"⟩, 4) := ⟨⟨by decide +kernel, by decide +kernel⟩, List.mem_of_getElem? (i := 177) (by decide +kernel), List.mem_of_getElem? (i := 566) (by decide +kernel), List.mem_of_getElem? (i := 567) (by decide +kernel)⟩
theorem lw_p19 : lw_okq (⟨"PrintHouse$Spool", "forgetEnded", "()V"⟩, 4) := ⟨⟨by decide +kernel, by decide +kernel⟩, List.mem_of_getElem? (i := 177) (by decide +kernel), List.mem_of_getElem? (i := 575) (by decide +kernel), List.mem_of_getElem? (i := 576) (by decide +kernel)⟩
theorem lw_p20 : lw_okq (⟨"PrintHouse", "writeReply", "(I)V"⟩, 8) := ⟨⟨by decide +kernel, by decide +kernel⟩, List.mem_of_getElem? (i := 17) (by decide +kernel), List.mem_of_getElem? (i := 591) (by decide +kernel), List.mem_of_getElem? (i := 592) (by decide +kernel)⟩
theorem lw_p21 : lw_okq (⟨"PrintHouse", "tellOfAll", "()V"⟩, 8) := ⟨⟨by decide +kernel, by decide +kernel⟩, List.mem_of_getElem? (i := 17) (by decide +kernel), List.mem_of_getElem? (i := 600) (by decide +kernel), List.mem_of_getElem? (i := 601) (by decide +kernel)⟩
theorem lw_p22 : lw_okq (⟨"PrintHouse", "tellOf", "(LPrintHouse$Job;)V"⟩, 8) := ⟨⟨by decide +kernel, by decide +kernel⟩, List.mem_of_getElem? (i := 17) (by decide +kernel), List.mem_of_getElem? (i := 611) (by decide +kernel), List.mem_of_getElem? (i := 612) (by decide +kernel)⟩
theorem lw_p23 : lw_okq (⟨"PrintHouse", "goneDown", "()I"⟩, 8) := ⟨⟨by decide +kernel, by decide +kernel⟩, List.mem_of_getElem? (i := 17) (by decide +kernel), List.mem_of_getElem? (i := 635) (by decide +kernel), List.mem_of_getElem? (i := 636) (by decide +kernel)⟩
theorem lw_p24 : lw_okq (⟨"PrintHouse$Press", "layOut", "(LPrintHouse$Job;)V"⟩, 8) := ⟨⟨by decide +kernel, by decide +kernel⟩, List.mem_of_getElem? (i := 201) (by decide +kernel), List.mem_of_getElem? (i := 658) (by decide +kernel), List.mem_of_getElem? (i := 659) (by decide +kernel)⟩
theorem lw_p25 : lw_okq (⟨"PrintHouse$Press", "cellWidth", "()I"⟩, 8) := ⟨⟨by decide +kernel, by decide +kernel⟩, List.mem_of_getElem? (i := 201) (by decide +kernel), List.mem_of_getElem? (i := 662) (by decide +kernel), List.mem_of_getElem? (i := 663) (by decide +kernel)⟩
theorem lw_p26 : lw_okq (⟨"PrintHouse$Press", "cellHeight", "()I"⟩, 8) := ⟨⟨by decide +kernel, by decide +kernel⟩, List.mem_of_getElem? (i := 201) (by decide +kernel), List.mem_of_getElem? (i := 666) (by decide +kernel), List.mem_of_getElem? (i := 667) (by decide +kernel)⟩
theorem lw_p27 : lw_okq (⟨"PrintHouse$Press", "fillSide", "(LPrintHouse$Job;I)V"⟩, 8) := ⟨⟨by decide +kernel, by decide +kernel⟩, List.mem_of_getElem? (i := 201) (by decide +kernel), List.mem_of_getElem? (i := 676) (by decide +kernel), List.mem_of_getElem? (i := 677) (by decide +kernel)⟩
theorem lw_p28 : lw_okq (⟨"PrintHouse$Press", "fillCell", "(LPrintHouse$Job;III)V"⟩, 8) := ⟨⟨by decide +kernel, by decide +kernel⟩, List.mem_of_getElem? (i := 201) (by decide +kernel), List.mem_of_getElem? (i := 696) (by decide +kernel), List.mem_of_getElem? (i := 697) (by decide +kernel)⟩
theorem lw_p29 : lw_okq (⟨"PrintHouse$Press", "turnSideByHalf", "()V"⟩, 8) := ⟨⟨by decide +kernel, by decide +kernel⟩, List.mem_of_getElem? (i := 201) (by decide +kernel), List.mem_of_getElem? (i := 708) (by decide +kernel), List.mem_of_getElem? (i := 709) (by decide +kernel)⟩
theorem lw_p30 : lw_okq (⟨"PrintHouse$Press", "writeSide", "()V"⟩, 8) := ⟨⟨by decide +kernel, by decide +kernel⟩, List.mem_of_getElem? (i := 201) (by decide +kernel), List.mem_of_getElem? (i := 712) (by decide +kernel), List.mem_of_getElem? (i := 713) (by decide +kernel)⟩
theorem lw_p31 : lw_okq (⟨"PrintHouse$Press", "equalRows", "(I)I"⟩, 8) := ⟨⟨by decide +kernel, by decide +kernel⟩, List.mem_of_getElem? (i := 201) (by decide +kernel), List.mem_of_getElem? (i := 716) (by decide +kernel), List.mem_of_getElem? (i := 717) (by decide +kernel)⟩
def lw_privs_2 : List (MethodName × Nat) := [(⟨"PrintHouse", "carryOut", "()Z"⟩, 8), (⟨"PrintHouse$Spool", "isLogged", "(I)Z"⟩, 4), (⟨"PrintHouse$Spool", "isLogRenewed", "()Z"⟩, 4), (⟨"PrintHouse$Spool", "forgetEnded", "()V"⟩, 4), (⟨"PrintHouse", "writeReply", "(I)V"⟩, 8), (⟨"PrintHouse", "tellOfAll", "()V"⟩, 8), (⟨"PrintHouse", "tellOf", "(LPrintHouse$Job;)V"⟩, 8), (⟨"PrintHouse", "goneDown", "()I"⟩, 8), (⟨"PrintHouse$Press", "layOut", "(LPrintHouse$Job;)V"⟩, 8), (⟨"PrintHouse$Press", "cellWidth", "()I"⟩, 8), (⟨"PrintHouse$Press", "cellHeight", "()I"⟩, 8), (⟨"PrintHouse$Press", "fillSide", "(LPrintHouse$Job;I)V"⟩, 8), (⟨"PrintHouse$Press", "fillCell", "(LPrintHouse$Job;III)V"⟩, 8), (⟨"PrintHouse$Press", "turnSideByHalf", "()V"⟩, 8), (⟨"PrintHouse$Press", "writeSide", "()V"⟩, 8), (⟨"PrintHouse$Press", "equalRows", "(I)I"⟩, 8)]
theorem lw_r2 : ∀ q ∈ lw_privs_2, lw_okq q := List.forall_mem_cons.mpr ⟨lw_p16, List.forall_mem_cons.mpr ⟨lw_p17, List.forall_mem_cons.mpr ⟨lw_p18, List.forall_mem_cons.mpr ⟨lw_p19, List.forall_mem_cons.mpr ⟨lw_p20, List.forall_mem_cons.mpr ⟨lw_p21, List.forall_mem_cons.mpr ⟨lw_p22, List.forall_mem_cons.mpr ⟨lw_p23, List.forall_mem_cons.mpr ⟨lw_p24, List.forall_mem_cons.mpr ⟨lw_p25, List.forall_mem_cons.mpr ⟨lw_p26, List.forall_mem_cons.mpr ⟨lw_p27, List.forall_mem_cons.mpr ⟨lw_p28, List.forall_mem_cons.mpr ⟨lw_p29, List.forall_mem_cons.mpr ⟨lw_p30, List.forall_mem_cons.mpr ⟨lw_p31, fun _ h => absurd h List.not_mem_nil⟩⟩⟩⟩⟩⟩⟩⟩⟩⟩⟩⟩⟩⟩⟩⟩
theorem lw_p32 : lw_okq (⟨"PrintHouse$Press", "areRowsEqual", "(II)Z"⟩, 8) := ⟨⟨by decide +kernel, by decide +kernel⟩, List.mem_of_getElem? (i := 201) (by decide +kernel), List.mem_of_getElem? (i := 720) (by decide +kernel), List.mem_of_getElem? (i := 721) (by decide +kernel)⟩
theorem lw_p33 : lw_okq (⟨"PrintHouse$Press", "writeRow", "(I)V"⟩, 8) := ⟨⟨by decide +kernel, by decide +kernel⟩, List.mem_of_getElem? (i := 201) (by decide +kernel), List.mem_of_getElem? (i := 724) (by decide +kernel), List.mem_of_getElem? (i := 725) (by decide +kernel)⟩
theorem lw_p34 : lw_okq (⟨"PrintHouse$Press", "endOfEqual", "(II)I"⟩, 8) := ⟨⟨by decide +kernel, by decide +kernel⟩, List.mem_of_getElem? (i := 201) (by decide +kernel), List.mem_of_getElem? (i := 728) (by decide +kernel), List.mem_of_getElem? (i := 729) (by decide +kernel)⟩
theorem lw_p35 : lw_okq (⟨"PrintHouse$Press", "endOfUnlike", "(II)I"⟩, 8) := ⟨⟨by decide +kernel, by decide +kernel⟩, List.mem_of_getElem? (i := 201) (by decide +kernel), List.mem_of_getElem? (i := 732) (by decide +kernel), List.mem_of_getElem? (i := 733) (by decide +kernel)⟩
theorem lw_p36 : lw_okq (⟨"PrintHouse$Press", "writeUnlike", "(II)V"⟩, 8) := ⟨⟨by decide +kernel, by decide +kernel⟩, List.mem_of_getElem? (i := 201) (by decide +kernel), List.mem_of_getElem? (i := 736) (by decide +kernel), List.mem_of_getElem? (i := 737) (by decide +kernel)⟩
theorem lw_p37 : lw_okq (⟨"PrintHouseModel", "statusOf", "(I)I"⟩, 28) := ⟨⟨by decide +kernel, by decide +kernel⟩, List.mem_of_getElem? (i := 793) (by decide +kernel), List.mem_of_getElem? (i := 897) (by decide +kernel), List.mem_of_getElem? (i := 898) (by decide +kernel)⟩
theorem lw_p38 : lw_okq (⟨"PrintHouseModel", "readAll", "()V"⟩, 28) := ⟨⟨by decide +kernel, by decide +kernel⟩, List.mem_of_getElem? (i := 793) (by decide +kernel), List.mem_of_getElem? (i := 901) (by decide +kernel), List.mem_of_getElem? (i := 902) (by decide +kernel)⟩
theorem lw_p39 : lw_okq (⟨"PrintHouseModel", "number", "(I)I"⟩, 28) := ⟨⟨by decide +kernel, by decide +kernel⟩, List.mem_of_getElem? (i := 793) (by decide +kernel), List.mem_of_getElem? (i := 905) (by decide +kernel), List.mem_of_getElem? (i := 906) (by decide +kernel)⟩
theorem lw_p40 : lw_okq (⟨"PrintHouseModel", "group", "(Z)V"⟩, 28) := ⟨⟨by decide +kernel, by decide +kernel⟩, List.mem_of_getElem? (i := 793) (by decide +kernel), List.mem_of_getElem? (i := 909) (by decide +kernel), List.mem_of_getElem? (i := 910) (by decide +kernel)⟩
theorem lw_p41 : lw_okq (⟨"PrintHouseModel", "peek", "()I"⟩, 28) := ⟨⟨by decide +kernel, by decide +kernel⟩, List.mem_of_getElem? (i := 793) (by decide +kernel), List.mem_of_getElem? (i := 913) (by decide +kernel), List.mem_of_getElem? (i := 914) (by decide +kernel)⟩
theorem lw_p42 : lw_okq (⟨"PrintHouseModel", "attribute", "(Z)V"⟩, 28) := ⟨⟨by decide +kernel, by decide +kernel⟩, List.mem_of_getElem? (i := 793) (by decide +kernel), List.mem_of_getElem? (i := 917) (by decide +kernel), List.mem_of_getElem? (i := 918) (by decide +kernel)⟩
theorem lw_p43 : lw_okq (⟨"PrintHouseModel", "letters", "(II)Z"⟩, 28) := ⟨⟨by decide +kernel, by decide +kernel⟩, List.mem_of_getElem? (i := 793) (by decide +kernel), List.mem_of_getElem? (i := 921) (by decide +kernel), List.mem_of_getElem? (i := 922) (by decide +kernel)⟩
theorem lw_p44 : lw_okq (⟨"PrintHouseModel", "isNew", "(II)Z"⟩, 28) := ⟨⟨by decide +kernel, by decide +kernel⟩, List.mem_of_getElem? (i := 793) (by decide +kernel), List.mem_of_getElem? (i := 925) (by decide +kernel), List.mem_of_getElem? (i := 926) (by decide +kernel)⟩
theorem lw_p45 : lw_okq (⟨"PrintHouseModel", "spells", "(IIIJ)Z"⟩, 28) := ⟨⟨by decide +kernel, by decide +kernel⟩, List.mem_of_getElem? (i := 793) (by decide +kernel), List.mem_of_getElem? (i := 930) (by decide +kernel), List.mem_of_getElem? (i := 931) (by decide +kernel)⟩
theorem lw_p46 : lw_okq (⟨"PrintHouseModel", "told", "(IIIIII)V"⟩, 28) := ⟨⟨by decide +kernel, by decide +kernel⟩, List.mem_of_getElem? (i := 793) (by decide +kernel), List.mem_of_getElem? (i := 935) (by decide +kernel), List.mem_of_getElem? (i := 936) (by decide +kernel)⟩
theorem lw_p47 : lw_okq (⟨"PrintHouseModel", "printable", "()I"⟩, 28) := ⟨⟨by decide +kernel, by decide +kernel⟩, List.mem_of_getElem? (i := 793) (by decide +kernel), List.mem_of_getElem? (i := 954) (by decide +kernel), List.mem_of_getElem? (i := 955) (by decide +kernel)⟩
def lw_privs_3 : List (MethodName × Nat) := [(⟨"PrintHouse$Press", "areRowsEqual", "(II)Z"⟩, 8), (⟨"PrintHouse$Press", "writeRow", "(I)V"⟩, 8), (⟨"PrintHouse$Press", "endOfEqual", "(II)I"⟩, 8), (⟨"PrintHouse$Press", "endOfUnlike", "(II)I"⟩, 8), (⟨"PrintHouse$Press", "writeUnlike", "(II)V"⟩, 8), (⟨"PrintHouseModel", "statusOf", "(I)I"⟩, 28), (⟨"PrintHouseModel", "readAll", "()V"⟩, 28), (⟨"PrintHouseModel", "number", "(I)I"⟩, 28), (⟨"PrintHouseModel", "group", "(Z)V"⟩, 28), (⟨"PrintHouseModel", "peek", "()I"⟩, 28), (⟨"PrintHouseModel", "attribute", "(Z)V"⟩, 28), (⟨"PrintHouseModel", "letters", "(II)Z"⟩, 28), (⟨"PrintHouseModel", "isNew", "(II)Z"⟩, 28), (⟨"PrintHouseModel", "spells", "(IIIJ)Z"⟩, 28), (⟨"PrintHouseModel", "told", "(IIIIII)V"⟩, 28), (⟨"PrintHouseModel", "printable", "()I"⟩, 28)]
theorem lw_r3 : ∀ q ∈ lw_privs_3, lw_okq q := List.forall_mem_cons.mpr ⟨lw_p32, List.forall_mem_cons.mpr ⟨lw_p33, List.forall_mem_cons.mpr ⟨lw_p34, List.forall_mem_cons.mpr ⟨lw_p35, List.forall_mem_cons.mpr ⟨lw_p36, List.forall_mem_cons.mpr ⟨lw_p37, List.forall_mem_cons.mpr ⟨lw_p38, List.forall_mem_cons.mpr ⟨lw_p39, List.forall_mem_cons.mpr ⟨lw_p40, List.forall_mem_cons.mpr ⟨lw_p41, List.forall_mem_cons.mpr ⟨lw_p42, List.forall_mem_cons.mpr ⟨lw_p43, List.forall_mem_cons.mpr ⟨lw_p44, List.forall_mem_cons.mpr ⟨lw_p45, List.forall_mem_cons.mpr ⟨lw_p46, List.forall_mem_cons.mpr ⟨lw_p47, fun _ h => absurd h List.not_mem_nil⟩⟩⟩⟩⟩⟩⟩⟩⟩⟩⟩⟩⟩⟩⟩⟩
theorem lw_p48 : lw_okq (⟨"PrintHouseModel", "pages", "()I"⟩, 28) := ⟨⟨by decide +kernel, by decide +kernel⟩, List.mem_of_getElem? (i := 793) (by decide +kernel), List.mem_of_getElem? (i := 958) (by decide +kernel), List.mem_of_getElem? (i := 959) (by decide +kernel)⟩
theorem lw_p49 : lw_okq (⟨"PrintHouseModel", "raster", "(I)Z"⟩, 28) := ⟨⟨by decide +kernel, by decide +kernel⟩, List.mem_of_getElem? (i := 793) (by decide +kernel), List.mem_of_getElem? (i := 962) (by decide +kernel), List.mem_of_getElem? (i := 963) (by decide +kernel)⟩
theorem lw_p50 : lw_okq (⟨"PrintHouseModel", "blocks", "()I"⟩, 28) := ⟨⟨by decide +kernel, by decide +kernel⟩, List.mem_of_getElem? (i := 793) (by decide +kernel), List.mem_of_getElem? (i := 966) (by decide +kernel), List.mem_of_getElem? (i := 967) (by decide +kernel)⟩
theorem lw_p51 : lw_okq (⟨"PrintHouseModel", "hasEnded", "(I)Z"⟩, 28) := ⟨⟨by decide +kernel, by decide +kernel⟩, List.mem_of_getElem? (i := 793) (by decide +kernel), List.mem_of_getElem? (i := 970) (by decide +kernel), List.mem_of_getElem? (i := 971) (by decide +kernel)⟩
theorem lw_p52 : lw_okq (⟨"PrintHouseModel", "find", "(I)I"⟩, 28) := ⟨⟨by decide +kernel, by decide +kernel⟩, List.mem_of_getElem? (i := 793) (by decide +kernel), List.mem_of_getElem? (i := 974) (by decide +kernel), List.mem_of_getElem? (i := 975) (by decide +kernel)⟩
theorem lw_p53 : lw_okq (⟨"PrintHouseModel", "does", "(I)I"⟩, 28) := ⟨⟨by decide +kernel, by decide +kernel⟩, List.mem_of_getElem? (i := 793) (by decide +kernel), List.mem_of_getElem? (i := 978) (by decide +kernel), List.mem_of_getElem? (i := 979) (by decide +kernel)⟩
theorem lw_p54 : lw_okq (⟨"PrintHouseModel", "transact", "(I)Z"⟩, 28) := ⟨⟨by decide +kernel, by decide +kernel⟩, List.mem_of_getElem? (i := 793) (by decide +kernel), List.mem_of_getElem? (i := 982) (by decide +kernel), List.mem_of_getElem? (i := 983) (by decide +kernel)⟩
theorem lw_p55 : lw_okq (⟨"PrintHouseModel", "write", "(I)Z"⟩, 28) := ⟨⟨by decide +kernel, by decide +kernel⟩, List.mem_of_getElem? (i := 793) (by decide +kernel), List.mem_of_getElem? (i := 986) (by decide +kernel), List.mem_of_getElem? (i := 987) (by decide +kernel)⟩
theorem lw_p56 : lw_okq (⟨"PrintHouseModel", "goDown", "()V"⟩, 28) := ⟨⟨by decide +kernel, by decide +kernel⟩, List.mem_of_getElem? (i := 793) (by decide +kernel), List.mem_of_getElem? (i := 990) (by decide +kernel), List.mem_of_getElem? (i := 991) (by decide +kernel)⟩
theorem lw_p57 : lw_okq (⟨"PrintHouseModel", "forget", "()V"⟩, 28) := ⟨⟨by decide +kernel, by decide +kernel⟩, List.mem_of_getElem? (i := 793) (by decide +kernel), List.mem_of_getElem? (i := 994) (by decide +kernel), List.mem_of_getElem? (i := 995) (by decide +kernel)⟩
theorem lw_p58 : lw_okq (⟨"PrintHouseModel", "copy", "(II)V"⟩, 28) := ⟨⟨by decide +kernel, by decide +kernel⟩, List.mem_of_getElem? (i := 793) (by decide +kernel), List.mem_of_getElem? (i := 998) (by decide +kernel), List.mem_of_getElem? (i := 999) (by decide +kernel)⟩
theorem lw_p59 : lw_okq (⟨"PrintHouseModel", "change", "(II)Z"⟩, 28) := ⟨⟨by decide +kernel, by decide +kernel⟩, List.mem_of_getElem? (i := 793) (by decide +kernel), List.mem_of_getElem? (i := 1002) (by decide +kernel), List.mem_of_getElem? (i := 1003) (by decide +kernel)⟩
theorem lw_p60 : lw_okq (⟨"PrintHouseModel", "say", "(II)V"⟩, 28) := ⟨⟨by decide +kernel, by decide +kernel⟩, List.mem_of_getElem? (i := 793) (by decide +kernel), List.mem_of_getElem? (i := 1006) (by decide +kernel), List.mem_of_getElem? (i := 1007) (by decide +kernel)⟩
theorem lw_p61 : lw_okq (⟨"PrintHouseModel", "list", "()V"⟩, 28) := ⟨⟨by decide +kernel, by decide +kernel⟩, List.mem_of_getElem? (i := 793) (by decide +kernel), List.mem_of_getElem? (i := 1010) (by decide +kernel), List.mem_of_getElem? (i := 1011) (by decide +kernel)⟩
theorem lw_p62 : lw_okq (⟨"PrintHouseModel", "rank", "(I)I"⟩, 28) := ⟨⟨by decide +kernel, by decide +kernel⟩, List.mem_of_getElem? (i := 793) (by decide +kernel), List.mem_of_getElem? (i := 1014) (by decide +kernel), List.mem_of_getElem? (i := 1015) (by decide +kernel)⟩
theorem lw_p63 : lw_okq (⟨"PrintHouseModel", "isBefore", "(II)Z"⟩, 28) := ⟨⟨by decide +kernel, by decide +kernel⟩, List.mem_of_getElem? (i := 793) (by decide +kernel), List.mem_of_getElem? (i := 1018) (by decide +kernel), List.mem_of_getElem? (i := 1019) (by decide +kernel)⟩
def lw_privs_4 : List (MethodName × Nat) := [(⟨"PrintHouseModel", "pages", "()I"⟩, 28), (⟨"PrintHouseModel", "raster", "(I)Z"⟩, 28), (⟨"PrintHouseModel", "blocks", "()I"⟩, 28), (⟨"PrintHouseModel", "hasEnded", "(I)Z"⟩, 28), (⟨"PrintHouseModel", "find", "(I)I"⟩, 28), (⟨"PrintHouseModel", "does", "(I)I"⟩, 28), (⟨"PrintHouseModel", "transact", "(I)Z"⟩, 28), (⟨"PrintHouseModel", "write", "(I)Z"⟩, 28), (⟨"PrintHouseModel", "goDown", "()V"⟩, 28), (⟨"PrintHouseModel", "forget", "()V"⟩, 28), (⟨"PrintHouseModel", "copy", "(II)V"⟩, 28), (⟨"PrintHouseModel", "change", "(II)Z"⟩, 28), (⟨"PrintHouseModel", "say", "(II)V"⟩, 28), (⟨"PrintHouseModel", "list", "()V"⟩, 28), (⟨"PrintHouseModel", "rank", "(I)I"⟩, 28), (⟨"PrintHouseModel", "isBefore", "(II)Z"⟩, 28)]
theorem lw_r4 : ∀ q ∈ lw_privs_4, lw_okq q := List.forall_mem_cons.mpr ⟨lw_p48, List.forall_mem_cons.mpr ⟨lw_p49, List.forall_mem_cons.mpr ⟨lw_p50, List.forall_mem_cons.mpr ⟨lw_p51, List.forall_mem_cons.mpr ⟨lw_p52, List.forall_mem_cons.mpr ⟨lw_p53, List.forall_mem_cons.mpr ⟨lw_p54, List.forall_mem_cons.mpr ⟨lw_p55, List.forall_mem_cons.mpr ⟨lw_p56, List.forall_mem_cons.mpr ⟨lw_p57, List.forall_mem_cons.mpr ⟨lw_p58, List.forall_mem_cons.mpr ⟨lw_p59, List.forall_mem_cons.mpr ⟨lw_p60, List.forall_mem_cons.mpr ⟨lw_p61, List.forall_mem_cons.mpr ⟨lw_p62, List.forall_mem_cons.mpr ⟨lw_p63, fun _ h => absurd h List.not_mem_nil⟩⟩⟩⟩⟩⟩⟩⟩⟩⟩⟩⟩⟩⟩⟩⟩
theorem lw_p64 : lw_okq (⟨"PrintHouseModel", "tell", "(IZ)V"⟩, 28) := ⟨⟨by decide +kernel, by decide +kernel⟩, List.mem_of_getElem? (i := 793) (by decide +kernel), List.mem_of_getElem? (i := 1022) (by decide +kernel), List.mem_of_getElem? (i := 1023) (by decide +kernel)⟩
theorem lw_p65 : lw_okq (⟨"PrintHouseModel", "integer", "(IJI)V"⟩, 28) := ⟨⟨by decide +kernel, by decide +kernel⟩, List.mem_of_getElem? (i := 793) (by decide +kernel), List.mem_of_getElem? (i := 1026) (by decide +kernel), List.mem_of_getElem? (i := 1027) (by decide +kernel)⟩
theorem lw_p66 : lw_okq (⟨"PrintHouseModel", "chosen", "()I"⟩, 28) := ⟨⟨by decide +kernel, by decide +kernel⟩, List.mem_of_getElem? (i := 793) (by decide +kernel), List.mem_of_getElem? (i := 1041) (by decide +kernel), List.mem_of_getElem? (i := 1042) (by decide +kernel)⟩
theorem lw_p67 : lw_okq (⟨"PrintHouseModel", "sendSheet", "(I)V"⟩, 28) := ⟨⟨by decide +kernel, by decide +kernel⟩, List.mem_of_getElem? (i := 793) (by decide +kernel), List.mem_of_getElem? (i := 1045) (by decide +kernel), List.mem_of_getElem? (i := 1046) (by decide +kernel)⟩
theorem lw_p68 : lw_okq (⟨"PrintHouseModel", "sheetsOf", "(I)I"⟩, 28) := ⟨⟨by decide +kernel, by decide +kernel⟩, List.mem_of_getElem? (i := 793) (by decide +kernel), List.mem_of_getElem? (i := 1049) (by decide +kernel), List.mem_of_getElem? (i := 1050) (by decide +kernel)⟩
theorem lw_p69 : lw_okq (⟨"PrintHouseModel", "sides", "(I)I"⟩, 28) := ⟨⟨by decide +kernel, by decide +kernel⟩, List.mem_of_getElem? (i := 793) (by decide +kernel), List.mem_of_getElem? (i := 1053) (by decide +kernel), List.mem_of_getElem? (i := 1054) (by decide +kernel)⟩
theorem lw_p70 : lw_okq (⟨"PrintHouseModel", "send", "(I)V"⟩, 28) := ⟨⟨by decide +kernel, by decide +kernel⟩, List.mem_of_getElem? (i := 793) (by decide +kernel), List.mem_of_getElem? (i := 1057) (by decide +kernel), List.mem_of_getElem? (i := 1058) (by decide +kernel)⟩
theorem lw_p71 : lw_okq (⟨"PrintHouseModel", "face", "(IIZII)V"⟩, 28) := ⟨⟨by decide +kernel, by decide +kernel⟩, List.mem_of_getElem? (i := 793) (by decide +kernel), List.mem_of_getElem? (i := 1061) (by decide +kernel), List.mem_of_getElem? (i := 1062) (by decide +kernel)⟩
theorem lw_p72 : lw_okq (⟨"PrintHouseModel", "booklet", "(IIZII)I"⟩, 28) := ⟨⟨by decide +kernel, by decide +kernel⟩, List.mem_of_getElem? (i := 793) (by decide +kernel), List.mem_of_getElem? (i := 1065) (by decide +kernel), List.mem_of_getElem? (i := 1066) (by decide +kernel)⟩
theorem lw_p73 : lw_okq (⟨"PrintHouseModel", "pair", "(IIIII)I"⟩, 28) := ⟨⟨by decide +kernel, by decide +kernel⟩, List.mem_of_getElem? (i := 793) (by decide +kernel), List.mem_of_getElem? (i := 1069) (by decide +kernel), List.mem_of_getElem? (i := 1070) (by decide +kernel)⟩
theorem lw_p74 : lw_okq (⟨"PrintHouseModel", "pixelOf", "(IIII)I"⟩, 28) := ⟨⟨by decide +kernel, by decide +kernel⟩, List.mem_of_getElem? (i := 793) (by decide +kernel), List.mem_of_getElem? (i := 1073) (by decide +kernel), List.mem_of_getElem? (i := 1074) (by decide +kernel)⟩
theorem lw_p75 : lw_okq (⟨"PrintHouseModel", "plain", "(IIII)I"⟩, 28) := ⟨⟨by decide +kernel, by decide +kernel⟩, List.mem_of_getElem? (i := 793) (by decide +kernel), List.mem_of_getElem? (i := 1077) (by decide +kernel), List.mem_of_getElem? (i := 1078) (by decide +kernel)⟩
theorem lw_p76 : lw_okq (⟨"PrintHouseModel", "alike", "(III)Z"⟩, 28) := ⟨⟨by decide +kernel, by decide +kernel⟩, List.mem_of_getElem? (i := 793) (by decide +kernel), List.mem_of_getElem? (i := 1081) (by decide +kernel), List.mem_of_getElem? (i := 1082) (by decide +kernel)⟩
theorem lw_p77 : lw_okq (⟨"PrintHouseModel", "row", "(II)V"⟩, 28) := ⟨⟨by decide +kernel, by decide +kernel⟩, List.mem_of_getElem? (i := 793) (by decide +kernel), List.mem_of_getElem? (i := 1085) (by decide +kernel), List.mem_of_getElem? (i := 1086) (by decide +kernel)⟩
def lw_privs_5 : List (MethodName × Nat) := [(⟨"PrintHouseModel", "tell", "(IZ)V"⟩, 28), (⟨"PrintHouseModel", "integer", "(IJI)V"⟩, 28), (⟨"PrintHouseModel", "chosen", "()I"⟩, 28), (⟨"PrintHouseModel", "sendSheet", "(I)V"⟩, 28), (⟨"PrintHouseModel", "sheetsOf", "(I)I"⟩, 28), (⟨"PrintHouseModel", "sides", "(I)I"⟩, 28), (⟨"PrintHouseModel", "send", "(I)V"⟩, 28), (⟨"PrintHouseModel", "face", "(IIZII)V"⟩, 28), (⟨"PrintHouseModel", "booklet", "(IIZII)I"⟩, 28), (⟨"PrintHouseModel", "pair", "(IIIII)I"⟩, 28), (⟨"PrintHouseModel", "pixelOf", "(IIII)I"⟩, 28), (⟨"PrintHouseModel", "plain", "(IIII)I"⟩, 28), (⟨"PrintHouseModel", "alike", "(III)Z"⟩, 28), (⟨"PrintHouseModel", "row", "(II)V"⟩, 28)]
theorem lw_r5 : ∀ q ∈ lw_privs_5, lw_okq q := List.forall_mem_cons.mpr ⟨lw_p64, List.forall_mem_cons.mpr ⟨lw_p65, List.forall_mem_cons.mpr ⟨lw_p66, List.forall_mem_cons.mpr ⟨lw_p67, List.forall_mem_cons.mpr ⟨lw_p68, List.forall_mem_cons.mpr ⟨lw_p69, List.forall_mem_cons.mpr ⟨lw_p70, List.forall_mem_cons.mpr ⟨lw_p71, List.forall_mem_cons.mpr ⟨lw_p72, List.forall_mem_cons.mpr ⟨lw_p73, List.forall_mem_cons.mpr ⟨lw_p74, List.forall_mem_cons.mpr ⟨lw_p75, List.forall_mem_cons.mpr ⟨lw_p76, List.forall_mem_cons.mpr ⟨lw_p77, fun _ h => absurd h List.not_mem_nil⟩⟩⟩⟩⟩⟩⟩⟩⟩⟩⟩⟩⟩⟩
def lw_privs : List (MethodName × Nat) := lw_privs_1 ++ (lw_privs_2 ++ (lw_privs_3 ++ (lw_privs_4 ++ (lw_privs_5))))
def lw_tbl : List Cond := k2_sels lw_privs ++ tables_1
theorem lw_privs_ok : ∀ q ∈ lw_privs, lw_okq q := by
  show ∀ q ∈ lw_privs_1 ++ (lw_privs_2 ++ (lw_privs_3 ++ (lw_privs_4 ++ (lw_privs_5)))), lw_okq q
  exact List.forall_mem_append.mpr ⟨lw_r1, List.forall_mem_append.mpr ⟨lw_r2, List.forall_mem_append.mpr ⟨lw_r3, List.forall_mem_append.mpr ⟨lw_r4, lw_r5⟩⟩⟩⟩
end
section
/-! An abstract machine for the instructions that class and reference use: names instead of addresses, a world of numbers; one walk of the JVM for all methods (z_main). -/
/-- a name: its group, its number there -/
abbrev z_N : Type := Nat × Nat
/-- ints, longs, references' numbers: by group, number, place -/
abbrev z_W : Type := (Nat → Nat → Nat → Int32) × (Nat → Nat → Nat → Int64) × (Nat → Nat → Nat → Nat)
/-- a side: the sort of a group (1 ints, 2 longs, 3 references, c + 4 objects of class c), lengths, fixed references, the group of what references' arrays hold, all names -/
abbrev z_S : Type := (Nat → Nat) × (Nat → Nat → Nat) × (Nat → Nat → Nat → z_N) × Nat × List z_N
/-- an int, a long, a reference or null -/
abbrev z_V : Type := Int32 ⊕ Int64 ⊕ Option z_N
abbrev z_L : Type := List (Option z_V)
abbrev z_X : Type := Nat × Nat × Nat × Nat × Int32 × Int64
abbrev z_I : Type := Jvm.ClassFile.Instr × Nat × z_X
abbrev z_F : Type := Nat × z_L × List z_V × z_W
abbrev z_O : Type := Option (z_F ⊕ (Option z_V) ⊕ (Nat × List z_V × List z_V))
/-- name, bytes, locals, answer, how many arguments (with the receiver), the receiver's sort (0: static), frames, words of locals -/
abbrev z_M : Type := MethodName × ByteArray × Nat × Option FieldType × Nat × Nat × Nat × Nat
def z_si (w : z_W) (g i k : Nat) (x : Int32) : z_W := (fun a b c => if a = g ∧ b = i ∧ c = k then x else w.1 a b c, w.2.1, w.2.2)
def z_sl (w : z_W) (g i k : Nat) (x : Int64) : z_W := (w.1, fun a b c => if a = g ∧ b = i ∧ c = k then x else w.2.1 a b c, w.2.2)
def z_sr (w : z_W) (g i k : Nat) (x : Nat) : z_W := (w.1, w.2.1, fun a b c => if a = g ∧ b = i ∧ c = k then x else w.2.2 a b c)
def z_cp (w : z_W) (g i sp g' i' dp n : Nat) : z_W := (fun a b c => if a = g' ∧ b = i' then va_cpy (w.1 g i) (w.1 g' i') sp dp n c else w.1 a b c, w.2.1, w.2.2)
def z_ct (v : z_V) : Nat := match v with
  | .inr (.inl _) => 2
  | _ => 1
def z_in (i : Int32) (n : Nat) : Bool := decide (0 ≤ i.toInt) && decide (i.toInt < (n : Int))
def z_un (L : z_L) (i : Nat) : z_L := match i with
  | 0 => L
  | j + 1 => match L[j]? with
    | some (some (.inr (.inl _))) => L.set j none
    | _ => L
def z_st1 (L : z_L) (i : Nat) (v : z_V) : z_L := (z_un L i).set i (some v)
def z_st2 (L : z_L) (i : Nat) (v : z_V) : z_L := ((z_un L i).set i (some v)).set (i + 1) none
def z_cat (st : List z_V) : Nat := (st.map z_ct).sum
def z_ld (L : z_L) (i : Nat) : Option z_V := match L[i]? with
  | some (some v) => some v
  | _ => none
def z_args : List z_V → z_L
  | [] => []
  | v :: r => some v :: (if z_ct v = 2 then none :: z_args r else z_args r)
def z_entry (n : Nat) (as : List z_V) : z_L := z_args as ++ List.replicate (n - (z_args as).length) none
def z_tgt (pc : Nat) (off : Int) : Nat := ((pc : Int) + off).toNat
def z_call (S : z_S) (k n nL mj : Nat) (st : List z_V) : z_O :=
  if n ≤ st.length ∧ z_cat (st.drop n) ≤ 8 ∧ (z_args (st.take n).reverse).length ≤ nL then
    match k with
    | 0 => some (.inr (.inr (mj, (st.take n).reverse, st.drop n)))
    | k + 1 => match (st.take n).reverse with
      | (.inr (.inr (some (g, _)))) :: _ => if S.1 g = k + 1 then some (.inr (.inr (mj, (st.take n).reverse, st.drop n))) else none
      | _ => none
  else none
def z_step (S : z_S) (M : Nat → z_M) (I : z_I) (pc : Nat) (L : z_L) (st : List z_V) (w : z_W) : z_O :=
  match I with
  | (ins, _, a, b, t, _, c, d) => match ins with
    | .iconst _ => some (.inl (pc + 1, L, (.inl c) :: st, w))
    | .bipush _ => some (.inl (pc + 2, L, (.inl c) :: st, w))
    | .sipush _ => some (.inl (pc + 3, L, (.inl c) :: st, w))
    | .lconst _ => some (.inl (pc + 1, L, (.inr (.inl d)) :: st, w))
    | .ldc2_w _ => some (.inl (pc + 3, L, (.inr (.inl d)) :: st, w))
    | .aconst_null => some (.inl (pc + 1, L, (.inr (.inr none)) :: st, w))
    | .iload_n k => match z_ld L k with
      | some ((.inl x)) => some (.inl (pc + 1, L, (.inl x) :: st, w))
      | _ => none
    | .iload k => match z_ld L k with
      | some ((.inl x)) => some (.inl (pc + 2, L, (.inl x) :: st, w))
      | _ => none
    | .lload_n k => match z_ld L k with
      | some ((.inr (.inl x))) => some (.inl (pc + 1, L, (.inr (.inl x)) :: st, w))
      | _ => none
    | .lload k => match z_ld L k with
      | some ((.inr (.inl x))) => some (.inl (pc + 2, L, (.inr (.inl x)) :: st, w))
      | _ => none
    | .aload_n k => match z_ld L k with
      | some (.inr (.inr o)) => some (.inl (pc + 1, L, (.inr (.inr o)) :: st, w))
      | _ => none
    | .aload k => match z_ld L k with
      | some (.inr (.inr o)) => some (.inl (pc + 2, L, (.inr (.inr o)) :: st, w))
      | _ => none
    | .istore_n k => match st with
      | (.inl x) :: r => if (k : Nat) < L.length then some (.inl (pc + 1, z_st1 L k ((.inl x)), r, w)) else none
      | _ => none
    | .istore k => match st with
      | (.inl x) :: r => if k < L.length then some (.inl (pc + 2, z_st1 L k ((.inl x)), r, w)) else none
      | _ => none
    | .lstore_n k => match st with
      | (.inr (.inl x)) :: r => if (k : Nat) + 1 < L.length then some (.inl (pc + 1, z_st2 L k ((.inr (.inl x))), r, w)) else none
      | _ => none
    | .lstore k => match st with
      | (.inr (.inl x)) :: r => if k + 1 < L.length then some (.inl (pc + 2, z_st2 L k ((.inr (.inl x))), r, w)) else none
      | _ => none
    | .astore_n k => match st with
      | (.inr (.inr x)) :: r => if (k : Nat) < L.length then some (.inl (pc + 1, z_st1 L k (.inr (.inr x)), r, w)) else none
      | _ => none
    | .astore k => match st with
      | (.inr (.inr x)) :: r => if k < L.length then some (.inl (pc + 2, z_st1 L k (.inr (.inr x)), r, w)) else none
      | _ => none
    | .iinc k _ => match z_ld L k with
      | some ((.inl x)) => if k < L.length then some (.inl (pc + 3, z_st1 L k ((.inl (x + c))), st, w)) else none
      | _ => none
    | .iadd => match st with
      | (.inl y) :: (.inl x) :: r => some (.inl (pc + 1, L, (.inl (x + y)) :: r, w))
      | _ => none
    | .isub => match st with
      | (.inl y) :: (.inl x) :: r => some (.inl (pc + 1, L, (.inl (x - y)) :: r, w))
      | _ => none
    | .imul => match st with
      | (.inl y) :: (.inl x) :: r => some (.inl (pc + 1, L, (.inl (x * y)) :: r, w))
      | _ => none
    | .iand => match st with
      | (.inl y) :: (.inl x) :: r => some (.inl (pc + 1, L, (.inl (x &&& y)) :: r, w))
      | _ => none
    | .ior => match st with
      | (.inl y) :: (.inl x) :: r => some (.inl (pc + 1, L, (.inl (x ||| y)) :: r, w))
      | _ => none
    | .idiv => match st with
      | (.inl y) :: (.inl x) :: r => if y = 0 then none else some (.inl (pc + 1, L, (.inl (x / y)) :: r, w))
      | _ => none
    | .irem => match st with
      | (.inl y) :: (.inl x) :: r => if y = 0 then none else some (.inl (pc + 1, L, (.inl (x - x / y * y)) :: r, w))
      | _ => none
    | .ishl => match st with
      | (.inl y) :: (.inl x) :: r => some (.inl (pc + 1, L, (.inl (x <<< (y &&& 31))) :: r, w))
      | _ => none
    | .ishr => match st with
      | (.inl y) :: (.inl x) :: r => some (.inl (pc + 1, L, (.inl (x >>> (y &&& 31))) :: r, w))
      | _ => none
    | .land => match st with
      | (.inr (.inl y)) :: (.inr (.inl x)) :: r => some (.inl (pc + 1, L, (.inr (.inl (x &&& y))) :: r, w))
      | _ => none
    | .lor => match st with
      | (.inr (.inl y)) :: (.inr (.inl x)) :: r => some (.inl (pc + 1, L, (.inr (.inl (x ||| y))) :: r, w))
      | _ => none
    | .lshl => match st with
      | (.inl y) :: (.inr (.inl x)) :: r => some (.inl (pc + 1, L, (.inr (.inl (x <<< (y.toInt64 &&& 63)))) :: r, w))
      | _ => none
    | .lshr => match st with
      | (.inl y) :: (.inr (.inl x)) :: r => some (.inl (pc + 1, L, (.inr (.inl (x >>> (y.toInt64 &&& 63)))) :: r, w))
      | _ => none
    | .lcmp => match st with
      | (.inr (.inl y)) :: (.inr (.inl x)) :: r => some (.inl (pc + 1, L, (.inl (lg_cmp x y)) :: r, w))
      | _ => none
    | .i2l => match st with
      | (.inl x) :: r => some (.inl (pc + 1, L, (.inr (.inl x.toInt64)) :: r, w))
      | _ => none
    | .l2i => match st with
      | (.inr (.inl x)) :: r => some (.inl (pc + 1, L, (.inl x.toInt32) :: r, w))
      | _ => none
    | .dup => match st with
      | (.inl x) :: r => some (.inl (pc + 1, L, (.inl x) :: (.inl x) :: r, w))
      | (.inr (.inr x)) :: r => some (.inl (pc + 1, L, (.inr (.inr x)) :: (.inr (.inr x)) :: r, w))
      | _ => none
    | .dup2 => match st with
      | (.inl x) :: (.inr (.inr y)) :: r => some (.inl (pc + 1, L, (.inl x) :: (.inr (.inr y)) :: (.inl x) :: (.inr (.inr y)) :: r, w))
      | _ => none
    | .ifCond q _ => match st with
      | (.inl x) :: r => match q with
        | .eq => some (.inl (if x = 0 then a else pc + 3, L, r, w))
        | .ne => some (.inl (if x = 0 then pc + 3 else a, L, r, w))
        | .lt => some (.inl (if x < 0 then a else pc + 3, L, r, w))
        | .ge => some (.inl (if 0 ≤ x then a else pc + 3, L, r, w))
        | .gt => some (.inl (if 0 < x then a else pc + 3, L, r, w))
        | .le => some (.inl (if x ≤ 0 then a else pc + 3, L, r, w))
      | _ => none
    | .if_icmp q _ => match st with
      | (.inl y) :: (.inl x) :: r => match q with
        | .eq => some (.inl (if x = y then a else pc + 3, L, r, w))
        | .ne => some (.inl (if x = y then pc + 3 else a, L, r, w))
        | .lt => some (.inl (if x < y then a else pc + 3, L, r, w))
        | .ge => some (.inl (if y ≤ x then a else pc + 3, L, r, w))
        | .gt => some (.inl (if y < x then a else pc + 3, L, r, w))
        | .le => some (.inl (if x ≤ y then a else pc + 3, L, r, w))
      | _ => none
    | .goto _ => some (.inl (a, L, st, w))
    | .ifnull _ => match st with
      | (.inr (.inr none)) :: r => some (.inl (a, L, r, w))
      | (.inr (.inr (some _))) :: r => some (.inl (pc + 3, L, r, w))
      | _ => none
    | .ifnonnull _ => match st with
      | (.inr (.inr none)) :: r => some (.inl (pc + 3, L, r, w))
      | (.inr (.inr (some _))) :: r => some (.inl (a, L, r, w))
      | _ => none
    | .tableswitch dflt lo hi offs => match st with
      | (.inl x) :: r => if x.toInt < lo ∨ hi < x.toInt then some (.inl (z_tgt pc dflt, L, r, w)) else match offs[(x.toInt - lo).toNat]? with
        | some off => some (.inl (z_tgt pc off, L, r, w))
        | none => none
      | _ => none
    | .lookupswitch dflt ps => match st with
      | (.inl x) :: r => some (.inl (z_tgt pc (Op.lookupswitch.offset ps.toList dflt x.toInt), L, r, w))
      | _ => none
    | .getfield _ => match st with
      | (.inr (.inr (some (g, i)))) :: r => if S.1 g = a + 4 then match t with
          | 2 => some (.inl (pc + 3, L, (.inr (.inr (some (S.2.2.1 g i b)))) :: r, w))
          | _ => some (.inl (pc + 3, L, (.inl (w.1 g i b)) :: r, w))
        else none
      | _ => none
    | .putfield _ => match st with
      | (.inl x) :: (.inr (.inr (some (g, i)))) :: r => if S.1 g = a + 4 ∧ (t = 0 ∨ (x = 0 ∨ x = 1)) then some (.inl (pc + 3, L, r, z_si w g i b x)) else none
      | _ => none
    | .iaload => match st with
      | (.inl i) :: (.inr (.inr (some (g, o)))) :: r => if S.1 g = 1 ∧ z_in i (S.2.1 g o) = true then some (.inl (pc + 1, L, (.inl (w.1 g o i.toNatClampNeg)) :: r, w)) else none
      | _ => none
    | .laload => match st with
      | (.inl i) :: (.inr (.inr (some (g, o)))) :: r => if S.1 g = 2 ∧ z_in i (S.2.1 g o) = true then some (.inl (pc + 1, L, (.inr (.inl (w.2.1 g o i.toNatClampNeg))) :: r, w)) else none
      | _ => none
    | .aaload => match st with
      | (.inl i) :: (.inr (.inr (some (g, o)))) :: r => if S.1 g = 3 ∧ z_in i (S.2.1 g o) = true then some (.inl (pc + 1, L, (.inr (.inr (some (S.2.2.2.1, w.2.2 g o i.toNatClampNeg)))) :: r, w)) else none
      | _ => none
    | .iastore => match st with
      | (.inl x) :: (.inl i) :: (.inr (.inr (some (g, o)))) :: r => if S.1 g = 1 ∧ z_in i (S.2.1 g o) = true then some (.inl (pc + 1, L, r, z_si w g o i.toNatClampNeg x)) else none
      | _ => none
    | .lastore => match st with
      | (.inr (.inl x)) :: (.inl i) :: (.inr (.inr (some (g, o)))) :: r => if S.1 g = 2 ∧ z_in i (S.2.1 g o) = true then some (.inl (pc + 1, L, r, z_sl w g o i.toNatClampNeg x)) else none
      | _ => none
    | .aastore => match st with
      | (.inr (.inr (some (g', v)))) :: (.inl i) :: (.inr (.inr (some (g, o)))) :: r => if S.1 g = 3 ∧ z_in i (S.2.1 g o) = true ∧ g' = S.2.2.2.1 ∧ S.1 g' = a + 4 then some (.inl (pc + 1, L, r, z_sr w g o i.toNatClampNeg v)) else none
      | _ => none
    | .arraylength => match st with
      | (.inr (.inr (some (g, o)))) :: r => if S.1 g = 1 then some (.inl (pc + 1, L, (.inl (Int32.ofNat (S.2.1 g o))) :: r, w)) else none
      | _ => none
    | .invokevirtual _ => z_call S (M a).2.2.2.2.2.1 (M a).2.2.2.2.1 (M a).2.2.1 a st
    | .invokestatic _ => match t with
      | 0 => z_call S 0 (M a).2.2.2.2.1 (M a).2.2.1 a st
      | _ => match st with
        | (.inl n) :: (.inl dp) :: (.inr (.inr (some (g', o')))) :: (.inl sp) :: (.inr (.inr (some (g, o)))) :: r =>
          if S.1 g = 1 ∧ S.1 g' = 1 ∧ 0 ≤ sp.toInt ∧ 0 ≤ dp.toInt ∧ 0 ≤ n.toInt ∧ sp.toInt + n.toInt ≤ (S.2.1 g o : Int) ∧ dp.toInt + n.toInt ≤ (S.2.1 g' o' : Int) ∧ z_cat r ≤ 8
          then some (.inl (pc + 3, L, r, z_cp w g o sp.toNatClampNeg g' o' dp.toNatClampNeg n.toNatClampNeg)) else none
        | _ => none
    | .ireturn => match st with
      | [(.inl x)] => if t = 0 ∨ (x = 0 ∨ x = 1) then some (.inr (.inl (some ((.inl x))))) else none
      | _ => none
    | .lreturn => match st with
      | [(.inr (.inl x))] => some (.inr (.inl (some ((.inr (.inl x))))))
      | _ => none
    | .areturn => match st with
      | [.inr (.inr x)] => some (.inr (.inl (some (.inr (.inr x)))))
      | _ => none
    | .return_ => match st with
      | [] => some (.inr (.inl none))
      | _ => none
    | _ => none
def z_run (S : z_S) (M : Nat → z_M) (C : Nat → Nat → Option z_I) : Nat → Nat → z_F → Option (z_W × Option z_V)
  | 0, _, _ => none
  | n + 1, mi, (pc, L, st, w) => match C mi pc with
    | none => none
    | some I => match z_step S M I pc L st w with
      | none => none
      | some (.inl f) => z_run S M C n mi f
      | some (.inr (.inl r)) => some (w, r)
      | some (.inr (.inr (mj, as, rest))) => match z_run S M C n mj (0, z_entry (M mj).2.2.1 as, [], w) with
        | none => none
        | some (w', r) => z_run S M C n mi (pc + 3, L, r.toList ++ rest, w')
end
section
/-! how the abstract machine's values stand for the JVM's -/
def z_v (ad : z_N → Nat) : z_V → Value
  | .inl x => .int x
  | .inr (.inl x) => .long x
  | .inr (.inr none) => .null
  | .inr (.inr (some o)) => .ref (ad o)
theorem z_v_cat (ad : z_N → Nat) (v : z_V) : (z_v ad v).category = z_ct v := by
  rcases v with x | x | _ | o <;> rfl
theorem z_cat_map (ad : z_N → Nat) (st : List z_V) : ((st.map (z_v ad)).map fun v => v.category).sum = z_cat st := by
  unfold z_cat
  rw [List.map_map]
  congr 1
  exact List.map_congr_left (fun v _ => z_v_cat ad v)
def z_hl (ad : z_N → Nat) (ls : Array Slot) (nL : Nat) (L : z_L) : Prop :=
  ls.size = nL ∧ lv_wf ls ∧ L.length = nL ∧ ∀ (i : Nat) (v : z_V), L[i]? = some (some v) → ls[i]? = some (.val (z_v ad v))
def z_as (ad : z_N → Nat) (L : z_L) : List (Nat × Value) := (List.range L.length).filterMap (fun j => match L[j]? with
  | some (some u) => some (j, z_v ad u)
  | _ => none)
theorem z_as_mem {ad : z_N → Nat} {L : z_L} {j : Nat} {v : z_V} (h : L[j]? = some (some v)) : (j, z_v ad v) ∈ z_as ad L := by
  refine List.mem_filterMap.mpr ⟨j, List.mem_range.mpr (List.getElem?_eq_some_iff.mp h).1, ?_⟩
  rw [h]
theorem z_as_of {ad : z_N → Nat} {L : z_L} {q : Nat × Value} (h : q ∈ z_as ad L) : ∃ v, L[q.1]? = some (some v) ∧ q.2 = z_v ad v := by
  obtain ⟨j, -, hj⟩ := List.mem_filterMap.mp h
  split at hj
  · rename_i u hu
    cases hj
    exact ⟨u, hu, rfl⟩
  · cases hj
theorem z_hl.has {ad : z_N → Nat} {ls : Array Slot} {nL : Nat} {L : z_L} (h : z_hl ad ls nL L) : lv_has ls nL (z_as ad L) := by
  refine ⟨h.1, h.2.1, fun q hq => ?_⟩
  obtain ⟨v, h1, h2⟩ := z_as_of hq
  rw [h2]
  exact h.2.2.2 _ _ h1
theorem z_un_len (L : z_L) (i : Nat) : (z_un L i).length = L.length := by
  unfold z_un
  cases i with
  | zero => rfl
  | succ j =>
    dsimp only
    split <;> simp
theorem z_un_at {L : z_L} {i j : Nat} {u : z_V} (h : (z_un L i)[j]? = some (some u)) : L[j]? = some (some u) ∧ ¬ (j + 1 = i ∧ z_ct u = 2) := by
  cases i with
  | zero => exact ⟨h, fun q => by omega⟩
  | succ k =>
    unfold z_un at h
    dsimp only at h
    split at h
    · by_cases hjk : j = k
      · subst hjk
        rename_i hx
        rw [List.getElem?_set_self (List.getElem?_eq_some_iff.mp hx).1] at h
        cases h
      · rw [List.getElem?_set_ne (Ne.symm hjk)] at h
        exact ⟨h, fun q => hjk (by omega)⟩
    · refine ⟨h, fun q => ?_⟩
      have hjk : j = k := by omega
      subst hjk
      rename_i h1
      rcases u with x | x | x
      · simp [z_ct] at q
      · exact h1 x h
      · simp [z_ct] at q
theorem z_hl.st1 {ad : z_N → Nat} {ls ls' : Array Slot} {nL i : Nat} {L : z_L} {v : z_V} (h : z_hl ad ls nL L)
    (h' : lv_has ls' nL ((i, z_v ad v) :: (z_as ad L).filter (fun q => !(q.1 == i) && !(q.1 + 1 == i && q.2.category == 2)))) : z_hl ad ls' nL (z_st1 L i v) := by
  refine ⟨h'.1, h'.2.1, by unfold z_st1; rw [List.length_set, z_un_len]; exact h.2.2.1, fun j u hj => ?_⟩
  unfold z_st1 at hj
  by_cases hji : j = i
  · subst hji
    have hl : j < (z_un L j).length := by
      have := (List.getElem?_eq_some_iff.mp hj).1
      rwa [List.length_set] at this
    rw [List.getElem?_set_self hl] at hj
    cases hj
    exact h'.2.2 _ List.mem_cons_self
  · rw [List.getElem?_set_ne (Ne.symm hji)] at hj
    obtain ⟨h1, h2⟩ := z_un_at hj
    refine h'.2.2 (j, z_v ad u) (List.mem_cons_of_mem _ (List.mem_filter.mpr ⟨z_as_mem h1, ?_⟩))
    have h3 : ¬ (j + 1 = i ∧ (z_v ad u).category = 2) := by rw [z_v_cat]; exact h2
    simp only [Bool.and_eq_true, Bool.not_eq_true', beq_eq_false_iff_ne, ne_eq, Bool.and_eq_false_iff]
    refine ⟨hji, ?_⟩
    by_cases h4 : j + 1 = i
    · exact Or.inr (fun q => h3 ⟨h4, q⟩)
    · exact Or.inl h4
theorem z_hl.st2 {ad : z_N → Nat} {ls ls' : Array Slot} {nL i : Nat} {L : z_L} {v : z_V} (h : z_hl ad ls nL L)
    (h' : lv_has ls' nL ((i, z_v ad v) :: (z_as ad L).filter (fun q => !(q.1 == i) && (!(q.1 == i + 1) && !(q.1 + 1 == i && q.2.category == 2))))) : z_hl ad ls' nL (z_st2 L i v) := by
  refine ⟨h'.1, h'.2.1, by unfold z_st2; rw [List.length_set, List.length_set, z_un_len]; exact h.2.2.1, fun j u hj => ?_⟩
  unfold z_st2 at hj
  by_cases hj1 : j = i + 1
  · subst hj1
    have hl : i + 1 < ((z_un L i).set i (some v)).length := by
      have := (List.getElem?_eq_some_iff.mp hj).1
      rwa [List.length_set] at this
    rw [List.getElem?_set_self hl] at hj
    cases hj
  · rw [List.getElem?_set_ne (Ne.symm hj1)] at hj
    by_cases hji : j = i
    · subst hji
      have hl : j < (z_un L j).length := by
        have := (List.getElem?_eq_some_iff.mp hj).1
        rwa [List.length_set] at this
      rw [List.getElem?_set_self hl] at hj
      cases hj
      exact h'.2.2 _ List.mem_cons_self
    · rw [List.getElem?_set_ne (Ne.symm hji)] at hj
      obtain ⟨h1, h2⟩ := z_un_at hj
      refine h'.2.2 (j, z_v ad u) (List.mem_cons_of_mem _ (List.mem_filter.mpr ⟨z_as_mem h1, ?_⟩))
      have h3 : ¬ (j + 1 = i ∧ (z_v ad u).category = 2) := by rw [z_v_cat]; exact h2
      simp only [Bool.and_eq_true, Bool.not_eq_true', beq_eq_false_iff_ne, ne_eq, Bool.and_eq_false_iff]
      refine ⟨hji, hj1, ?_⟩
      by_cases h4 : j + 1 = i
      · exact Or.inr (fun q => h3 ⟨h4, q⟩)
      · exact Or.inl h4
theorem z_ld_at {ad : z_N → Nat} {ls : Array Slot} {nL i : Nat} {L : z_L} {v : z_V} (h : z_hl ad ls nL L) (hv : z_ld L i = some v) : ls[i]? = some (.val (z_v ad v)) := by
  unfold z_ld at hv
  split at hv
  · rename_i u hu
    cases hv
    exact h.2.2.2 _ _ hu
  · cases hv
theorem z_ld_as {ad : z_N → Nat} {i : Nat} {L : z_L} {v : z_V} (hv : z_ld L i = some v) : ∃ k : Nat, (z_as ad L)[k]? = some (i, z_v ad v) := by
  unfold z_ld at hv
  split at hv
  · rename_i u hu
    cases hv
    exact List.getElem?_of_mem (z_as_mem hu)
  · cases hv
/-! the arguments at a method's entry -/
theorem z_args_as (ad : z_N → Nat) : ∀ (as : List z_V) (k : Nat) (pre : z_L), pre.length = k → ∀ (j : Nat) (u : z_V), k ≤ j → (pre ++ z_args as)[j]? = some (some u) → (j, z_v ad u) ∈ lv_args k (as.map (z_v ad)) := by
  intro as
  induction as with
  | nil =>
    intro k pre hk j u hj h
    simp only [z_args, List.append_nil] at h
    have := (List.getElem?_eq_some_iff.mp h).1
    omega
  | cons v r ih =>
    intro k pre hk j u hj h
    simp only [List.map_cons, lv_args]
    rw [z_v_cat]
    by_cases hjk : j = k
    · subst hjk
      rw [List.getElem?_append_right (by omega)] at h
      rw [hk, Nat.sub_self] at h
      simp only [z_args, List.getElem?_cons_zero] at h
      cases h
      exact List.mem_cons_self
    · refine List.mem_cons_of_mem _ ?_
      by_cases hc : z_ct v = 2
      · rw [if_pos hc]
        simp only [z_args, if_pos hc] at h
        by_cases hj2 : j = k + 1
        · subst hj2
          rw [List.getElem?_append_right (by omega), hk] at h
          have : k + 1 - k = 1 := by omega
          rw [this] at h
          simp at h
        · refine ih (k + 2) (pre ++ [some v, none]) (by simp [hk]) j u (by omega) ?_
          rw [List.append_assoc]
          exact h
      · rw [if_neg hc]
        simp only [z_args, if_neg hc] at h
        refine ih (k + 1) (pre ++ [some v]) (by simp [hk]) j u (by omega) ?_
        rw [List.append_assoc]
        exact h
theorem z_args_len (ad : z_N → Nat) (as : List z_V) : (lg_sl (as.map (z_v ad))).length = (z_args as).length := by
  induction as with
  | nil => rfl
  | cons v r ih =>
    simp only [lg_sl, List.map_cons, List.flatMap_cons, List.length_append, z_args, List.length_cons] at ih ⊢
    rw [ih, z_v_cat]
    by_cases hc : z_ct v = 2
    · simp [hc]; omega
    · simp [hc]; omega
theorem z_entry_hl (ad : z_N → Nat) (as : List z_V) {n : Nat} (h : (z_args as).length ≤ n) : z_hl ad ((lg_sl (as.map (z_v ad)) ++ List.replicate (n - (lg_sl (as.map (z_v ad))).length) Slot.unset).toArray) n (z_entry n as) := by
  obtain ⟨h1, h2, h3⟩ := lv_entry (as.map (z_v ad)) (n := n) (by rw [z_args_len]; exact h)
  refine ⟨h1, h2, by unfold z_entry; simp; omega, fun i v hv => ?_⟩
  have hi : i < (z_args as).length := by
    refine Nat.lt_of_not_le (fun q => ?_)
    unfold z_entry at hv
    rw [List.getElem?_append_right q] at hv
    have h4 := List.mem_of_getElem? hv
    have h5 := List.eq_of_mem_replicate h4
    cases h5
  unfold z_entry at hv
  rw [List.getElem?_append_left hi] at hv
  exact h3 (i, z_v ad v) (z_args_as ad as 0 [] rfl i v (Nat.zero_le _) (by simpa using hv))
/-! the cells of a world -/
def z_fv (S : z_S) (ad : z_N → Nat) (w : z_W) (ks : List Nat) (o : z_N) (j : Nat) : Value := if ks.getD j 0 = 2 then .ref (ad (S.2.2.1 o.1 o.2 j)) else .int (w.1 o.1 o.2 j)
def z_cell (S : z_S) (fk : Nat → List Nat) (ad : z_N → Nat) (cA : Nat → ClassId) (w : z_W) (o : z_N) : va_E := match S.1 o.1 with
  | 1 => .inl (cA 0, S.2.1 o.1 o.2, .inl (w.1 o.1 o.2))
  | 2 => .inl (cA 1, S.2.1 o.1 o.2, .inr (.inl (w.2.1 o.1 o.2)))
  | 3 => .inl (cA 2, S.2.1 o.1 o.2, .inr (.inr (.inr (.inr (fun j => some (ad (S.2.2.2.1, w.2.2 o.1 o.2 j)))))))
  | k => .inr (k - 4, (List.range (fk (k - 4)).length).map (z_fv S ad w (fk (k - 4)) o))
def z_ws (S : z_S) (fk : Nat → List Nat) (ad : z_N → Nat) (cA : Nat → ClassId) (w : z_W) : va_W := S.2.2.2.2.map (fun o => (ad o, z_cell S fk ad cA w o))
section ZCELL
variable {S : z_S} {fk : Nat → List Nat} {ad : z_N → Nat} {cA : Nat → ClassId} {w w' : z_W} {o q : z_N} {a b k j : Nat}
theorem z_ws_at (h : S.2.2.2.2[j]? = some o) : (z_ws S fk ad cA w)[j]? = some (ad o, z_cell S fk ad cA w o) := by simp [z_ws, h]
theorem z_ws_set {e : va_E} (hn : S.2.2.2.2.Nodup) (h : S.2.2.2.2[j]? = some o) (he : z_cell S fk ad cA w' o = e) (hq : ∀ q, q ≠ o → z_cell S fk ad cA w' q = z_cell S fk ad cA w q) : (z_ws S fk ad cA w).set j (ad o, e) = z_ws S fk ad cA w' := by
  have hj := (List.getElem?_eq_some_iff.mp h).1
  apply List.ext_getElem?
  intro k
  by_cases hk : k = j
  · subst hk
    rw [List.getElem?_set_self (by simp [z_ws, hj]), z_ws_at h, he]
  · rw [List.getElem?_set_ne (Ne.symm hk)]
    cases hkN : S.2.2.2.2[k]? with
    | none => simp [z_ws, hkN]
    | some o' =>
      have hne : o' ≠ o := by
        intro h2
        subst h2
        have hk2 := (List.getElem?_eq_some_iff.mp hkN).1
        exact hk ((List.getElem?_inj hk2 hn).mp (hkN.trans h.symm))
      rw [z_ws_at hkN, z_ws_at hkN, hq o' hne]
theorem z_cell_congr (h1 : w'.1 o.1 o.2 = w.1 o.1 o.2) (h2 : w'.2.1 o.1 o.2 = w.2.1 o.1 o.2) (h3 : w'.2.2 o.1 o.2 = w.2.2 o.1 o.2) : z_cell S fk ad cA w' o = z_cell S fk ad cA w o := by
  have hf : ∀ ks j, z_fv S ad w' ks o j = z_fv S ad w ks o j := fun ks j => by unfold z_fv; rw [h1]
  have hg : ∀ ks, z_fv S ad w' ks o = z_fv S ad w ks o := fun ks => funext (hf ks)
  unfold z_cell
  rw [h1, h2, h3]
  simp only [hg]
theorem z_cell_1 (h : S.1 o.1 = 1) : z_cell S fk ad cA w o = .inl (cA 0, S.2.1 o.1 o.2, .inl (w.1 o.1 o.2)) := by unfold z_cell; rw [h]; rfl
theorem z_cell_2 (h : S.1 o.1 = 2) : z_cell S fk ad cA w o = .inl (cA 1, S.2.1 o.1 o.2, .inr (.inl (w.2.1 o.1 o.2))) := by unfold z_cell; rw [h]; rfl
theorem z_cell_3 (h : S.1 o.1 = 3) : z_cell S fk ad cA w o = .inl (cA 2, S.2.1 o.1 o.2, .inr (.inr (.inr (.inr (fun j => some (ad (S.2.2.2.1, w.2.2 o.1 o.2 j))))))) := by unfold z_cell; rw [h]; rfl
theorem z_cell_o (h : S.1 o.1 = a + 4) : z_cell S fk ad cA w o = .inr (a, (List.range (fk a).length).map (z_fv S ad w (fk a) o)) := by unfold z_cell; rw [h]; rfl
theorem z_ne {g i : Nat} (h : q ≠ (g, i)) (c : Prop) : ¬ (q.1 = g ∧ q.2 = i ∧ c) := fun h2 => h (Prod.ext h2.1 h2.2.1)
theorem z_si_ne {x : Int32} (h : q ≠ o) : z_cell S fk ad cA (z_si w o.1 o.2 k x) q = z_cell S fk ad cA w q := z_cell_congr (funext fun j => by show (if _ then _ else _) = _; rw [if_neg (z_ne h _)]) rfl rfl
theorem z_sl_ne {x : Int64} (h : q ≠ o) : z_cell S fk ad cA (z_sl w o.1 o.2 k x) q = z_cell S fk ad cA w q := z_cell_congr rfl (funext fun j => by show (if _ then _ else _) = _; rw [if_neg (z_ne h _)]) rfl
theorem z_sr_ne {x : Nat} (h : q ≠ o) : z_cell S fk ad cA (z_sr w o.1 o.2 k x) q = z_cell S fk ad cA w q := z_cell_congr rfl rfl (funext fun j => by show (if _ then _ else _) = _; rw [if_neg (z_ne h _)])
theorem z_cp_ne {g' i' sp dp n : Nat} (h : q ≠ o) : z_cell S fk ad cA (z_cp w g' i' sp o.1 o.2 dp n) q = z_cell S fk ad cA w q := z_cell_congr (funext fun j => by show (if _ then _ else _) = _; rw [if_neg (fun h2 => h (Prod.ext h2.1 h2.2))]) rfl rfl
theorem z_si_1 {x : Int32} (h : S.1 o.1 = 1) : z_cell S fk ad cA (z_si w o.1 o.2 k x) o = .inl (cA 0, S.2.1 o.1 o.2, .inl (upd (w.1 o.1 o.2) k x)) := by
  rw [z_cell_1 h]
  have : (z_si w o.1 o.2 k x).1 o.1 o.2 = upd (w.1 o.1 o.2) k x := funext fun j => by simp [z_si, upd]
  rw [this]
theorem z_sl_2 {x : Int64} (h : S.1 o.1 = 2) : z_cell S fk ad cA (z_sl w o.1 o.2 k x) o = .inl (cA 1, S.2.1 o.1 o.2, .inr (.inl (vp_updL (w.2.1 o.1 o.2) k x))) := by
  rw [z_cell_2 h]
  have : (z_sl w o.1 o.2 k x).2.1 o.1 o.2 = vp_updL (w.2.1 o.1 o.2) k x := funext fun j => by simp [z_sl, vp_updL]
  rw [this]
theorem z_sr_3 {x : Nat} (h : S.1 o.1 = 3) : z_cell S fk ad cA (z_sr w o.1 o.2 k x) o = .inl (cA 2, S.2.1 o.1 o.2, .inr (.inr (.inr (.inr (va_up (fun j => some (ad (S.2.2.2.1, w.2.2 o.1 o.2 j))) k (some (ad (S.2.2.2.1, x)))))))) := by
  rw [z_cell_3 h]
  have : (fun j => some (ad (S.2.2.2.1, (z_sr w o.1 o.2 k x).2.2 o.1 o.2 j))) = va_up (fun j => some (ad (S.2.2.2.1, w.2.2 o.1 o.2 j))) k (some (ad (S.2.2.2.1, x))) := funext fun j => by
    by_cases hj : j = k <;> simp [z_sr, va_up, hj]
  rw [this]
theorem z_cp_1 {g' i' sp dp n : Nat} (h : S.1 o.1 = 1) : z_cell S fk ad cA (z_cp w g' i' sp o.1 o.2 dp n) o = .inl (cA 0, S.2.1 o.1 o.2, .inl (va_cpy (w.1 g' i') (w.1 o.1 o.2) sp dp n)) := by
  rw [z_cell_1 h]
  have : (z_cp w g' i' sp o.1 o.2 dp n).1 o.1 o.2 = va_cpy (w.1 g' i') (w.1 o.1 o.2) sp dp n := funext fun j => by simp [z_cp]
  rw [this]
theorem z_fs_at {ks : List Nat} (hb : b < ks.length) : ((List.range ks.length).map (z_fv S ad w ks o))[b]? = some (z_fv S ad w ks o b) := by simp [hb]
theorem z_si_o {x : Int32} (h : S.1 o.1 = a + 4) (hb : b < (fk a).length) (hk : (fk a).getD b 0 ≠ 2) : z_cell S fk ad cA (z_si w o.1 o.2 b x) o = .inr (a, ((List.range (fk a).length).map (z_fv S ad w (fk a) o)).set b (.int x)) := by
  rw [z_cell_o h]
  congr 2
  apply List.ext_getElem?
  intro j
  by_cases hj : j = b
  · subst hj
    rw [z_fs_at hb, List.getElem?_set_self (by simpa using hb)]
    unfold z_fv
    rw [if_neg hk]
    simp [z_si]
  · rw [List.getElem?_set_ne (Ne.symm hj)]
    by_cases hl : j < (fk a).length
    · rw [z_fs_at hl, z_fs_at hl]
      unfold z_fv
      simp [z_si, hj]
    · simp [hl]
end ZCELL
theorem z_in_vp {i : Int32} {n : Nat} (h : z_in i n = true) : vp_in i n := by
  unfold z_in at h
  simp only [Bool.and_eq_true, decide_eq_true_eq] at h
  exact vp_in_iff.mpr h
/-! every reference is a name of the side -/
def z_vv (S : z_S) (v : z_V) : Prop := match v with
  | .inr (.inr (some o)) => o ∈ S.2.2.2.2
  | _ => True
def z_vs (S : z_S) (st : List z_V) : Prop := ∀ v ∈ st, z_vv S v
def z_vL (S : z_S) (L : z_L) : Prop := ∀ (j : Nat) (v : z_V), L[j]? = some (some v) → z_vv S v
def z_vw (S : z_S) (w : z_W) : Prop := ∀ g i j, (S.2.2.2.1, w.2.2 g i j) ∈ S.2.2.2.2
section ZV
variable {S : z_S} {st : List z_V} {L : z_L} {w : z_W} {v : z_V} {k : Nat}
theorem z_vs.c (hv : z_vv S v) (h : z_vs S st) : z_vs S (v :: st) := fun u hu => by
  rcases List.mem_cons.mp hu with rfl | hu
  · exact hv
  · exact h u hu
theorem z_vs.t (h : z_vs S (v :: st)) : z_vs S st := fun u hu => h u (List.mem_cons_of_mem _ hu)
theorem z_vs.h (h : z_vs S (v :: st)) : z_vv S v := h v List.mem_cons_self
theorem z_vL.ld (h : z_vL S L) (hv : z_ld L k = some v) : z_vv S v := by
  unfold z_ld at hv
  split at hv
  · rename_i u hu
    cases hv
    exact h _ _ hu
  · cases hv
theorem z_vL.st1 (h : z_vL S L) (hv : z_vv S v) : z_vL S (z_st1 L k v) := by
  intro j u hj
  unfold z_st1 at hj
  by_cases hjk : j = k
  · subst hjk
    have hl : j < (z_un L j).length := by
      have := (List.getElem?_eq_some_iff.mp hj).1
      rwa [List.length_set] at this
    rw [List.getElem?_set_self hl] at hj
    cases hj
    exact hv
  · rw [List.getElem?_set_ne (Ne.symm hjk)] at hj
    exact h j u (z_un_at hj).1
theorem z_vL.st2 (h : z_vL S L) (hv : z_vv S v) : z_vL S (z_st2 L k v) := by
  intro j u hj
  unfold z_st2 at hj
  by_cases hj1 : j = k + 1
  · subst hj1
    have hl : k + 1 < ((z_un L k).set k (some v)).length := by
      have := (List.getElem?_eq_some_iff.mp hj).1
      rwa [List.length_set] at this
    rw [List.getElem?_set_self hl] at hj
    cases hj
  · rw [List.getElem?_set_ne (Ne.symm hj1)] at hj
    exact (h.st1 hv) j u hj
theorem z_vL.entry {as : List z_V} {n : Nat} (h : z_vs S as) : z_vL S (z_entry n as) := by
  have key : ∀ as : List z_V, z_vs S as → ∀ v : z_V, some v ∈ z_args as → z_vv S v := by
    intro as
    induction as with
    | nil => intro _ v hv; cases hv
    | cons u r ih =>
      intro hs v hv
      simp only [z_args] at hv
      rcases List.mem_cons.mp hv with hv | hv
      · cases hv
        exact hs.h
      · split at hv
        · rcases List.mem_cons.mp hv with hv | hv
          · cases hv
          · exact ih hs.t v hv
        · exact ih hs.t v hv
  intro j v hj
  have hm := List.mem_of_getElem? hj
  unfold z_entry at hm
  rcases List.mem_append.mp hm with hm | hm
  · exact key as h v hm
  · have := List.eq_of_mem_replicate hm
    cases this
end ZV
end
section
/-! what is checked of an instruction, a class, a method -/
def z_cf (cl : List vw_C) (fk : Nat → List Nat) (Ws : List Jvm.Cond) (hst own : String) (i a b t q : Nat) : Bool :=
  match cl[a]? with
  | some (C, T, N) => decide (b < N) && decide ((T b).1 = C) && decide ((fk a).getD b 0 = t) &&
     (if q % 2 = 0 then decide (Ws[q / 2]? = some (.fieldLink own i C (T b).2.1 (T b).2.2.1)) else decide (Ws[q / 2]? = some (.fieldLinkNest own i C (T b).2.1 (T b).2.2.1 hst)))
  | none => false
def z_cp2 (cl : List vw_C) (a b t : Nat) : Bool :=
  match cl[a]? with
  | some (_, T, _) => decide ((T b).2.2.2 = false) && decide (parseFieldDescriptor (T b).2.2.1 = some (if t = 0 then .int else .boolean)) && decide (t < 2)
  | none => false
def z_cl (Ws : List Jvm.Cond) (hst own : String) (i q : Nat) (y : MethodName) : Bool :=
  if q % 2 = 0 then decide (Ws[q / 2]? = some (.methodLink own i y)) else decide (Ws[q / 2]? = some (.methodLinkNest own i y hst))
def z_cr (nM : Nat) (M : Nat → z_M) (fr lo a : Nat) : Bool :=
  decide (a < nM) && decide ((M a).2.2.2.2.2.2.1 + 1 ≤ fr) && decide (8 + ((M a).2.2.1 + 11) + (M a).2.2.2.2.2.2.2 ≤ lo)
def z_ca (Ws : List Jvm.Cond) (own : String) (i : Nat) (fr lo : Nat) : Bool :=
  Ws.contains (.methodLink own i arraycopyName) && Ws.contains (.native arraycopyName) && Ws.contains (.static arraycopyName) && Ws.contains (.initialized "java/lang/System") && decide (1 ≤ fr) && decide (8 + (nativeFrameWords "java/lang/System" "arraycopy" 5 + 11) ≤ lo)
def z_chk (cl : List vw_C) (fk : Nat → List Nat) (nM : Nat) (M : Nat → z_M) (Ws : List Jvm.Cond) (jn hst own : String) (cc : ByteArray) (rt : Option FieldType) (fr lo : Nat) (pc : Nat) (I : z_I) : Bool :=
  decide (decode cc pc = .ok (I.1, I.2.1)) &&
  match I with
  | (ins, len, a, b, t, q, c, d) => match ins with
    | .iconst n => decide (len = 1) && decide (Int32.ofInt n = c)
    | .bipush n => decide (len = 2) && decide ((Int8.ofInt n).toInt32 = c)
    | .sipush n => decide (len = 3) && decide ((Int16.ofInt n).toInt32 = c)
    | .lconst n => decide (len = 1) && decide (Int64.ofNat (n : Nat) = d)
    | .ldc2_w i => decide (len = 3) && decide (Ws[q]? = some (.constantLong own i d))
    | .iload _ => decide (len = 2)
    | .lload _ => decide (len = 2)
    | .aload _ => decide (len = 2)
    | .istore _ => decide (len = 2)
    | .lstore _ => decide (len = 2)
    | .astore _ => decide (len = 2)
    | .iinc _ n => decide (len = 3) && decide (Int32.ofInt n = c)
    | .ifCond _ off => decide (len = 3) && decide ((pc : Int) + off = (a : Int))
    | .if_icmp _ off => decide (len = 3) && decide ((pc : Int) + off = (a : Int))
    | .goto off => decide (len = 3) && decide ((pc : Int) + off = (a : Int))
    | .ifnull off => decide (len = 3) && decide ((pc : Int) + off = (a : Int))
    | .ifnonnull off => decide (len = 3) && decide ((pc : Int) + off = (a : Int))
    | .tableswitch dflt _ _ offs => decide (0 ≤ (pc : Int) + dflt) && offs.toList.all (fun off => decide (0 ≤ (pc : Int) + off))
    | .lookupswitch dflt ps => decide (0 ≤ (pc : Int) + dflt) && ps.toList.all (fun x => decide (0 ≤ (pc : Int) + x.2)) && (ps.toList.zip (ps.toList.drop 1)).all (fun (a, next) => a.1 < next.1)
    | .getfield i => decide (len = 3) && z_cf cl fk Ws hst own i a b t q
    | .putfield i => decide (len = 3) && z_cf cl fk Ws hst own i a b t q && z_cp2 cl a b t
    | .aastore => decide (len = 1) && decide ((cl[a]?).map (fun x => x.1) = some jn)
    | .invokevirtual i => decide (len = 3) && z_cl Ws hst own i q (M a).1 && z_cr nM M fr lo a && decide ((M a).2.2.2.2.2.1 ≠ 0)
    | .invokestatic i => decide (len = 3) && match t with
      | 0 => z_cl Ws hst own i q (M a).1 && z_cr nM M fr lo a && decide ((M a).2.2.2.2.2.1 = 0)
      | _ => z_ca Ws own i fr lo
    | .ireturn => decide (len = 1) && decide (rt = some (if t = 0 then .int else .boolean))
    | .lreturn => decide (len = 1) && decide (rt = some .long)
    | .areturn => decide (len = 1) && (match rt with
      | some (.object _) => true
      | _ => false)
    | .return_ => decide (len = 1) && decide (rt = none)
    | _ => decide (len = 1)
def z_nest : Jvm.Cond → Bool
  | .fieldLinkNest .. => true
  | .methodLinkNest .. => true
  | _ => false
def z_CL (cl : List vw_C) (fk : Nat → List Nat) (Ts : List Jvm.Cond) : Prop := ∀ (ci : Nat) (C : String) (T : u_T) (N : Nat), cl[ci]? = some (C, T, N) →
  (∀ w ∈ u_ws C T N, w ∈ Ts) ∧ (fk ci).length = N ∧ (∃ ty0 : Nat → FieldType, ∀ k, k < N → parseFieldDescriptor (T k).2.2.1 = some (ty0 k)) ∧ (∀ a, a < N → ∀ b, b < N → a ≠ b → (T a).2.1 ≠ (T b).2.1)
def z_MO (cl : List vw_C) (Ts : List Jvm.Cond) (mt : z_M) : Prop :=
  plainName mt.1.cls = true ∧ (mt.1.cls ≠ "java/lang/invoke/MethodHandle" ∧ mt.1.cls ≠ "java/lang/invoke/VarHandle") ∧ Jvm.Cond.code mt.1 mt.2.1 mt.2.2.1 mt.2.2.2.1 ∈ Ts ∧ Jvm.Cond.initialized mt.1.cls ∈ Ts ∧
  (∀ sig, parseMethodDescriptor mt.1.desc = some sig → mt.2.2.2.2.1 = sig.parameters.length + (if mt.2.2.2.2.2.1 = 0 then 0 else 1)) ∧
  (mt.2.2.2.2.2.1 = 0 → Jvm.Cond.static mt.1 ∈ Ts) ∧
  (mt.2.2.2.2.2.1 ≠ 0 → Jvm.Cond.instanceMethod mt.1 ∈ Ts ∧ Jvm.Cond.selects mt.1.cls mt.1 mt.1 ∈ Ts ∧ ∃ (ci : Nat) (T : u_T) (N : Nat), mt.2.2.2.2.2.1 = ci + 4 ∧ cl[ci]? = some (mt.1.cls, T, N))
theorem z_lk_pos {pc : Nat} {d x : Int} : ∀ l : List (Int × Int), 0 ≤ (pc : Int) + d → (∀ q ∈ l, 0 ≤ (pc : Int) + q.2) → 0 ≤ (pc : Int) + Op.lookupswitch.offset l d x
  | [], h, _ => by rw [Op.lookupswitch.offset_nil]; exact h
  | (a, o) :: r, h, hl => by
    rw [Op.lookupswitch.offset_cons]
    split
    · exact hl (a, o) List.mem_cons_self
    · exact z_lk_pos r h (fun q hq => hl q (List.mem_cons_of_mem _ hq))
theorem z_tgt_eq {pc : Nat} {off : Int} (h : 0 ≤ (pc : Int) + off) : (pc : Int) + off = (z_tgt pc off : Int) := by
  unfold z_tgt
  omega
/-- an instruction that writes a cell -/
def z_isw (I : z_I) : Bool := match I with
  | (ins, _, _, _, t, _, _, _) => match ins with
    | .putfield _ => true
    | .iastore => true
    | .lastore => true
    | .aastore => true
    | .invokestatic _ => (match t with
      | 0 => false
      | _ => true)
    | _ => false
section ZW
variable {p : Program} {l : Launch} {e : Env} {R : Room} {s : State} {m : MethodId} {args : Array Value} {below : List Frame} {meth : Method} {c : Code} {H : Heap} {locs : List Loc} {Q : State → Prop}
theorem z_wcall {pc : Nat} {ls : Array Slot} {st0 rest : List Value} {Qa : State → Outcome → State → Prop} {free : Addr → Prop}
    (hr : va_Run p l e R s m args below meth c H locs 0 0 0 0 (F0 m pc ls st0) rest Qa free)
    (kk : ∀ (v : Option Value) (st₀ t : State) (H1 : Heap) (locs1 : List Loc), st₀.heap = H → Qa st₀ (.returned v) t → t.heap = H1 → (∀ x ∈ locs1, x ∈ locs ∨ free x.base) → W p l e R s m args below meth c H1 locs1 0 0 Q (F0 m (pc + 3) ls (v.toList ++ rest))) :
    W p l e R s m args below meth c H locs 0 0 Q (F0 m pc ls st0) := by
  intro T hT X
  obtain ⟨v, st₀, t, T', L, h0, X', hL, e1, e2, hq, st⟩ := hr T hT X
  obtain ⟨t2, a1, b1⟩ := kk v st₀ t T'.heap (locs ++ L) h0 hq e1.symm (fun x hx => by
    rcases List.mem_append.mp hx with h | h
    · exact Or.inl h
    · exact Or.inr (hL x h)) T' rfl X'
  exact ⟨t2, st t2 a1, b1⟩
variable {S : z_S} {fk : Nat → List Nat} {ad : z_N → Nat} {cA : Nat → ClassId} {D : va_G} {cl : List vw_C} {tys : List (ClassId × FieldType)} {A : Nat → Prop} {H0 : Heap} {Ts Ws Ns : List Jvm.Cond} {jn hst own : String} {cc : ByteArray} {rt : Option FieldType} {nM : Nat} {M : Nat → z_M}
set_option maxHeartbeats 4000000 in
set_option maxRecDepth 100000 in
theorem z_next (hx : p.tables.exec = Jvm.exec) (hb : c.code = cc) (hown : s.vm.findClass own = some m.cls) (hts : ∀ w ∈ Ts, w.before args s = true) (hWs : ∀ w ∈ Ws, goodWord w = true → w ∈ Ts) (hWN : ∀ w ∈ Ws, z_nest w = true → w ∈ Ns) (hNs : ∀ w ∈ Ns, va_Nw w s) (hK : va_K D cl tys s)
    (hnd : S.2.2.2.2.Nodup) (hty1 : ∀ o, S.1 o = 1 → tys[0]? = some (cA 0, .int)) (hty2 : ∀ o, S.1 o = 2 → tys[1]? = some (cA 1, .long)) (hty3 : ∀ o, S.1 o = 3 → tys[2]? = some (cA 2, .object jn))
    (hCL : z_CL cl fk Ts) {nL pc pc' : Nat} {I : z_I} (hD : z_isw I = true → ∀ w, va_D A (z_ws S fk ad cA w)) {L L' : z_L} {st st' : List z_V} {w w' : z_W} {ls : Array Slot} (hml : c.maxLocals = nL)
    (hchk : z_chk cl fk nM M Ws jn hst own cc rt R.frames R.locals pc I = true) (hstep : z_step S M I pc L st w = some (.inl (pc', L', st', w')))
    (hl : z_hl ad ls nL L) (hv1 : z_vs S st) (hP : va_P D cl (z_ws S fk ad cA w) H) (hS : va_S A H0 H locs)
    (kk : ∀ (ls' : Array Slot) (H' : Heap) (locs' : List Loc), z_hl ad ls' nL L' → va_P D cl (z_ws S fk ad cA w') H' → va_S A H0 H' locs' → W p l e R s m args below meth c H' locs' 0 0 Q (F0 m pc' ls' (st'.map (z_v ad)))) :
    W p l e R s m args below meth c H locs 0 0 Q (F0 m pc ls (st.map (z_v ad))) := by
  obtain ⟨ins, len, a, b, t, q, c0, d⟩ := I
  unfold z_chk at hchk
  rw [Bool.and_eq_true, decide_eq_true_eq] at hchk
  obtain ⟨hd, hchk⟩ := hchk
  dsimp only at hd hchk
  cases ins
  case iconst n =>
    simp only [z_step] at hstep
    cases hstep
    simp only [Bool.and_eq_true, decide_eq_true_eq] at hchk
    obtain ⟨rfl, h2⟩ := hchk
    exact lv_iconst hx hb hd h2 (kk ls H locs hl hP hS)
  case bipush n =>
    simp only [z_step] at hstep
    cases hstep
    simp only [Bool.and_eq_true, decide_eq_true_eq] at hchk
    obtain ⟨rfl, h2⟩ := hchk
    exact lv_bipush hx hb hd h2 (kk ls H locs hl hP hS)
  case sipush n =>
    simp only [z_step] at hstep
    cases hstep
    simp only [Bool.and_eq_true, decide_eq_true_eq] at hchk
    obtain ⟨rfl, h2⟩ := hchk
    exact lv_sipush hx hb hd h2 (kk ls H locs hl hP hS)
  case lconst n =>
    simp only [z_step] at hstep
    cases hstep
    simp only [Bool.and_eq_true, decide_eq_true_eq] at hchk
    obtain ⟨rfl, h2⟩ := hchk
    exact lv_lconst hx hb hd h2 (kk ls H locs hl hP hS)
  case ldc2_w i =>
    simp only [z_step] at hstep
    cases hstep
    simp only [Bool.and_eq_true, decide_eq_true_eq] at hchk
    obtain ⟨rfl, h2⟩ := hchk
    exact lv_ldc2 hx hb hown (hts _ (hWs _ (List.mem_of_getElem? h2) rfl)) hd (kk ls H locs hl hP hS)
  case aconst_null =>
    simp only [z_step] at hstep
    cases hstep
    simp only [decide_eq_true_eq] at hchk
    subst hchk
    exact lv_null hx hb hd (kk ls H locs hl hP hS)
  case iload_n k =>
    simp only [z_step] at hstep
    split at hstep
    · rename_i x hv
      cases hstep
      simp only [decide_eq_true_eq] at hchk
      subst hchk
      exact lv_iload_n hx hb hd rfl (z_ld_at hl hv) (kk ls H locs hl hP hS)
    · cases hstep
  case iload k =>
    simp only [z_step] at hstep
    split at hstep
    · rename_i x hv
      cases hstep
      simp only [decide_eq_true_eq] at hchk
      subst hchk
      exact lv_iload hx hb hd (z_ld_at hl hv) (kk ls H locs hl hP hS)
    · cases hstep
  case lload_n k =>
    simp only [z_step] at hstep
    split at hstep
    · rename_i x hv
      cases hstep
      simp only [decide_eq_true_eq] at hchk
      subst hchk
      exact lv_lload_n hx hb hd rfl (z_ld_at hl hv) (kk ls H locs hl hP hS)
    · cases hstep
  case lload k =>
    simp only [z_step] at hstep
    split at hstep
    · rename_i x hv
      cases hstep
      simp only [decide_eq_true_eq] at hchk
      subst hchk
      exact lv_lload hx hb hd (z_ld_at hl hv) (kk ls H locs hl hP hS)
    · cases hstep
  case aload_n k =>
    simp only [z_step] at hstep
    split at hstep
    · rename_i x hv
      cases hstep
      simp only [decide_eq_true_eq] at hchk
      subst hchk
      cases x with
      | none => exact lv_aload_nN hx hb hd rfl (z_ld_at hl hv) (kk ls H locs hl hP hS)
      | some x => exact lv_aload_n hx hb hd rfl (z_ld_at hl hv) (kk ls H locs hl hP hS)
    · cases hstep
  case aload k =>
    simp only [z_step] at hstep
    split at hstep
    · rename_i x hv
      cases hstep
      simp only [decide_eq_true_eq] at hchk
      subst hchk
      cases x with
      | none => exact lv_aloadN hx hb hd (z_ld_at hl hv) (kk ls H locs hl hP hS)
      | some x => exact lv_aload hx hb hd (z_ld_at hl hv) (kk ls H locs hl hP hS)
    · cases hstep
  case istore_n k =>
    simp only [z_step] at hstep
    split at hstep
    · split at hstep
      · rename_i hk
        cases hstep
        simp only [decide_eq_true_eq] at hchk
        subst hchk
        exact lv_istore_n hx hb hd rfl hl.has (hl.2.2.1 ▸ hk) rfl (fun ls' h' => kk ls' H locs (hl.st1 h') hP hS)
      · cases hstep
    · cases hstep
  case istore k =>
    simp only [z_step] at hstep
    split at hstep
    · split at hstep
      · rename_i hk
        cases hstep
        simp only [decide_eq_true_eq] at hchk
        subst hchk
        exact lv_istore hx hb hd hl.has (hl.2.2.1 ▸ hk) rfl (fun ls' h' => kk ls' H locs (hl.st1 h') hP hS)
      · cases hstep
    · cases hstep
  case lstore_n k =>
    simp only [z_step] at hstep
    split at hstep
    · split at hstep
      · rename_i hk
        cases hstep
        simp only [decide_eq_true_eq] at hchk
        subst hchk
        exact lv_lstore_n hx hb hd rfl hl.has (hl.2.2.1 ▸ hk) rfl (fun ls' h' => kk ls' H locs (hl.st2 h') hP hS)
      · cases hstep
    · cases hstep
  case lstore k =>
    simp only [z_step] at hstep
    split at hstep
    · split at hstep
      · rename_i hk
        cases hstep
        simp only [decide_eq_true_eq] at hchk
        subst hchk
        exact lv_lstore hx hb hd hl.has (hl.2.2.1 ▸ hk) rfl (fun ls' h' => kk ls' H locs (hl.st2 h') hP hS)
      · cases hstep
    · cases hstep
  case astore_n k =>
    simp only [z_step] at hstep
    split at hstep
    · rename_i x r
      split at hstep
      · rename_i hk
        cases hstep
        simp only [decide_eq_true_eq] at hchk
        subst hchk
        cases x with
        | none => exact lv_astore_nN hx hb hd rfl hl.has (hl.2.2.1 ▸ hk) rfl (fun ls' h' => kk ls' H locs (hl.st1 h') hP hS)
        | some x => exact lv_astore_n hx hb hd rfl hl.has (hl.2.2.1 ▸ hk) rfl (fun ls' h' => kk ls' H locs (hl.st1 h') hP hS)
      · cases hstep
    · cases hstep
  case astore k =>
    simp only [z_step] at hstep
    split at hstep
    · rename_i x r
      split at hstep
      · rename_i hk
        cases hstep
        simp only [decide_eq_true_eq] at hchk
        subst hchk
        cases x with
        | none => exact lv_astoreN hx hb hd hl.has (hl.2.2.1 ▸ hk) rfl (fun ls' h' => kk ls' H locs (hl.st1 h') hP hS)
        | some x => exact lv_astore hx hb hd hl.has (hl.2.2.1 ▸ hk) rfl (fun ls' h' => kk ls' H locs (hl.st1 h') hP hS)
      · cases hstep
    · cases hstep
  case iinc k n =>
    simp only [z_step] at hstep
    split at hstep
    · rename_i x hv
      split at hstep
      · rename_i hk
        cases hstep
        simp only [Bool.and_eq_true, decide_eq_true_eq] at hchk
        obtain ⟨rfl, h2⟩ := hchk
        obtain ⟨j, hj⟩ := z_ld_as (ad := ad) hv
        exact lv_iinc hx hb hd hl.has hj (by rw [h2]) (hl.2.2.1 ▸ hk) rfl (fun ls' h' => kk ls' H locs (hl.st1 h') hP hS)
      · cases hstep
    · cases hstep
  case iadd =>
    simp only [z_step] at hstep
    split at hstep
    · cases hstep
      simp only [decide_eq_true_eq] at hchk
      subst hchk
      exact lv_iadd hx hb hd (kk ls H locs hl hP hS)
    · cases hstep
  case isub =>
    simp only [z_step] at hstep
    split at hstep
    · cases hstep
      simp only [decide_eq_true_eq] at hchk
      subst hchk
      exact lv_isub hx hb hd (kk ls H locs hl hP hS)
    · cases hstep
  case imul =>
    simp only [z_step] at hstep
    split at hstep
    · cases hstep
      simp only [decide_eq_true_eq] at hchk
      subst hchk
      exact lv_imul hx hb hd (kk ls H locs hl hP hS)
    · cases hstep
  case iand =>
    simp only [z_step] at hstep
    split at hstep
    · cases hstep
      simp only [decide_eq_true_eq] at hchk
      subst hchk
      exact lv_iand hx hb hd (kk ls H locs hl hP hS)
    · cases hstep
  case ior =>
    simp only [z_step] at hstep
    split at hstep
    · cases hstep
      simp only [decide_eq_true_eq] at hchk
      subst hchk
      exact lv_ior hx hb hd (kk ls H locs hl hP hS)
    · cases hstep
  case ishl =>
    simp only [z_step] at hstep
    split at hstep
    · cases hstep
      simp only [decide_eq_true_eq] at hchk
      subst hchk
      exact lv_ishl hx hb hd (kk ls H locs hl hP hS)
    · cases hstep
  case ishr =>
    simp only [z_step] at hstep
    split at hstep
    · cases hstep
      simp only [decide_eq_true_eq] at hchk
      subst hchk
      exact lv_ishr hx hb hd (kk ls H locs hl hP hS)
    · cases hstep
  case land =>
    simp only [z_step] at hstep
    split at hstep
    · cases hstep
      simp only [decide_eq_true_eq] at hchk
      subst hchk
      exact lv_land hx hb hd (kk ls H locs hl hP hS)
    · cases hstep
  case lor =>
    simp only [z_step] at hstep
    split at hstep
    · cases hstep
      simp only [decide_eq_true_eq] at hchk
      subst hchk
      exact lv_lor hx hb hd (kk ls H locs hl hP hS)
    · cases hstep
  case lcmp =>
    simp only [z_step] at hstep
    split at hstep
    · cases hstep
      simp only [decide_eq_true_eq] at hchk
      subst hchk
      exact W.lcmp hx hb hd (kk ls H locs hl hP hS)
    · cases hstep
  case lshl =>
    simp only [z_step] at hstep
    split at hstep
    · cases hstep
      simp only [decide_eq_true_eq] at hchk
      subst hchk
      exact lv_lshl hx hb hd rfl (kk ls H locs hl hP hS)
    · cases hstep
  case lshr =>
    simp only [z_step] at hstep
    split at hstep
    · cases hstep
      simp only [decide_eq_true_eq] at hchk
      subst hchk
      exact lv_lshr hx hb hd rfl (kk ls H locs hl hP hS)
    · cases hstep
  case i2l =>
    simp only [z_step] at hstep
    split at hstep
    · cases hstep
      simp only [decide_eq_true_eq] at hchk
      subst hchk
      exact lv_i2l hx hb hd rfl (kk ls H locs hl hP hS)
    · cases hstep
  case l2i =>
    simp only [z_step] at hstep
    split at hstep
    · cases hstep
      simp only [decide_eq_true_eq] at hchk
      subst hchk
      exact lv_l2i hx hb hd rfl (kk ls H locs hl hP hS)
    · cases hstep
  case idiv =>
    simp only [z_step] at hstep
    split at hstep
    · split at hstep
      · cases hstep
      · rename_i h0
        cases hstep
        simp only [decide_eq_true_eq] at hchk
        subst hchk
        exact lv_idiv hx hb hd h0 (kk ls H locs hl hP hS)
    · cases hstep
  case irem =>
    simp only [z_step] at hstep
    split at hstep
    · split at hstep
      · cases hstep
      · rename_i h0
        cases hstep
        simp only [decide_eq_true_eq] at hchk
        subst hchk
        exact lv_irem hx hb hd h0 (kk ls H locs hl hP hS)
    · cases hstep
  case dup =>
    simp only [z_step] at hstep
    simp only [decide_eq_true_eq] at hchk
    subst hchk
    split at hstep
    · cases hstep
      exact lv_dup hx hb hd rfl (kk ls H locs hl hP hS)
    · rename_i x r
      cases hstep
      cases x with
      | none => exact lv_dup hx hb hd rfl (kk ls H locs hl hP hS)
      | some x => exact lv_dup hx hb hd rfl (kk ls H locs hl hP hS)
    · cases hstep
  case dup2 =>
    simp only [z_step] at hstep
    simp only [decide_eq_true_eq] at hchk
    subst hchk
    split at hstep
    · rename_i x y r
      cases hstep
      cases y with
      | none => exact lv_dup2_11 hx hb hd rfl rfl (kk ls H locs hl hP hS)
      | some y => exact lv_dup2_11 hx hb hd rfl rfl (kk ls H locs hl hP hS)
    · cases hstep
  case ifCond cnd off =>
    simp only [z_step] at hstep
    simp only [Bool.and_eq_true, decide_eq_true_eq] at hchk
    obtain ⟨rfl, h2⟩ := hchk
    split at hstep
    · cases cnd
      all_goals (simp only at hstep; cases hstep)
      · exact lv_if_eq hx hb hd h2 (fun h => by rw [if_pos h] at kk; exact kk ls H locs hl hP hS) (fun h => by rw [if_neg h] at kk; exact kk ls H locs hl hP hS)
      · exact lv_if_ne hx hb hd h2 (fun h => by rw [if_neg h] at kk; exact kk ls H locs hl hP hS) (fun h => by rw [if_pos h] at kk; exact kk ls H locs hl hP hS)
      · exact lv_if_lt hx hb hd h2 (fun h => by rw [if_pos h] at kk; exact kk ls H locs hl hP hS) (fun h => by rw [if_neg h] at kk; exact kk ls H locs hl hP hS)
      · exact lv_if_ge hx hb hd h2 (fun h => by rw [if_pos h] at kk; exact kk ls H locs hl hP hS) (fun h => by rw [if_neg h] at kk; exact kk ls H locs hl hP hS)
      · exact lv_if_gt hx hb hd h2 (fun h => by rw [if_pos h] at kk; exact kk ls H locs hl hP hS) (fun h => by rw [if_neg h] at kk; exact kk ls H locs hl hP hS)
      · exact lv_if_le hx hb hd h2 (fun h => by rw [if_pos h] at kk; exact kk ls H locs hl hP hS) (fun h => by rw [if_neg h] at kk; exact kk ls H locs hl hP hS)
    · cases hstep
  case if_icmp cnd off =>
    simp only [z_step] at hstep
    simp only [Bool.and_eq_true, decide_eq_true_eq] at hchk
    obtain ⟨rfl, h2⟩ := hchk
    split at hstep
    · cases cnd
      all_goals (simp only at hstep; cases hstep)
      · exact lv_icmp_eq hx hb hd h2 (fun h => by rw [if_pos h] at kk; exact kk ls H locs hl hP hS) (fun h => by rw [if_neg h] at kk; exact kk ls H locs hl hP hS)
      · exact lv_icmp_ne hx hb hd h2 (fun h => by rw [if_neg h] at kk; exact kk ls H locs hl hP hS) (fun h => by rw [if_pos h] at kk; exact kk ls H locs hl hP hS)
      · exact lv_icmp_lt hx hb hd h2 (fun h => by rw [if_pos h] at kk; exact kk ls H locs hl hP hS) (fun h => by rw [if_neg h] at kk; exact kk ls H locs hl hP hS)
      · exact lv_icmp_ge hx hb hd h2 (fun h => by rw [if_pos h] at kk; exact kk ls H locs hl hP hS) (fun h => by rw [if_neg h] at kk; exact kk ls H locs hl hP hS)
      · exact lv_icmp_gt hx hb hd h2 (fun h => by rw [if_pos h] at kk; exact kk ls H locs hl hP hS) (fun h => by rw [if_neg h] at kk; exact kk ls H locs hl hP hS)
      · exact lv_icmp_le hx hb hd h2 (fun h => by rw [if_pos h] at kk; exact kk ls H locs hl hP hS) (fun h => by rw [if_neg h] at kk; exact kk ls H locs hl hP hS)
    · cases hstep
  case goto off =>
    simp only [z_step] at hstep
    cases hstep
    simp only [Bool.and_eq_true, decide_eq_true_eq] at hchk
    obtain ⟨rfl, h2⟩ := hchk
    exact lv_goto hx hb hd h2 (kk ls H locs hl hP hS)
  case ifnull off =>
    simp only [z_step] at hstep
    simp only [Bool.and_eq_true, decide_eq_true_eq] at hchk
    obtain ⟨rfl, h2⟩ := hchk
    split at hstep
    · cases hstep
      exact lv_ifnullN hx hb hd h2 (kk ls H locs hl hP hS)
    · cases hstep
      exact lv_ifnull hx hb hd (kk ls H locs hl hP hS)
    · cases hstep
  case ifnonnull off =>
    simp only [z_step] at hstep
    simp only [Bool.and_eq_true, decide_eq_true_eq] at hchk
    obtain ⟨rfl, h2⟩ := hchk
    split at hstep
    · cases hstep
      exact lv_ifnonnullN hx hb hd (kk ls H locs hl hP hS)
    · cases hstep
      exact lv_ifnonnull hx hb hd h2 (kk ls H locs hl hP hS)
    · cases hstep
  case tableswitch dflt lo hi offs =>
    simp only [z_step] at hstep
    simp only [Bool.and_eq_true, decide_eq_true_eq, List.all_eq_true] at hchk
    obtain ⟨h1, h2⟩ := hchk
    split at hstep
    · split at hstep
      · rename_i h3
        cases hstep
        exact lv_tableOut hx hb hd h3 (z_tgt_eq h1) (kk ls H locs hl hP hS)
      · rename_i h3
        split at hstep
        · rename_i off ho
          cases hstep
          exact lv_tableIn hx hb hd (fun h => h3 (Or.inl h)) (fun h => h3 (Or.inr h)) ho (z_tgt_eq (h2 off (by simpa using Array.mem_of_getElem? ho))) (kk ls H locs hl hP hS)
        · cases hstep
    · cases hstep
  case lookupswitch dflt ps =>
    simp only [z_step] at hstep
    simp only [Bool.and_eq_true, decide_eq_true_eq] at hchk
    obtain ⟨⟨h1, h2⟩, h3⟩ := hchk
    split at hstep
    · cases hstep
      exact lv_lookup hx hb hd h3 rfl (z_tgt_eq (z_lk_pos _ h1 (fun x hx => by simpa using List.all_eq_true.mp h2 x hx))) (kk ls H locs hl hP hS)
    · cases hstep
  case getfield i =>
    simp only [z_step] at hstep
    rw [Bool.and_eq_true, decide_eq_true_eq] at hchk
    obtain ⟨rfl, h2⟩ := hchk
    unfold z_cf at h2
    split at h2
    · rename_i C T N hc
      simp only [Bool.and_eq_true, decide_eq_true_eq] at h2
      obtain ⟨⟨⟨hb1, hb2⟩, hb3⟩, hb4⟩ := h2
      obtain ⟨g1, g2, -, -⟩ := hCL a C T N hc
      split at hstep
      · rename_i g o r
        split at hstep
        · rename_i ho
          obtain ⟨jj, hj⟩ := List.getElem?_of_mem (show (g, o) ∈ S.2.2.2.2 from hv1.h)
          have he := z_ws_at (fk := fk) (ad := ad) (cA := cA) (w := w) hj
          rw [z_cell_o (o := (g, o)) ho] at he
          have hv := z_fs_at (S := S) (ad := ad) (w := w) (o := (g, o)) (ks := fk a) (b := b) (by omega)
          have hgo : ∀ v : Value, z_fv S ad w (fk a) (g, o) b = v → W p l e R s m args below meth c H locs 0 0 Q (F0 m (pc + 3) ls (v :: r.map (z_v ad))) → W p l e R s m args below meth c H locs 0 0 Q (F0 m pc ls (Value.ref (ad (g, o)) :: r.map (z_v ad))) := by
            intro v hv2 k2
            rw [hv2] at hv
            by_cases hq : q % 2 = 0
            · rw [if_pos hq, decide_eq_true_eq] at hb4
              exact va_get hx hb hts g1 hown hK hP jj he hc b hb1 (hts _ (hWs _ (List.mem_of_getElem? hb4) rfl)) (fun x h9 => by rw [hb2] at h9; exact h9) hv hd k2
            · rw [if_neg hq, decide_eq_true_eq] at hb4
              exact va_getN hx hb hts g1 hown hK hP jj he hc b hb1 (va_Nw.use rfl (hNs _ (hWN _ (List.mem_of_getElem? hb4) rfl))) (fun x h9 => by rw [hb2] at h9; exact h9) hv hd k2
          split at hstep
          · cases hstep
            exact hgo _ (by unfold z_fv; rw [if_pos hb3]; rfl) (kk ls H locs hl hP hS)
          · rename_i ht2
            cases hstep
            exact hgo _ (by unfold z_fv; rw [if_neg (by rw [hb3]; exact ht2)]; rfl) (kk ls H locs hl hP hS)
        · cases hstep
      · cases hstep
    · cases h2
  case putfield i =>
    simp only [z_step] at hstep
    rw [Bool.and_eq_true, Bool.and_eq_true, decide_eq_true_eq] at hchk
    obtain ⟨⟨rfl, h2⟩, h3⟩ := hchk
    unfold z_cf at h2
    unfold z_cp2 at h3
    split at h2
    · rename_i C T N hc
      rw [hc] at h3
      simp only [Bool.and_eq_true, decide_eq_true_eq] at h2 h3
      obtain ⟨⟨⟨hb1, hb2⟩, hb3⟩, hb4⟩ := h2
      obtain ⟨⟨hf1, hf2⟩, hf3⟩ := h3
      obtain ⟨g1, g2, ⟨ty0, g3⟩, g4⟩ := hCL a C T N hc
      split at hstep
      · rename_i x g o r
        split at hstep
        · rename_i ho
          cases hstep
          obtain ⟨jj, hj⟩ := List.getElem?_of_mem (show (g, o) ∈ S.2.2.2.2 from hv1.t.h)
          have he := z_ws_at (fk := fk) (ad := ad) (cA := cA) (w := w) hj
          rw [z_cell_o (o := (g, o)) ho.1] at he
          have hbl : b < (fk a).length := by omega
          have hset := z_ws_set (fk := fk) (ad := ad) (cA := cA) (w := w) (w' := z_si w g o b x) hnd hj (z_si_o (o := (g, o)) ho.1 hbl (by rw [hb3]; omega)) (fun q hq => z_si_ne (o := (g, o)) hq)
          have hn : narrow (if t = 0 then .int else .boolean) (.int x) = .int x := by
            rcases ho.2 with h | h
            · rw [if_pos h]; rfl
            · by_cases h0 : t = 0
              · rw [if_pos h0]; rfl
              · rw [if_neg h0]
                rcases h with rfl | rfl <;> rfl
          have hfit : fits (if t = 0 then .int else .boolean) (.int x) = true := by
            rcases ho.2 with h | h
            · rw [if_pos h]; rfl
            · by_cases h0 : t = 0
              · rw [if_pos h0]; rfl
              · rw [if_neg h0]
                rcases h with rfl | rfl <;> rfl
          by_cases hq : q % 2 = 0
          · rw [if_pos hq, decide_eq_true_eq] at hb4
            exact va_put hx hb hts g1 ty0 g3 g4 hown hK hP (hD rfl w) hS jj he hc b hb1 (hts _ (hWs _ (List.mem_of_getElem? hb4) rfl)) (fun x h9 => by rw [hb2] at h9; exact h9) hf1 hf2 hn hfit (by simpa using hbl) hd (fun H1 locs1 k1 _ k3 => kk ls H1 locs1 hl (by rw [← hset]; exact k1) k3)
          · rw [if_neg hq, decide_eq_true_eq] at hb4
            exact va_putN hx hb hts g1 ty0 g3 g4 hown hK hP (hD rfl w) hS jj he hc b hb1 (va_Nw.use rfl (hNs _ (hWN _ (List.mem_of_getElem? hb4) rfl))) (fun x h9 => by rw [hb2] at h9; exact h9) hf1 hf2 hn hfit (by simpa using hbl) hd (fun H1 locs1 k1 _ k3 => kk ls H1 locs1 hl (by rw [← hset]; exact k1) k3)
        · cases hstep
      · cases hstep
    · cases h2
  case iaload =>
    simp only [z_step] at hstep
    simp only [decide_eq_true_eq] at hchk
    subst hchk
    split at hstep
    · rename_i i g o r
      split at hstep
      · rename_i ho
        cases hstep
        obtain ⟨jj, hj⟩ := List.getElem?_of_mem (show (g, o) ∈ S.2.2.2.2 from hv1.t.h)
        have he := z_ws_at (fk := fk) (ad := ad) (cA := cA) (w := w) hj
        rw [z_cell_1 (o := (g, o)) ho.1] at he
        exact va_iald hx hb hK hP jj 0 he (hty1 g ho.1) (z_in_vp ho.2) hd (kk ls H locs hl hP hS)
      · cases hstep
    · cases hstep
  case laload =>
    simp only [z_step] at hstep
    simp only [decide_eq_true_eq] at hchk
    subst hchk
    split at hstep
    · rename_i i g o r
      split at hstep
      · rename_i ho
        cases hstep
        obtain ⟨jj, hj⟩ := List.getElem?_of_mem (show (g, o) ∈ S.2.2.2.2 from hv1.t.h)
        have he := z_ws_at (fk := fk) (ad := ad) (cA := cA) (w := w) hj
        rw [z_cell_2 (o := (g, o)) ho.1] at he
        exact va_lald hx hb hK hP jj 1 he (hty2 g ho.1) (z_in_vp ho.2) hd (kk ls H locs hl hP hS)
      · cases hstep
    · cases hstep
  case aaload =>
    simp only [z_step] at hstep
    simp only [decide_eq_true_eq] at hchk
    subst hchk
    split at hstep
    · rename_i i g o r
      split at hstep
      · rename_i ho
        cases hstep
        obtain ⟨jj, hj⟩ := List.getElem?_of_mem (show (g, o) ∈ S.2.2.2.2 from hv1.t.h)
        have he := z_ws_at (fk := fk) (ad := ad) (cA := cA) (w := w) hj
        rw [z_cell_3 (o := (g, o)) ho.1] at he
        exact va_aldq hx hb hK hP jj 2 he (hty3 g ho.1) (z_in_vp ho.2) hd (kk ls H locs hl hP hS)
      · cases hstep
    · cases hstep
  case iastore =>
    simp only [z_step] at hstep
    simp only [decide_eq_true_eq] at hchk
    subst hchk
    split at hstep
    · rename_i x i g o r
      split at hstep
      · rename_i ho
        cases hstep
        obtain ⟨jj, hj⟩ := List.getElem?_of_mem (show (g, o) ∈ S.2.2.2.2 from hv1.t.t.h)
        have he := z_ws_at (fk := fk) (ad := ad) (cA := cA) (w := w) hj
        rw [z_cell_1 (o := (g, o)) ho.1] at he
        have hset := z_ws_set (fk := fk) (ad := ad) (cA := cA) (w := w) (w' := z_si w g o i.toNatClampNeg x) hnd hj (z_si_1 (o := (g, o)) ho.1) (fun q hq => z_si_ne (o := (g, o)) hq)
        exact va_iast hx hb hK hP (hD rfl w) hS jj 0 he (hty1 g ho.1) (z_in_vp ho.2) hd (fun H1 locs1 k1 _ k3 => kk ls H1 locs1 hl (by rw [← hset]; exact k1) k3)
      · cases hstep
    · cases hstep
  case lastore =>
    simp only [z_step] at hstep
    simp only [decide_eq_true_eq] at hchk
    subst hchk
    split at hstep
    · rename_i x i g o r
      split at hstep
      · rename_i ho
        cases hstep
        obtain ⟨jj, hj⟩ := List.getElem?_of_mem (show (g, o) ∈ S.2.2.2.2 from hv1.t.t.h)
        have he := z_ws_at (fk := fk) (ad := ad) (cA := cA) (w := w) hj
        rw [z_cell_2 (o := (g, o)) ho.1] at he
        have hset := z_ws_set (fk := fk) (ad := ad) (cA := cA) (w := w) (w' := z_sl w g o i.toNatClampNeg x) hnd hj (z_sl_2 (o := (g, o)) ho.1) (fun q hq => z_sl_ne (o := (g, o)) hq)
        exact va_last hx hb hK hP (hD rfl w) hS jj 1 he (hty2 g ho.1) (z_in_vp ho.2) hd (fun H1 locs1 k1 _ k3 => kk ls H1 locs1 hl (by rw [← hset]; exact k1) k3)
      · cases hstep
    · cases hstep
  case aastore =>
    simp only [z_step] at hstep
    simp only [Bool.and_eq_true, decide_eq_true_eq] at hchk
    obtain ⟨rfl, hjn⟩ := hchk
    split at hstep
    · rename_i g' v i g o r
      split at hstep
      · rename_i ho
        cases hstep
        obtain ⟨h1, h2, h3, h4⟩ := ho
        subst h3
        obtain ⟨jj, hj⟩ := List.getElem?_of_mem (show (g, o) ∈ S.2.2.2.2 from hv1.t.t.h)
        have he := z_ws_at (fk := fk) (ad := ad) (cA := cA) (w := w) hj
        rw [z_cell_3 (o := (g, o)) h1] at he
        obtain ⟨jv, hjv⟩ := List.getElem?_of_mem (show (S.2.2.2.1, v) ∈ S.2.2.2.2 from hv1.h)
        have hev := z_ws_at (fk := fk) (ad := ad) (cA := cA) (w := w) hjv
        rw [z_cell_o (o := (S.2.2.2.1, v)) h4] at hev
        cases hc : cl[a]? with
        | none => rw [hc] at hjn; cases hjn
        | some r9 =>
          rw [hc] at hjn
          have hjn2 : r9.1 = jn := by simpa using hjn
          have hset := z_ws_set (fk := fk) (ad := ad) (cA := cA) (w := w) (w' := z_sr w g o i.toNatClampNeg v) hnd hj (z_sr_3 (o := (g, o)) h1) (fun q hq => z_sr_ne (o := (g, o)) hq)
          exact va_astq hx hb hK hP (hD rfl w) hS jj 2 jv a he (by rw [hjn2]; exact hty3 g h1) hev hc (z_in_vp h2) hd (fun H1 locs1 k1 _ k3 => kk ls H1 locs1 hl (by rw [← hset]; exact k1) k3)
      · cases hstep
    · cases hstep
  case arraylength =>
    simp only [z_step] at hstep
    simp only [decide_eq_true_eq] at hchk
    subst hchk
    split at hstep
    · rename_i g o r
      split at hstep
      · rename_i ho
        cases hstep
        obtain ⟨jj, hj⟩ := List.getElem?_of_mem (show (g, o) ∈ S.2.2.2.2 from hv1.h)
        have he := z_ws_at (fk := fk) (ad := ad) (cA := cA) (w := w) hj
        rw [z_cell_1 (o := (g, o)) ho] at he
        exact va_alen hx hb hK hP jj 0 he (hty1 g ho) rfl hd (kk ls H locs hl hP hS)
      · cases hstep
    · cases hstep
  case invokestatic i =>
    simp only [z_step] at hstep
    rw [Bool.and_eq_true, decide_eq_true_eq] at hchk
    obtain ⟨rfl, h2⟩ := hchk
    split at hstep
    · unfold z_call at hstep
      split at hstep
      · cases hstep
      · cases hstep
    · rename_i ht
      split at hstep
      · rename_i n dp g' o' sp g o r
        split at hstep
        · rename_i ho
          cases hstep
          have h3 : z_ca Ws own i R.frames R.locals = true := by
            split at h2
            · exact absurd rfl ht
            · exact h2
          unfold z_ca at h3
          simp only [Bool.and_eq_true, decide_eq_true_eq, List.contains_iff_mem] at h3
          obtain ⟨⟨⟨⟨⟨w1, w2⟩, w3⟩, w4⟩, w5⟩, w6⟩ := h3
          obtain ⟨k1, k2, k3, k4, k5, k6, k7, k8⟩ := ho
          have nn : ∀ z : Int32, 0 ≤ z.toInt → ¬ z < 0 ∧ ((z.toNatClampNeg : Nat) : Int) = z.toInt := by
            intro z hz
            refine ⟨fun h => ?_, ?_⟩
            · have := Int32.lt_iff_toInt_lt.mp h
              rw [Int32.toInt_zero] at this
              omega
            · show ((z.toInt.toNat : Nat) : Int) = z.toInt
              omega
          obtain ⟨j0, hj0⟩ := List.getElem?_of_mem (show (g, o) ∈ S.2.2.2.2 from hv1.t.t.t.t.h)
          obtain ⟨j1, hj1⟩ := List.getElem?_of_mem (show (g', o') ∈ S.2.2.2.2 from hv1.t.t.h)
          have he0 := z_ws_at (fk := fk) (ad := ad) (cA := cA) (w := w) hj0
          rw [z_cell_1 (o := (g, o)) k1] at he0
          have he1 := z_ws_at (fk := fk) (ad := ad) (cA := cA) (w := w) hj1
          rw [z_cell_1 (o := (g', o')) k2] at he1
          have hset := z_ws_set (fk := fk) (ad := ad) (cA := cA) (w := w) (w' := z_cp w g o sp.toNatClampNeg g' o' dp.toNatClampNeg n.toNatClampNeg) hnd hj1 (z_cp_1 (o := (g', o')) k2) (fun q hq => z_cp_ne (o := (g', o')) hq)
          have e1 := (nn sp k3).2
          have e2 := (nn dp k4).2
          have e3 := (nn n k5).2
          exact va_copyi hx hb (by rw [hml]; exact hl.1.symm) hown (hts _ (hWs _ w1 rfl)) (hts _ (hWs _ w2 rfl)) (hts _ (hWs _ w3 rfl)) (hts _ (hWs _ w4 rfl)) hK hP (hD (by unfold z_isw; dsimp only; split <;> first | rfl | (exfalso; exact ht rfl)) w) hS j0 j1 0 0 he0 he1 (hty1 g k1) (hty1 g k1) rfl (nn sp k3).1 (nn dp k4).1 (nn n k5).1 (by show _ ≤ S.2.1 g o; omega) (by show _ ≤ S.2.1 g' o'; omega) (fun _ _ => rfl) w5 (by rw [z_cat_map]; omega) hd (fun H1 locs1 k1 _ k3 => kk ls H1 locs1 hl (by rw [← hset]; exact k1) k3)
        · cases hstep
      · cases hstep
  case invokevirtual i =>
    simp only [z_step] at hstep
    unfold z_call at hstep
    split at hstep
    · split at hstep
      · cases hstep
      · split at hstep
        · split at hstep
          · cases hstep
          · cases hstep
        · cases hstep
    · cases hstep
  case ireturn =>
    simp only [z_step] at hstep
    split at hstep
    · split at hstep <;> cases hstep
    · cases hstep
  case lreturn =>
    simp only [z_step] at hstep
    split at hstep <;> cases hstep
  case areturn =>
    simp only [z_step] at hstep
    split at hstep <;> cases hstep
  case return_ =>
    simp only [z_step] at hstep
    split at hstep <;> cases hstep
  all_goals (simp only [z_step] at hstep; cases hstep)
end ZW
end
section
/-! the walk of all methods at once -/
def z_Pc (S : z_S) (fk : Nat → List Nat) (ad : z_N → Nat) (cA : Nat → ClassId) (D : va_G) (cl : List vw_C) (tys : List (ClassId × FieldType)) (Ns : List Jvm.Cond) (as : List z_V) (w : z_W) : Array Value → State → Prop :=
  fun v U => v = (as.map (z_v ad)).toArray ∧ va_P D cl (z_ws S fk ad cA w) U.heap ∧ va_K D cl tys U ∧ ∀ x ∈ Ns, va_Nw x U
def z_Qc (S : z_S) (fk : Nat → List Nat) (ad : z_N → Nat) (cA : Nat → ClassId) (D : va_G) (cl : List vw_C) (A : Nat → Prop) (w : z_W) (r : Option z_V) : Array Value → State → Outcome → State → Prop :=
  fun _ st o t => o = .returned (r.map (z_v ad)) ∧ va_P D cl (z_ws S fk ad cA w) t.heap ∧ va_F A st t
def z_rm (mt : z_M) : Room := { frames := mt.2.2.2.2.2.2.1, cells := 0, slots := 0, locals := mt.2.2.2.2.2.2.2 }
def z_wm (Ts : List Jvm.Cond) (mt : z_M) : List Jvm.Cond := Jvm.Cond.code mt.1 mt.2.1 mt.2.2.1 mt.2.2.2.1 :: Ts
section ZR
variable {p : Program} {l : Launch} {e : Env} {R : Room} {s : State} {m : MethodId} {args : Array Value} {below : List Frame} {meth : Method} {c : Code} {H : Heap} {locs : List Loc}
variable {S : z_S} {fk : Nat → List Nat} {ad : z_N → Nat} {cA : Nat → ClassId} {D : va_G} {cl : List vw_C} {tys : List (ClassId × FieldType)} {A : Nat → Prop} {Ts Ws Ns : List Jvm.Cond} {jn hst own : String} {cc : ByteArray} {rt : Option FieldType} {nM : Nat} {M : Nat → z_M}
set_option maxHeartbeats 4000000 in
set_option maxRecDepth 100000 in
theorem z_ret (hx : p.tables.exec = Jvm.exec) (hb : c.code = cc) (hr : meth.sig.returnType = rt) (hlocks : meth.locks = false) {pc : Nat} {I : z_I} {L : z_L} {st : List z_V} {w : z_W} {rv : Option z_V} {ls : Array Slot}
    (hchk : z_chk cl fk nM M Ws jn hst own cc rt R.frames R.locals pc I = true) (hstep : z_step S M I pc L st w = some (.inr (.inl rv))) (hP : va_P D cl (z_ws S fk ad cA w) H) (hS : va_S A s.heap H locs) :
    W p l e R s m args below meth c H locs 0 0 (MQ below (z_Qc S fk ad cA D cl A w rv) args s 0 0 A) (F0 m pc ls (st.map (z_v ad))) := by
  obtain ⟨ins, len, a, b, t, q, c0, d⟩ := I
  unfold z_chk at hchk
  rw [Bool.and_eq_true, decide_eq_true_eq] at hchk
  obtain ⟨hd, hchk⟩ := hchk
  dsimp only at hd hchk
  cases ins
  case ireturn =>
    simp only [z_step] at hstep
    simp only [Bool.and_eq_true, decide_eq_true_eq] at hchk
    obtain ⟨rfl, h2⟩ := hchk
    split at hstep
    · rename_i x
      split at hstep
      · rename_i ht
        cases hstep
        have hn : narrow (if t = 0 then .int else .boolean) (.int x) = .int x := by
          rcases ht with h | h
          · rw [if_pos h]; rfl
          · by_cases h0 : t = 0
            · rw [if_pos h0]; rfl
            · rw [if_neg h0]
              rcases h with rfl | rfl <;> rfl
        exact W.zret hx hb (hr.trans h2) hn (fun t ht _ => ⟨rfl, by rw [ht]; exact hP, hS.F ht⟩) hS.2.2 hd hlocks
      · cases hstep
    · cases hstep
  case lreturn =>
    simp only [z_step] at hstep
    simp only [Bool.and_eq_true, decide_eq_true_eq] at hchk
    obtain ⟨rfl, h2⟩ := hchk
    split at hstep
    · cases hstep
      exact W.lret hx hb (hr.trans h2) (fun t ht _ => ⟨rfl, by rw [ht]; exact hP, hS.F ht⟩) hS.2.2 hd hlocks
    · cases hstep
  case areturn =>
    simp only [z_step] at hstep
    rw [Bool.and_eq_true, decide_eq_true_eq] at hchk
    obtain ⟨rfl, h2⟩ := hchk
    split at h2
    · rename_i nm
      split at hstep
      · rename_i x
        cases hstep
        cases x with
        | none => exact W.aret hx hb hr (Or.inl ⟨nm, rfl⟩) (Or.inl rfl) (fun t ht _ => ⟨rfl, by rw [ht]; exact hP, hS.F ht⟩) hS.2.2 hd hlocks
        | some x => exact W.aret hx hb hr (Or.inl ⟨nm, rfl⟩) (Or.inr ⟨_, rfl⟩) (fun t ht _ => ⟨rfl, by rw [ht]; exact hP, hS.F ht⟩) hS.2.2 hd hlocks
      · cases hstep
    · cases h2
  case return_ =>
    simp only [z_step] at hstep
    simp only [Bool.and_eq_true, decide_eq_true_eq] at hchk
    obtain ⟨rfl, h2⟩ := hchk
    split at hstep
    · cases hstep
      exact W.vret hx hb (hr.trans h2) (fun t ht _ => ⟨rfl, by rw [ht]; exact hP, hS.F ht⟩) hS.2.2 hd hlocks
    · cases hstep
  case invokevirtual i =>
    simp only [z_step] at hstep
    unfold z_call at hstep
    (repeat' split at hstep) <;> cases hstep
  case invokestatic i =>
    simp only [z_step] at hstep
    unfold z_call at hstep
    (repeat' split at hstep) <;> cases hstep
  all_goals (simp only [z_step] at hstep; (first | (cases hstep; done) | ((repeat' split at hstep) <;> cases hstep)))
/-- what a call is -/
theorem z_call_spec {k n nL mj mi' : Nat} {st as rest : List z_V} (h : z_call S k n nL mj st = some (.inr (.inr (mi', as, rest)))) :
    mi' = mj ∧ st = as.reverse ++ rest ∧ as.length = n ∧ z_cat rest ≤ 8 ∧ (z_args as).length ≤ nL ∧ (k ≠ 0 → ∃ g o as', as = (.inr (.inr (some (g, o)))) :: as' ∧ S.1 g = k) := by
  unfold z_call at h
  split at h
  · rename_i hc
    obtain ⟨h1, h2, h3⟩ := hc
    have hst : st = ((st.take n).reverse).reverse ++ st.drop n := by rw [List.reverse_reverse, List.take_append_drop]
    have hln : ((st.take n).reverse).length = n := by rw [List.length_reverse, List.length_take]; omega
    split at h
    · cases h
      exact ⟨rfl, hst, hln, h2, h3, fun q => absurd rfl q⟩
    · split at h
      · rename_i g o as' he
        split at h
        · rename_i ho
          cases h
          exact ⟨rfl, hst, hln, h2, h3, fun _ => ⟨g, o, as', he, ho⟩⟩
        · cases h
      · cases h
  · cases h
set_option maxHeartbeats 4000000 in
set_option maxRecDepth 100000 in
theorem z_inv {nL pc mj : Nat} {I : z_I} {L : z_L} {st as rest : List z_V} {w w1 : z_W} {r1 : Option z_V} {ls : Array Slot} {Q : State → Prop} (hx : p.tables.exec = Jvm.exec) (hb : c.code = cc) (hown : s.vm.findClass own = some m.cls) (hts : ∀ w ∈ Ts, w.before args s = true) (hWs : ∀ w ∈ Ws, goodWord w = true → w ∈ Ts) (hWN : ∀ w ∈ Ws, z_nest w = true → w ∈ Ns) (hNs : ∀ w ∈ Ns, va_Nw w s) (hK : va_K D cl tys s)
    (hgood : ∀ w ∈ Ts, goodWord w = true) (hNt : ∀ w ∈ Ns, w.onTables = true) (hNm : ∀ w ∈ Ns, ∀ s U : State, s.WarmedH U.vm → va_Nw w s → va_Nw w U)
    (hv1 : z_vs S st) (hMO : ∀ mi, mi < nM → z_MO cl Ts (M mi)) (hml : c.maxLocals = nL) (hls : ls.size = nL)
    (hchk : z_chk cl fk nM M Ws jn hst own cc rt R.frames R.locals pc I = true) (hstep : z_step S M I pc L st w = some (.inr (.inr (mj, as, rest))))
    (hP : va_P D cl (z_ws S fk ad cA w) H) (hS : va_S A s.heap H locs)
    (hMet : mj < nM → (z_args as).length ≤ (M mj).2.2.1 → Met l (M mj).1 (z_wm Ts (M mj)) (z_rm (M mj)) (z_Pc S fk ad cA D cl tys Ns as w) (z_Qc S fk ad cA D cl A w1 r1) 0 0 A)
    (kk : ∀ (H' : Heap) (locs' : List Loc), va_P D cl (z_ws S fk ad cA w1) H' → va_S A s.heap H' locs' → W p l e R s m args below meth c H' locs' 0 0 Q (F0 m (pc + 3) ls ((r1.toList ++ rest).map (z_v ad)))) :
    W p l e R s m args below meth c H locs 0 0 Q (F0 m pc ls (st.map (z_v ad))) := by
  have fin : ∀ (v : Option Value) (st₀ t : State) (H1 : Heap) (locs1 : List Loc), st₀.heap = H → z_Qc S fk ad cA D cl A w1 r1 (as.map (z_v ad)).toArray st₀ (.returned v) t → t.heap = H1 → (∀ x ∈ locs1, x ∈ locs ∨ A x.base) → W p l e R s m args below meth c H1 locs1 0 0 Q (F0 m (pc + 3) ls (v.toList ++ rest.map (z_v ad))) := by
    intro v st₀ t H1 locs1 h0 hq ht hl1
    obtain ⟨q1, q2, q3⟩ := hq
    have hv : v = r1.map (z_v ad) := by cases q1; rfl
    have e1 : v.toList ++ rest.map (z_v ad) = (r1.toList ++ rest).map (z_v ad) := by
      rw [hv, List.map_append]
      cases r1 <;> rfl
    rw [e1]
    refine kk H1 locs1 (by rw [← ht]; exact q2) ⟨?_, ?_, ?_⟩
    · exact Nat.le_trans hS.1 (by rw [← h0, ← ht]; exact q3.1)
    · intro q g1 g2
      rw [← ht, q3.2 q (by rw [h0]; exact Nat.lt_of_lt_of_le g1 hS.1) g2, h0]
      exact hS.2.1 q g1 g2
    · intro x hx1
      rcases hl1 x hx1 with h | h
      · exact hS.2.2 x h
      · exact h
  have blind : FrameBlind (z_Pc S fk ad cA D cl tys Ns as w) := by
    intro a U g mk hq
    obtain ⟨q0, qP, qK, qN⟩ := hq
    exact ⟨q0, qP, va_K.moved (u := U) (U := U.calling g mk a) (Vm.Alike.refl U.vm) qK, fun x hx1 => va_Nw.same (u := U) (U := U.calling g mk a) (hNt x hx1) rfl (qN x hx1)⟩
  have pre : ∀ U : State, U.heap = H → s.WarmedH U.vm → z_Pc S fk ad cA D cl tys Ns as w (as.map (z_v ad)).toArray U := fun U hU hW =>
    ⟨rfl, by rw [hU]; exact hP, va_K.moved hW.alike hK, fun x hx1 => hNm x hx1 s U hW (hNs x hx1)⟩
  obtain ⟨ins, len, a, b, t, q, c0, d⟩ := I
  unfold z_chk at hchk
  rw [Bool.and_eq_true, decide_eq_true_eq] at hchk
  obtain ⟨hd, hchk⟩ := hchk
  dsimp only at hd hchk
  have back : a < nM → (M a).2.2.2.2.2.2.1 + 1 ≤ R.frames → 8 + ((M a).2.2.1 + 11) + (M a).2.2.2.2.2.2.2 ≤ R.locals →
      ((z_rm (M a)).cells = 0 ∧ (z_rm (M a)).slots = 0 ∧ (z_rm (M a)).frames + 1 ≤ R.frames ∧ 8 + ((M a).2.2.1 + 11) + (z_rm (M a)).locals ≤ R.locals ∧ (∀ w ∈ z_wm Ts (M a), ∀ (a' : Array Value) (U : State), s.WarmedH U.vm → w.before a' U = true) ∧ Jvm.Cond.code (M a).1 (M a).2.1 (M a).2.2.1 (M a).2.2.2.1 ∈ z_wm Ts (M a)) := by
    intro h1 h2 h3
    refine ⟨rfl, rfl, h2, h3, ?_, List.mem_cons_self⟩
    intro x hx1 a' U hW
    have hxT : x ∈ Ts := by
      rcases List.mem_cons.mp hx1 with rfl | h
      · exact (hMO a h1).2.2.1
      · exact h
    exact word_at hW (good_of_word (hgood x hxT)) (hts x hxT)
  cases ins
  case invokevirtual i =>
    simp only [z_step] at hstep
    obtain ⟨rfl, hstk, hlen, hcat, hargs, hrecv⟩ := z_call_spec hstep
    simp only [Bool.and_eq_true, decide_eq_true_eq] at hchk
    obtain ⟨⟨⟨rfl, h2⟩, h3⟩, h4⟩ := hchk
    unfold z_cr at h3
    simp only [Bool.and_eq_true, decide_eq_true_eq] at h3
    obtain ⟨⟨r1', r2⟩, r3⟩ := h3
    obtain ⟨m1, m2, m3, m4, m5, m6, m7⟩ := hMO mj r1'
    obtain ⟨m8, m9, ci, T, N, m10, m11⟩ := m7 h4
    obtain ⟨g, o, as', rfl, ho⟩ := hrecv h4
    have hin : (g, o) ∈ S.2.2.2.2 := hv1 (.inr (.inr (some (g, o)))) (by rw [hstk]; simp)
    obtain ⟨jj, hj⟩ := List.getElem?_of_mem hin
    have he := z_ws_at (fk := fk) (ad := ad) (cA := cA) (w := w) hj
    rw [z_cell_o (o := (g, o)) (a := ci) (by rw [ho]; exact m10)] at he
    have hcell := va_recv hK hP m11 he
    have hpar : ∀ sig, parseMethodDescriptor (M mj).1.desc = some sig → as'.length = sig.parameters.length := by
      intro sig hsig
      have := m5 sig hsig
      rw [if_neg h4] at this
      simp only [List.length_cons] at hlen
      omega
    have hstack : (st.map (z_v ad)) = (as'.map (z_v ad)).reverse ++ Value.ref (ad (g, o)) :: rest.map (z_v ad) := by
      rw [hstk]
      simp [z_v]
    have hbk := back r1' r2 r3
    by_cases hq : q % 2 = 0
    · unfold z_cl at h2
      rw [if_pos hq, decide_eq_true_eq] at h2
      exact z_wcall (va_runV (As := as'.map (z_v ad)) (b := ad (g, o)) (C := (M mj).1.cls) (index := i) (bytes := (M mj).2.1) (maxL := (M mj).2.2.1) (ret := (M mj).2.2.2.1) (n := as'.length) ⟨hx, hb, hml, hown, hts⟩ (hMet r1' hargs)
        ⟨⟨hbk.1, hbk.2.1, hbk.2.2.1, hbk.2.2.2.1, hbk.2.2.2.2.1, hbk.2.2.2.2.2, hts _ m3, hts _ m4, m2, hpar, hts _ (hWs _ (List.mem_of_getElem? h2) rfl)⟩, hts _ m8, hts _ m9⟩
        ⟨blind, hcell, pre⟩ rfl (by simp) hls hstack (lv_room (by rw [z_cat_map]; exact hcat)) hd ⟨Nat.zero_le _, Nat.zero_le _⟩) fin
    · unfold z_cl at h2
      rw [if_neg hq, decide_eq_true_eq] at h2
      exact z_wcall (va_runVN (As := as'.map (z_v ad)) (b := ad (g, o)) (C := (M mj).1.cls) (index := i) (host := hst) (bytes := (M mj).2.1) (maxL := (M mj).2.2.1) (ret := (M mj).2.2.2.1) (n := as'.length) ⟨hx, hb, hml, hown, hts⟩ (hMet r1' hargs)
        ⟨⟨hbk, hts _ m3, hts _ m4, m2, hpar, va_Nw.use rfl (hNs _ (hWN _ (List.mem_of_getElem? h2) rfl))⟩, hts _ m8, hts _ m9⟩
        ⟨blind, hcell, pre⟩ rfl (by simp) hls hstack (lv_room (by rw [z_cat_map]; exact hcat)) hd ⟨Nat.zero_le _, Nat.zero_le _⟩) fin
  case invokestatic i =>
    simp only [z_step] at hstep
    rw [Bool.and_eq_true, decide_eq_true_eq] at hchk
    obtain ⟨rfl, h2⟩ := hchk
    split at hstep
    · obtain ⟨rfl, hstk, hlen, hcat, hargs, -⟩ := z_call_spec hstep
      simp only [Bool.and_eq_true, decide_eq_true_eq] at h2
      obtain ⟨⟨h2, h3⟩, h4⟩ := h2
      unfold z_cr at h3
      simp only [Bool.and_eq_true, decide_eq_true_eq] at h3
      obtain ⟨⟨r1', r2⟩, r3⟩ := h3
      obtain ⟨m1, m2, m3, m4, m5, m6, m7⟩ := hMO mj r1'
      have hpar : ∀ sig, parseMethodDescriptor (M mj).1.desc = some sig → as.length = sig.parameters.length := by
        intro sig hsig
        have := m5 sig hsig
        rw [if_pos h4] at this
        omega
      have hstack : (st.map (z_v ad)) = (as.map (z_v ad)).reverse ++ rest.map (z_v ad) := by
        rw [hstk]
        simp
      have hbk := back r1' r2 r3
      by_cases hq : q % 2 = 0
      · unfold z_cl at h2
        rw [if_pos hq, decide_eq_true_eq] at h2
        exact z_wcall (va_runS (As := as.map (z_v ad)) (index := i) (bytes := (M mj).2.1) (maxL := (M mj).2.2.1) (ret := (M mj).2.2.2.1) (n := as.length) ⟨hx, hb, hml, hown, hts⟩ (hMet r1' hargs)
          ⟨⟨hbk.1, hbk.2.1, hbk.2.2.1, hbk.2.2.2.1, hbk.2.2.2.2.1, hbk.2.2.2.2.2, hts _ m3, hts _ m4, m2, hpar, hts _ (hWs _ (List.mem_of_getElem? h2) rfl)⟩, hts _ (m6 h4)⟩
          ⟨blind, pre⟩ rfl (by simp) hls hstack (lv_room (by rw [z_cat_map]; exact hcat)) hd ⟨Nat.zero_le _, Nat.zero_le _⟩) fin
      · unfold z_cl at h2
        rw [if_neg hq, decide_eq_true_eq] at h2
        exact z_wcall (va_runSN (As := as.map (z_v ad)) (index := i) (host := hst) (bytes := (M mj).2.1) (maxL := (M mj).2.2.1) (ret := (M mj).2.2.2.1) (n := as.length) ⟨hx, hb, hml, hown, hts⟩ (hMet r1' hargs)
          ⟨⟨hbk, hts _ m3, hts _ m4, m2, hpar, va_Nw.use rfl (hNs _ (hWN _ (List.mem_of_getElem? h2) rfl))⟩, hts _ (m6 h4), trivial⟩
          ⟨blind, pre⟩ rfl (by simp) hls hstack (lv_room (by rw [z_cat_map]; exact hcat)) hd ⟨Nat.zero_le _, Nat.zero_le _⟩) fin
    · (repeat' split at hstep) <;> cases hstep
  all_goals (simp only [z_step] at hstep; (first | (cases hstep; done) | ((repeat' split at hstep) <;> cases hstep)))
end ZR
section ZP
variable {S : z_S} {M : Nat → z_M} {I : z_I} {pc pc' : Nat} {L L' : z_L} {st st' : List z_V} {w w' : z_W}
set_option maxHeartbeats 4000000 in
set_option maxRecDepth 100000 in
theorem z_pres (hrr : ∀ o ∈ S.2.2.2.2, ∀ k, S.2.2.1 o.1 o.2 k ∈ S.2.2.2.2) (hstep : z_step S M I pc L st w = some (.inl (pc', L', st', w'))) (h1 : z_vs S st) (h2 : z_vL S L) (h3 : z_vw S w) : z_vs S st' ∧ z_vL S L' ∧ z_vw S w' := by
  obtain ⟨ins, len, a, b, t, q, c0, d⟩ := I
  cases ins
  case aload_n k =>
    simp only [z_step] at hstep
    split at hstep
    · rename_i x hv
      cases hstep
      exact ⟨z_vs.c (h2.ld hv) h1, h2, h3⟩
    · cases hstep
  case aload k =>
    simp only [z_step] at hstep
    split at hstep
    · rename_i x hv
      cases hstep
      exact ⟨z_vs.c (h2.ld hv) h1, h2, h3⟩
    · cases hstep
  case getfield i =>
    simp only [z_step] at hstep
    split at hstep
    · rename_i g o r
      split at hstep
      · split at hstep
        · cases hstep
          exact ⟨z_vs.c (hrr (g, o) h1.h b) h1.t, h2, h3⟩
        · cases hstep
          exact ⟨z_vs.c trivial h1.t, h2, h3⟩
      · cases hstep
    · cases hstep
  case aaload =>
    simp only [z_step] at hstep
    split at hstep
    · split at hstep
      · cases hstep
        exact ⟨z_vs.c (h3 _ _ _) h1.t.t, h2, h3⟩
      · cases hstep
    · cases hstep
  case aastore =>
    simp only [z_step] at hstep
    split at hstep
    · rename_i g' v i g o r
      split at hstep
      · rename_i ho
        cases hstep
        refine ⟨h1.t.t.t, h2, fun x y z => ?_⟩
        show (S.2.2.2.1, (z_sr w g o i.toNatClampNeg v).2.2 x y z) ∈ S.2.2.2.2
        unfold z_sr
        dsimp only
        split
        · have := h1.h
          rw [ho.2.2.1] at this
          exact this
        · exact h3 _ _ _
      · cases hstep
    · cases hstep
  case invokevirtual i =>
    simp only [z_step] at hstep
    unfold z_call at hstep
    (repeat' split at hstep) <;> cases hstep
  case invokestatic i =>
    simp only [z_step] at hstep
    unfold z_call at hstep
    (repeat' split at hstep) <;> first | (cases hstep; done) | (cases hstep; exact ⟨h1.t.t.t.t.t, h2, h3⟩)
  case dup =>
    simp only [z_step] at hstep
    split at hstep
    · cases hstep
      exact ⟨z_vs.c trivial h1, h2, h3⟩
    · cases hstep
      exact ⟨z_vs.c h1.h h1, h2, h3⟩
    · cases hstep
  case dup2 =>
    simp only [z_step] at hstep
    split at hstep
    · cases hstep
      exact ⟨z_vs.c trivial (z_vs.c h1.t.h h1), h2, h3⟩
    · cases hstep
  all_goals
    simp only [z_step] at hstep
    (repeat' split at hstep) <;> first
      | (cases hstep; done)
      | (cases hstep; first
        | exact ⟨h1, h2, h3⟩
        | exact ⟨h1.t, h2, h3⟩
        | exact ⟨h1.t.t, h2, h3⟩
        | exact ⟨h1.t.t.t, h2, h3⟩
        | exact ⟨z_vs.c trivial h1, h2, h3⟩
        | exact ⟨z_vs.c trivial h1.t, h2, h3⟩
        | exact ⟨z_vs.c trivial h1.t.t, h2, h3⟩
        | exact ⟨h1.t, h2.st1 trivial, h3⟩
        | exact ⟨h1.t, h2.st1 h1.h, h3⟩
        | exact ⟨h1.t, h2.st2 trivial, h3⟩
        | exact ⟨h1, h2.st1 trivial, h3⟩)
end ZP
section ZQ
variable {S : z_S} {M : Nat → z_M} {I : z_I} {pc : Nat} {L : z_L} {st : List z_V} {w : z_W}
set_option maxHeartbeats 4000000 in
set_option maxRecDepth 100000 in
theorem z_retv {rv : Option z_V} (hstep : z_step S M I pc L st w = some (.inr (.inl rv))) (h1 : z_vs S st) : z_vs S rv.toList := by
  obtain ⟨ins, len, a, b, t, q, c0, d⟩ := I
  cases ins
  case ireturn =>
    simp only [z_step] at hstep
    (repeat' split at hstep) <;> first | (cases hstep; done) | (cases hstep; exact z_vs.c trivial (fun _ h => by cases h))
  case lreturn =>
    simp only [z_step] at hstep
    (repeat' split at hstep) <;> first | (cases hstep; done) | (cases hstep; exact z_vs.c trivial (fun _ h => by cases h))
  case areturn =>
    simp only [z_step] at hstep
    (repeat' split at hstep) <;> first | (cases hstep; done) | (cases hstep; exact h1)
  case return_ =>
    simp only [z_step] at hstep
    (repeat' split at hstep) <;> first | (cases hstep; done) | (cases hstep; exact fun _ h => by cases h)
  case invokevirtual i =>
    simp only [z_step] at hstep
    unfold z_call at hstep
    (repeat' split at hstep) <;> cases hstep
  case invokestatic i =>
    simp only [z_step] at hstep
    unfold z_call at hstep
    (repeat' split at hstep) <;> cases hstep
  all_goals (simp only [z_step] at hstep; (first | (cases hstep; done) | ((repeat' split at hstep) <;> cases hstep)))
set_option maxHeartbeats 4000000 in
set_option maxRecDepth 100000 in
theorem z_callv {mj : Nat} {as rest : List z_V} (hstep : z_step S M I pc L st w = some (.inr (.inr (mj, as, rest)))) (h1 : z_vs S st) : z_vs S as ∧ z_vs S rest := by
  have key : ∀ k n nL a, z_call S k n nL a st = some (.inr (.inr (mj, as, rest))) → z_vs S as ∧ z_vs S rest := by
    intro k n nL a h
    obtain ⟨-, hst, -⟩ := z_call_spec h
    subst hst
    exact ⟨fun v hv => h1 v (List.mem_append_left _ (List.mem_reverse.mpr hv)), fun v hv => h1 v (List.mem_append_right _ hv)⟩
  obtain ⟨ins, len, a, b, t, q, c0, d⟩ := I
  cases ins
  case invokevirtual i =>
    simp only [z_step] at hstep
    exact key _ _ _ _ hstep
  case invokestatic i =>
    simp only [z_step] at hstep
    split at hstep
    · exact key _ _ _ _ hstep
    · (repeat' split at hstep) <;> cases hstep
  all_goals (simp only [z_step] at hstep; (first | (cases hstep; done) | ((repeat' split at hstep) <;> cases hstep)))
end ZQ
section ZMAIN
variable {l : Launch} {S : z_S} {fk : Nat → List Nat} {ad : z_N → Nat} {cA : Nat → ClassId} {D : va_G} {cl : List vw_C} {tys : List (ClassId × FieldType)} {A : Nat → Prop} {Ts Ws Ns : List Jvm.Cond} {jn hst : String} {nM : Nat} {M : Nat → z_M} {C : Nat → Nat → Option z_I}
/-- what is true of a side, whatever its world -/
def z_OK (S : z_S) (fk : Nat → List Nat) (ad : z_N → Nat) (cA : Nat → ClassId) (cl : List vw_C) (tys : List (ClassId × FieldType)) (A : Nat → Prop) (Ts Ws Ns : List Jvm.Cond) (jn hst : String) (nM : Nat) (M : Nat → z_M) (C : Nat → Nat → Option z_I) : Prop :=
  ((∀ w ∈ Ws, goodWord w = true → w ∈ Ts) ∧ ∀ w ∈ Ws, z_nest w = true → w ∈ Ns) ∧ (∀ w ∈ Ts, goodWord w = true) ∧ (∀ w ∈ Ns, w.onTables = true) ∧ (∀ w ∈ Ns, ∀ s U : State, s.WarmedH U.vm → va_Nw w s → va_Nw w U) ∧
  (S.2.2.2.2.Nodup ∧ ∀ o ∈ S.2.2.2.2, ∀ k, S.2.2.1 o.1 o.2 k ∈ S.2.2.2.2) ∧ ((∀ o, S.1 o = 1 → tys[0]? = some (cA 0, .int)) ∧ (∀ o, S.1 o = 2 → tys[1]? = some (cA 1, .long)) ∧ (∀ o, S.1 o = 3 → tys[2]? = some (cA 2, .object jn))) ∧
  z_CL cl fk Ts ∧ (∀ mi pc I, mi < nM → C mi pc = some I → z_isw I = true → ∀ w, va_D A (z_ws S fk ad cA w)) ∧ (∀ mi, mi < nM → z_MO cl Ts (M mi)) ∧
  (∀ mi pc I, mi < nM → C mi pc = some I → z_chk cl fk nM M Ws jn hst (M mi).1.cls (M mi).2.1 (M mi).2.2.2.1 (M mi).2.2.2.2.2.2.1 (M mi).2.2.2.2.2.2.2 pc I = true)
def z_WR (l : Launch) (S : z_S) (fk : Nat → List Nat) (ad : z_N → Nat) (cA : Nat → ClassId) (D : va_G) (cl : List vw_C) (tys : List (ClassId × FieldType)) (A : Nat → Prop) (Ts Ns : List Jvm.Cond) (nM : Nat) (M : Nat → z_M) (C : Nat → Nat → Option z_I) (n : Nat) : Prop :=
  ∀ (p : Program) (e : Env) (s : State) (m : MethodId) (args : Array Value) (below : List Frame) (meth : Method) (c : Code) (mi : Nat), mi < nM → p.tables.exec = Jvm.exec → c.code = (M mi).2.1 → c.maxLocals = (M mi).2.2.1 → meth.sig.returnType = (M mi).2.2.2.1 → meth.locks = false → s.vm.findClass (M mi).1.cls = some m.cls → (∀ w ∈ Ts, w.before args s = true) → (∀ w ∈ Ns, va_Nw w s) → va_K D cl tys s →
    ∀ (f : z_F) (w' : z_W) (r : Option z_V), z_run S M C n mi f = some (w', r) → z_vs S f.2.2.1 → z_vL S f.2.1 → z_vw S f.2.2.2 → ∀ (ls : Array Slot) (H : Heap) (locs : List Loc), z_hl ad ls (M mi).2.2.1 f.2.1 → va_P D cl (z_ws S fk ad cA f.2.2.2) H → va_S A s.heap H locs →
      W p l e (z_rm (M mi)) s m args below meth c H locs 0 0 (MQ below (z_Qc S fk ad cA D cl A w' r) args s 0 0 A) (F0 m f.1 ls (f.2.2.1.map (z_v ad)))
theorem z_met {n : Nat} (IH : z_WR l S fk ad cA D cl tys A Ts Ns nM M C n) (ok : z_OK S fk ad cA cl tys A Ts Ws Ns jn hst nM M C) {mi : Nat} (hmi : mi < nM) {as : List z_V} {w w' : z_W} {r : Option z_V}
    (h : z_run S M C n mi (0, z_entry (M mi).2.2.1 as, [], w) = some (w', r)) (hal : (z_args as).length ≤ (M mi).2.2.1) (hva : z_vs S as) (hvw : z_vw S w) :
    Met l (M mi).1 (z_wm Ts (M mi)) (z_rm (M mi)) (z_Pc S fk ad cA D cl tys Ns as w) (z_Qc S fk ad cA D cl A w' r) 0 0 A := by
  obtain ⟨o1, o2, o3, o4, o5, o6, o7, o8, o9, o10⟩ := ok
  refine Met.ofW (cc := (M mi).2.1) (maxL := (M mi).2.2.1) (ret := (M mi).2.2.2.1) (o9 mi hmi).1 rfl ?_
  intro p e s m args below meth c s₁ B hml hv
  obtain ⟨rfl, hP, hK, hN⟩ := hv
  have hts := atoms_spec (ws := z_wm Ts (M mi)) B.pre
  rw [lg_entry_eq]
  exact IH p e s m _ below meth c mi hmi B.exec B.bytes hml B.returns B.notSynchronized (findClass_of_methodNamed B.named) (fun w hw => hts w (List.mem_cons_of_mem _ hw)) hN hK (0, z_entry (M mi).2.2.1 as, [], w) w' r h (fun _ hx => by cases hx) (z_vL.entry hva) hvw _ _ [] (z_entry_hl ad as hal) hP va_S.rf
/-- a run keeps references among the names -/
theorem z_keep (hrr : ∀ o ∈ S.2.2.2.2, ∀ k, S.2.2.1 o.1 o.2 k ∈ S.2.2.2.2) : ∀ (n mi : Nat) (f : z_F) (w' : z_W) (r : Option z_V), z_run S M C n mi f = some (w', r) → z_vs S f.2.2.1 → z_vL S f.2.1 → z_vw S f.2.2.2 → z_vw S w' ∧ z_vs S r.toList := by
  intro n
  induction n with
  | zero => intro mi f w' r h; cases h
  | succ n ih =>
    intro mi f w' r h h1 h2 h3
    obtain ⟨pc, L, st, w⟩ := f
    rw [z_run] at h
    cases hC : C mi pc with
    | none => rw [hC] at h; cases h
    | some I =>
      rw [hC] at h
      dsimp only at h h1 h2 h3
      cases hs : z_step S M I pc L st w with
      | none => rw [hs] at h; cases h
      | some z =>
        rw [hs] at h
        rcases z with f1 | rv | ⟨mj, as, rest⟩
        · dsimp only at h
          obtain ⟨pc', L', st', w1⟩ := f1
          obtain ⟨a1, a2, a3⟩ := z_pres hrr hs h1 h2 h3
          exact ih mi _ w' r h a1 a2 a3
        · dsimp only at h
          cases h
          exact ⟨h3, z_retv hs h1⟩
        · dsimp only at h
          obtain ⟨g1, g2⟩ := z_callv hs h1
          cases hr : z_run S M C n mj (0, z_entry (M mj).2.2.1 as, [], w) with
          | none => rw [hr] at h; cases h
          | some y =>
            obtain ⟨w1, r1⟩ := y
            rw [hr] at h
            obtain ⟨b1, b2⟩ := ih mj _ w1 r1 hr (fun _ hx => by cases hx) (z_vL.entry g1) h3
            refine ih mi _ w' r h (fun v hv => ?_) h2 b1
            rcases List.mem_append.mp hv with hv | hv
            · exact b2 v hv
            · exact g2 v hv
theorem z_wr (ok : z_OK S fk ad cA cl tys A Ts Ws Ns jn hst nM M C) : ∀ n, z_WR l S fk ad cA D cl tys A Ts Ns nM M C n := by
  intro n
  induction n with
  | zero =>
    intro p e s m args below meth c mi hmi hx hb hml hr hlk hown hts hNs hK f w' r h
    cases h
  | succ n ih =>
    intro p e s m args below meth c mi hmi hx hb hml hr hlk hown hts hNs hK f w' r h hv1 hv2 hv3 ls H locs hl hP hS
    obtain ⟨pc, L, st, w⟩ := f
    have ok' := ok
    obtain ⟨⟨o1, o1n⟩, o2, o3, o4, ⟨o5, o5r⟩, ⟨o6a, o6b, o6c⟩, o7, o8, o9, o10⟩ := ok'
    dsimp only at hv1 hv2 hv3 hl hP
    rw [z_run] at h
    cases hC : C mi pc with
    | none => rw [hC] at h; cases h
    | some I =>
      rw [hC] at h
      dsimp only at h
      have hchk := o10 mi pc I hmi hC
      cases hst0 : z_step S M I pc L st w with
      | none => rw [hst0] at h; cases h
      | some z =>
        rw [hst0] at h
        rcases z with f1 | rv | ⟨mj, as, rest⟩
        · dsimp only at h
          obtain ⟨pc', L', st', w1⟩ := f1
          obtain ⟨a1, a2, a3⟩ := z_pres o5r hst0 hv1 hv2 hv3
          exact z_next (R := z_rm (M mi)) hx hb hown hts o1 o1n hNs hK o5 o6a o6b o6c o7 (o8 mi pc I hmi hC) hml hchk hst0 hl hv1 hP hS (fun ls' H' locs' b1 b2 b3 => ih p e s m args below meth c mi hmi hx hb hml hr hlk hown hts hNs hK (pc', L', st', w1) w' r h a1 a2 a3 ls' H' locs' b1 b2 b3)
        · dsimp only at h
          cases h
          exact z_ret (R := z_rm (M mi)) hx hb hr hlk hchk hst0 hP hS
        · dsimp only at h
          obtain ⟨g1, g2⟩ := z_callv hst0 hv1
          cases hrun : z_run S M C n mj (0, z_entry (M mj).2.2.1 as, [], w) with
          | none => rw [hrun] at h; cases h
          | some y =>
            obtain ⟨w1, r1⟩ := y
            rw [hrun] at h
            dsimp only at h
            obtain ⟨b1, b2⟩ := z_keep o5r n mj _ w1 r1 hrun (fun _ hx => by cases hx) (z_vL.entry g1) hv3
            exact z_inv (R := z_rm (M mi)) hx hb hown hts o1 o1n hNs hK o2 o3 o4 hv1 o9 hml hl.1 hchk hst0 hP hS (fun hj ha => z_met ih ok hj hrun ha g1 hv3) (fun H' locs' a2 a3 => ih p e s m args below meth c mi hmi hx hb hml hr hlk hown hts hNs hK (pc + 3, L, r1.toList ++ rest, w1) w' r h (fun v hv => by
              rcases List.mem_append.mp hv with hv | hv
              · exact b2 v hv
              · exact g2 v hv) hv2 b1 ls H' locs' hl a2 a3)
/-- a method's contract is its run in the abstract machine -/
theorem z_main (ok : z_OK S fk ad cA cl tys A Ts Ws Ns jn hst nM M C) {n mi : Nat} (hmi : mi < nM) {as : List z_V} {w w' : z_W} {r : Option z_V}
    (h : z_run S M C n mi (0, z_entry (M mi).2.2.1 as, [], w) = some (w', r)) (hal : (z_args as).length ≤ (M mi).2.2.1) (hva : z_vs S as) (hvw : z_vw S w) :
    Met l (M mi).1 (z_wm Ts (M mi)) (z_rm (M mi)) (z_Pc S fk ad cA D cl tys Ns as w) (z_Qc S fk ad cA D cl A w' r) 0 0 A := z_met (z_wr ok n) ok hmi h hal hva hvw
end ZMAIN
end
