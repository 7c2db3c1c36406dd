section
-- ===== PART A: goes FIRST, ahead of the names: the tables' words, and 'selects' of the private methods out of them =====
/-- a private method of a class that the tables say can be made, by its rows of tables_1 -/
def lw_okq (q : MethodName × Nat) : Prop := (q.1.cls ≠ "java/lang/invoke/MethodHandle" ∧ q.1.cls ≠ "java/lang/invoke/VarHandle") ∧ Cond.instantiable q.1.cls q.2 ∈ tables_1 ∧ Cond.privateMethod q.1 ∈ tables_1 ∧ Cond.instanceMethod q.1 ∈ tables_1
theorem lw_p0 : lw_okq (⟨"ReadBins$Barcodes", "distance", "(ILReadBins$Row;)I"⟩, 5) := ⟨⟨by decide +kernel, by decide +kernel⟩, List.mem_of_getElem? (i := 93) (by decide +kernel), List.mem_of_getElem? (i := 267) (by decide +kernel), List.mem_of_getElem? (i := 268) (by decide +kernel)⟩
theorem lw_p1 : lw_okq (⟨"ReadBins$Barcodes", "keep", "(LReadBins$Row;)V"⟩, 5) := ⟨⟨by decide +kernel, by decide +kernel⟩, List.mem_of_getElem? (i := 93) (by decide +kernel), List.mem_of_getElem? (i := 275) (by decide +kernel), List.mem_of_getElem? (i := 276) (by decide +kernel)⟩
theorem lw_p2 : lw_okq (⟨"java/lang/Throwable", "fillInStackTrace", "(I)Ljava/lang/Throwable;"⟩, 6) := ⟨⟨by decide +kernel, by decide +kernel⟩, List.mem_of_getElem? (i := 370) (by decide +kernel), List.mem_of_getElem? (i := 368) (by decide +kernel), List.mem_of_getElem? (i := 369) (by decide +kernel)⟩
theorem lw_p3 : lw_okq (⟨"ReadBins$Parser", "enter", "(I)I"⟩, 5) := ⟨⟨by decide +kernel, by decide +kernel⟩, List.mem_of_getElem? (i := 44) (by decide +kernel), List.mem_of_getElem? (i := 421) (by decide +kernel), List.mem_of_getElem? (i := 422) (by decide +kernel)⟩
theorem lw_p4 : lw_okq (⟨"ReadBins$Parser", "step", "(I)I"⟩, 5) := ⟨⟨by decide +kernel, by decide +kernel⟩, List.mem_of_getElem? (i := 44) (by decide +kernel), List.mem_of_getElem? (i := 427) (by decide +kernel), List.mem_of_getElem? (i := 428) (by decide +kernel)⟩
theorem lw_p5 : lw_okq (⟨"ReadBins$Parser", "stepMark", "(I)I"⟩, 5) := ⟨⟨by decide +kernel, by decide +kernel⟩, List.mem_of_getElem? (i := 44) (by decide +kernel), List.mem_of_getElem? (i := 431) (by decide +kernel), List.mem_of_getElem? (i := 432) (by decide +kernel)⟩
theorem lw_p6 : lw_okq (⟨"ReadBins$Parser", "stepName", "(I)I"⟩, 5) := ⟨⟨by decide +kernel, by decide +kernel⟩, List.mem_of_getElem? (i := 44) (by decide +kernel), List.mem_of_getElem? (i := 444) (by decide +kernel), List.mem_of_getElem? (i := 445) (by decide +kernel)⟩
theorem lw_p7 : lw_okq (⟨"ReadBins$Parser", "last", "()I"⟩, 5) := ⟨⟨by decide +kernel, by decide +kernel⟩, List.mem_of_getElem? (i := 44) (by decide +kernel), List.mem_of_getElem? (i := 448) (by decide +kernel), List.mem_of_getElem? (i := 449) (by decide +kernel)⟩
theorem lw_p8 : lw_okq (⟨"ReadBins$Parser", "stepLetters", "(I)I"⟩, 5) := ⟨⟨by decide +kernel, by decide +kernel⟩, List.mem_of_getElem? (i := 44) (by decide +kernel), List.mem_of_getElem? (i := 468) (by decide +kernel), List.mem_of_getElem? (i := 469) (by decide +kernel)⟩
theorem lw_p9 : lw_okq (⟨"ReadBins$Parser", "mayEndHere", "()Z"⟩, 5) := ⟨⟨by decide +kernel, by decide +kernel⟩, List.mem_of_getElem? (i := 44) (by decide +kernel), List.mem_of_getElem? (i := 472) (by decide +kernel), List.mem_of_getElem? (i := 473) (by decide +kernel)⟩
theorem lw_p10 : lw_okq (⟨"ReadBins$Parser", "stepBehindPlus", "(I)I"⟩, 5) := ⟨⟨by decide +kernel, by decide +kernel⟩, List.mem_of_getElem? (i := 44) (by decide +kernel), List.mem_of_getElem? (i := 488) (by decide +kernel), List.mem_of_getElem? (i := 489) (by decide +kernel)⟩
theorem lw_p11 : lw_okq (⟨"ReadBins$Parser", "stepQualities", "(I)I"⟩, 5) := ⟨⟨by decide +kernel, by decide +kernel⟩, List.mem_of_getElem? (i := 44) (by decide +kernel), List.mem_of_getElem? (i := 497) (by decide +kernel), List.mem_of_getElem? (i := 498) (by decide +kernel)⟩
theorem lw_p12 : lw_okq (⟨"ReadBins$Parser", "isWhole", "()Z"⟩, 5) := ⟨⟨by decide +kernel, by decide +kernel⟩, List.mem_of_getElem? (i := 44) (by decide +kernel), List.mem_of_getElem? (i := 505) (by decide +kernel), List.mem_of_getElem? (i := 506) (by decide +kernel)⟩
theorem lw_p13 : lw_okq (⟨"ReadBins", "sortRead", "(II)V"⟩, 8) := ⟨⟨by decide +kernel, by decide +kernel⟩, List.mem_of_getElem? (i := 19) (by decide +kernel), List.mem_of_getElem? (i := 575) (by decide +kernel), List.mem_of_getElem? (i := 576) (by decide +kernel)⟩
theorem lw_p14 : lw_okq (⟨"ReadBins$Reads", "hasLetter", "(II)Z"⟩, 6) := ⟨⟨by decide +kernel, by decide +kernel⟩, List.mem_of_getElem? (i := 50) (by decide +kernel), List.mem_of_getElem? (i := 589) (by decide +kernel), List.mem_of_getElem? (i := 590) (by decide +kernel)⟩
theorem lw_p15 : lw_okq (⟨"ReadBins$Trimmer", "cutAdapter", "(LReadBins$Reads;I)V"⟩, 6) := ⟨⟨by decide +kernel, by decide +kernel⟩, List.mem_of_getElem? (i := 117) (by decide +kernel), List.mem_of_getElem? (i := 599) (by decide +kernel), List.mem_of_getElem? (i := 600) (by decide +kernel)⟩
def lw_privs_1 : List (MethodName × Nat) := [(⟨"ReadBins$Barcodes", "distance", "(ILReadBins$Row;)I"⟩, 5), (⟨"ReadBins$Barcodes", "keep", "(LReadBins$Row;)V"⟩, 5), (⟨"java/lang/Throwable", "fillInStackTrace", "(I)Ljava/lang/Throwable;"⟩, 6), (⟨"ReadBins$Parser", "enter", "(I)I"⟩, 5), (⟨"ReadBins$Parser", "step", "(I)I"⟩, 5), (⟨"ReadBins$Parser", "stepMark", "(I)I"⟩, 5), (⟨"ReadBins$Parser", "stepName", "(I)I"⟩, 5), (⟨"ReadBins$Parser", "last", "()I"⟩, 5), (⟨"ReadBins$Parser", "stepLetters", "(I)I"⟩, 5), (⟨"ReadBins$Parser", "mayEndHere", "()Z"⟩, 5), (⟨"ReadBins$Parser", "stepBehindPlus", "(I)I"⟩, 5), (⟨"ReadBins$Parser", "stepQualities", "(I)I"⟩, 5), (⟨"ReadBins$Parser", "isWhole", "()Z"⟩, 5), (⟨"ReadBins", "sortRead", "(II)V"⟩, 8), (⟨"ReadBins$Reads", "hasLetter", "(II)Z"⟩, 6), (⟨"ReadBins$Trimmer", "cutAdapter", "(LReadBins$Reads;I)V"⟩, 6)]
theorem lw_r1 : ∀ q ∈ lw_privs_1, lw_okq q := List.forall_mem_cons.mpr ⟨lw_p0, List.forall_mem_cons.mpr ⟨lw_p1, List.forall_mem_cons.mpr ⟨lw_p2, List.forall_mem_cons.mpr ⟨lw_p3, List.forall_mem_cons.mpr ⟨lw_p4, List.forall_mem_cons.mpr ⟨lw_p5, List.forall_mem_cons.mpr ⟨lw_p6, List.forall_mem_cons.mpr ⟨lw_p7, List.forall_mem_cons.mpr ⟨lw_p8, List.forall_mem_cons.mpr ⟨lw_p9, List.forall_mem_cons.mpr ⟨lw_p10, List.forall_mem_cons.mpr ⟨lw_p11, List.forall_mem_cons.mpr ⟨lw_p12, List.forall_mem_cons.mpr ⟨lw_p13, List.forall_mem_cons.mpr ⟨lw_p14, List.forall_mem_cons.mpr ⟨lw_p15, fun _ h => absurd h List.not_mem_nil⟩⟩⟩⟩⟩⟩⟩⟩⟩⟩⟩⟩⟩⟩⟩⟩
theorem lw_p16 : lw_okq (⟨"ReadBins$Trimmer", "adapterBegins", "(LReadBins$Reads;II)Z"⟩, 6) := ⟨⟨by decide +kernel, by decide +kernel⟩, List.mem_of_getElem? (i := 117) (by decide +kernel), List.mem_of_getElem? (i := 603) (by decide +kernel), List.mem_of_getElem? (i := 604) (by decide +kernel)⟩
theorem lw_p17 : lw_okq (⟨"ReadBins$Trimmer", "cutWorstEnd", "(LReadBins$Reads;I)V"⟩, 6) := ⟨⟨by decide +kernel, by decide +kernel⟩, List.mem_of_getElem? (i := 117) (by decide +kernel), List.mem_of_getElem? (i := 610) (by decide +kernel), List.mem_of_getElem? (i := 611) (by decide +kernel)⟩
theorem lw_p18 : lw_okq (⟨"ReadBins$Trimmer", "cutWorstBegin", "(LReadBins$Reads;I)V"⟩, 6) := ⟨⟨by decide +kernel, by decide +kernel⟩, List.mem_of_getElem? (i := 117) (by decide +kernel), List.mem_of_getElem? (i := 618) (by decide +kernel), List.mem_of_getElem? (i := 619) (by decide +kernel)⟩
theorem lw_p19 : lw_okq (⟨"ReadBins$Trimmer", "cutUnknown", "(LReadBins$Reads;I)V"⟩, 6) := ⟨⟨by decide +kernel, by decide +kernel⟩, List.mem_of_getElem? (i := 117) (by decide +kernel), List.mem_of_getElem? (i := 622) (by decide +kernel), List.mem_of_getElem? (i := 623) (by decide +kernel)⟩
theorem lw_p20 : lw_okq (⟨"ReadBins$Sorting", "sumOfQualities", "(LReadBins$Reads;I)I"⟩, 9) := ⟨⟨by decide +kernel, by decide +kernel⟩, List.mem_of_getElem? (i := 144) (by decide +kernel), List.mem_of_getElem? (i := 642) (by decide +kernel), List.mem_of_getElem? (i := 643) (by decide +kernel)⟩
theorem lw_p21 : lw_okq (⟨"ReadBins$Grouping", "firstAlike", "(I)I"⟩, 9) := ⟨⟨by decide +kernel, by decide +kernel⟩, List.mem_of_getElem? (i := 150) (by decide +kernel), List.mem_of_getElem? (i := 660) (by decide +kernel), List.mem_of_getElem? (i := 661) (by decide +kernel)⟩
theorem lw_p22 : lw_okq (⟨"ReadBins$Grouping", "distance", "(II)I"⟩, 9) := ⟨⟨by decide +kernel, by decide +kernel⟩, List.mem_of_getElem? (i := 150) (by decide +kernel), List.mem_of_getElem? (i := 664) (by decide +kernel), List.mem_of_getElem? (i := 665) (by decide +kernel)⟩
theorem lw_p23 : lw_okq (⟨"ReadBins$Grouping", "greatestOpen", "(I)I"⟩, 9) := ⟨⟨by decide +kernel, by decide +kernel⟩, List.mem_of_getElem? (i := 150) (by decide +kernel), List.mem_of_getElem? (i := 679) (by decide +kernel), List.mem_of_getElem? (i := 680) (by decide +kernel)⟩
theorem lw_p24 : lw_okq (⟨"ReadBins$Grouping", "isOpen", "(II)Z"⟩, 9) := ⟨⟨by decide +kernel, by decide +kernel⟩, List.mem_of_getElem? (i := 150) (by decide +kernel), List.mem_of_getElem? (i := 683) (by decide +kernel), List.mem_of_getElem? (i := 684) (by decide +kernel)⟩
theorem lw_p25 : lw_okq (⟨"ReadBins$Grouping", "comesBefore", "(II)Z"⟩, 9) := ⟨⟨by decide +kernel, by decide +kernel⟩, List.mem_of_getElem? (i := 150) (by decide +kernel), List.mem_of_getElem? (i := 687) (by decide +kernel), List.mem_of_getElem? (i := 688) (by decide +kernel)⟩
theorem lw_p26 : lw_okq (⟨"ReadBins$Grouping", "firstOpen", "(I)I"⟩, 9) := ⟨⟨by decide +kernel, by decide +kernel⟩, List.mem_of_getElem? (i := 150) (by decide +kernel), List.mem_of_getElem? (i := 691) (by decide +kernel), List.mem_of_getElem? (i := 692) (by decide +kernel)⟩
theorem lw_p27 : lw_okq (⟨"ReadBins$Grouping", "growGroup", "(III)V"⟩, 9) := ⟨⟨by decide +kernel, by decide +kernel⟩, List.mem_of_getElem? (i := 150) (by decide +kernel), List.mem_of_getElem? (i := 695) (by decide +kernel), List.mem_of_getElem? (i := 696) (by decide +kernel)⟩
theorem lw_p28 : lw_okq (⟨"ReadBins$Grouping", "draws", "(II)Z"⟩, 9) := ⟨⟨by decide +kernel, by decide +kernel⟩, List.mem_of_getElem? (i := 150) (by decide +kernel), List.mem_of_getElem? (i := 699) (by decide +kernel), List.mem_of_getElem? (i := 700) (by decide +kernel)⟩
theorem lw_p29 : lw_okq (⟨"ReadBins$Sorting", "has", "(I)Z"⟩, 9) := ⟨⟨by decide +kernel, by decide +kernel⟩, List.mem_of_getElem? (i := 144) (by decide +kernel), List.mem_of_getElem? (i := 711) (by decide +kernel), List.mem_of_getElem? (i := 712) (by decide +kernel)⟩
theorem lw_p30 : lw_okq (⟨"ReadBins", "aboutSorted", "(II)I"⟩, 8) := ⟨⟨by decide +kernel, by decide +kernel⟩, List.mem_of_getElem? (i := 19) (by decide +kernel), List.mem_of_getElem? (i := 729) (by decide +kernel), List.mem_of_getElem? (i := 730) (by decide +kernel)⟩
theorem lw_p31 : lw_okq (⟨"ReadBins", "hasBin", "(I)Z"⟩, 8) := ⟨⟨by decide +kernel, by decide +kernel⟩, List.mem_of_getElem? (i := 19) (by decide +kernel), List.mem_of_getElem? (i := 769) (by decide +kernel), List.mem_of_getElem? (i := 770) (by decide +kernel)⟩
def lw_privs_2 : List (MethodName × Nat) := [(⟨"ReadBins$Trimmer", "adapterBegins", "(LReadBins$Reads;II)Z"⟩, 6), (⟨"ReadBins$Trimmer", "cutWorstEnd", "(LReadBins$Reads;I)V"⟩, 6), (⟨"ReadBins$Trimmer", "cutWorstBegin", "(LReadBins$Reads;I)V"⟩, 6), (⟨"ReadBins$Trimmer", "cutUnknown", "(LReadBins$Reads;I)V"⟩, 6), (⟨"ReadBins$Sorting", "sumOfQualities", "(LReadBins$Reads;I)I"⟩, 9), (⟨"ReadBins$Grouping", "firstAlike", "(I)I"⟩, 9), (⟨"ReadBins$Grouping", "distance", "(II)I"⟩, 9), (⟨"ReadBins$Grouping", "greatestOpen", "(I)I"⟩, 9), (⟨"ReadBins$Grouping", "isOpen", "(II)Z"⟩, 9), (⟨"ReadBins$Grouping", "comesBefore", "(II)Z"⟩, 9), (⟨"ReadBins$Grouping", "firstOpen", "(I)I"⟩, 9), (⟨"ReadBins$Grouping", "growGroup", "(III)V"⟩, 9), (⟨"ReadBins$Grouping", "draws", "(II)Z"⟩, 9), (⟨"ReadBins$Sorting", "has", "(I)Z"⟩, 9), (⟨"ReadBins", "aboutSorted", "(II)I"⟩, 8), (⟨"ReadBins", "hasBin", "(I)Z"⟩, 8)]
theorem lw_r2 : ∀ q ∈ lw_privs_2, lw_okq q := List.forall_mem_cons.mpr ⟨lw_p16, List.forall_mem_cons.mpr ⟨lw_p17, List.forall_mem_cons.mpr ⟨lw_p18, List.forall_mem_cons.mpr ⟨lw_p19, List.forall_mem_cons.mpr ⟨lw_p20, List.forall_mem_cons.mpr ⟨lw_p21, List.forall_mem_cons.mpr ⟨lw_p22, List.forall_mem_cons.mpr ⟨lw_p23, List.forall_mem_cons.mpr ⟨lw_p24, List.forall_mem_cons.mpr ⟨lw_p25, List.forall_mem_cons.mpr ⟨lw_p26, List.forall_mem_cons.mpr ⟨lw_p27, List.forall_mem_cons.mpr ⟨lw_p28, List.forall_mem_cons.mpr ⟨lw_p29, List.forall_mem_cons.mpr ⟨lw_p30, List.forall_mem_cons.mpr ⟨lw_p31, fun _ h => absurd h List.not_mem_nil⟩⟩⟩⟩⟩⟩⟩⟩⟩⟩⟩⟩⟩⟩⟩⟩
theorem lw_p32 : lw_okq (⟨"ReadBins$Sorting", "worthOf", "(I)I"⟩, 9) := ⟨⟨by decide +kernel, by decide +kernel⟩, List.mem_of_getElem? (i := 144) (by decide +kernel), List.mem_of_getElem? (i := 824) (by decide +kernel), List.mem_of_getElem? (i := 825) (by decide +kernel)⟩
theorem lw_p33 : lw_okq (⟨"ReadBins", "sizeOfText", "(IIZ)I"⟩, 8) := ⟨⟨by decide +kernel, by decide +kernel⟩, List.mem_of_getElem? (i := 19) (by decide +kernel), List.mem_of_getElem? (i := 840) (by decide +kernel), List.mem_of_getElem? (i := 841) (by decide +kernel)⟩
theorem lw_p34 : lw_okq (⟨"ReadBins", "isChosen", "(IIZ)Z"⟩, 8) := ⟨⟨by decide +kernel, by decide +kernel⟩, List.mem_of_getElem? (i := 19) (by decide +kernel), List.mem_of_getElem? (i := 844) (by decide +kernel), List.mem_of_getElem? (i := 845) (by decide +kernel)⟩
theorem lw_p35 : lw_okq (⟨"ReadBins", "firstOf", "(II)I"⟩, 8) := ⟨⟨by decide +kernel, by decide +kernel⟩, List.mem_of_getElem? (i := 19) (by decide +kernel), List.mem_of_getElem? (i := 848) (by decide +kernel), List.mem_of_getElem? (i := 849) (by decide +kernel)⟩
theorem lw_p36 : lw_okq (⟨"ReadBins", "lastOf", "(II)I"⟩, 8) := ⟨⟨by decide +kernel, by decide +kernel⟩, List.mem_of_getElem? (i := 19) (by decide +kernel), List.mem_of_getElem? (i := 852) (by decide +kernel), List.mem_of_getElem? (i := 853) (by decide +kernel)⟩
theorem lw_p37 : lw_okq (⟨"ReadBins", "writeText", "(IIZ)V"⟩, 8) := ⟨⟨by decide +kernel, by decide +kernel⟩, List.mem_of_getElem? (i := 19) (by decide +kernel), List.mem_of_getElem? (i := 865) (by decide +kernel), List.mem_of_getElem? (i := 866) (by decide +kernel)⟩
theorem lw_p38 : lw_okq (⟨"ReadBinsModel", "readOne", "(I)Z"⟩, 34) := ⟨⟨by decide +kernel, by decide +kernel⟩, List.mem_of_getElem? (i := 896) (by decide +kernel), List.mem_of_getElem? (i := 1018) (by decide +kernel), List.mem_of_getElem? (i := 1019) (by decide +kernel)⟩
theorem lw_p39 : lw_okq (⟨"ReadBinsModel", "nameLine", "(II)Z"⟩, 34) := ⟨⟨by decide +kernel, by decide +kernel⟩, List.mem_of_getElem? (i := 896) (by decide +kernel), List.mem_of_getElem? (i := 1022) (by decide +kernel), List.mem_of_getElem? (i := 1023) (by decide +kernel)⟩
theorem lw_p40 : lw_okq (⟨"ReadBinsModel", "faulty", "(I)Z"⟩, 34) := ⟨⟨by decide +kernel, by decide +kernel⟩, List.mem_of_getElem? (i := 896) (by decide +kernel), List.mem_of_getElem? (i := 1026) (by decide +kernel), List.mem_of_getElem? (i := 1027) (by decide +kernel)⟩
theorem lw_p41 : lw_okq (⟨"ReadBinsModel", "look", "()I"⟩, 34) := ⟨⟨by decide +kernel, by decide +kernel⟩, List.mem_of_getElem? (i := 896) (by decide +kernel), List.mem_of_getElem? (i := 1030) (by decide +kernel), List.mem_of_getElem? (i := 1031) (by decide +kernel)⟩
theorem lw_p42 : lw_okq (⟨"ReadBinsModel", "must", "(I)Z"⟩, 34) := ⟨⟨by decide +kernel, by decide +kernel⟩, List.mem_of_getElem? (i := 896) (by decide +kernel), List.mem_of_getElem? (i := 1034) (by decide +kernel), List.mem_of_getElem? (i := 1035) (by decide +kernel)⟩
theorem lw_p43 : lw_okq (⟨"ReadBinsModel", "letterLine", "(I)Z"⟩, 34) := ⟨⟨by decide +kernel, by decide +kernel⟩, List.mem_of_getElem? (i := 896) (by decide +kernel), List.mem_of_getElem? (i := 1038) (by decide +kernel), List.mem_of_getElem? (i := 1039) (by decide +kernel)⟩
theorem lw_p44 : lw_okq (⟨"ReadBinsModel", "plusLine", "(I)Z"⟩, 34) := ⟨⟨by decide +kernel, by decide +kernel⟩, List.mem_of_getElem? (i := 896) (by decide +kernel), List.mem_of_getElem? (i := 1045) (by decide +kernel), List.mem_of_getElem? (i := 1046) (by decide +kernel)⟩
theorem lw_p45 : lw_okq (⟨"ReadBinsModel", "qualityLine", "(I)Z"⟩, 34) := ⟨⟨by decide +kernel, by decide +kernel⟩, List.mem_of_getElem? (i := 896) (by decide +kernel), List.mem_of_getElem? (i := 1049) (by decide +kernel), List.mem_of_getElem? (i := 1050) (by decide +kernel)⟩
theorem lw_p46 : lw_okq (⟨"ReadBinsModel", "isCode", "(II)Z"⟩, 34) := ⟨⟨by decide +kernel, by decide +kernel⟩, List.mem_of_getElem? (i := 896) (by decide +kernel), List.mem_of_getElem? (i := 1061) (by decide +kernel), List.mem_of_getElem? (i := 1062) (by decide +kernel)⟩
theorem lw_p47 : lw_okq (⟨"ReadBinsModel", "hasCode", "()Z"⟩, 34) := ⟨⟨by decide +kernel, by decide +kernel⟩, List.mem_of_getElem? (i := 896) (by decide +kernel), List.mem_of_getElem? (i := 1065) (by decide +kernel), List.mem_of_getElem? (i := 1066) (by decide +kernel)⟩
def lw_privs_3 : List (MethodName × Nat) := [(⟨"ReadBins$Sorting", "worthOf", "(I)I"⟩, 9), (⟨"ReadBins", "sizeOfText", "(IIZ)I"⟩, 8), (⟨"ReadBins", "isChosen", "(IIZ)Z"⟩, 8), (⟨"ReadBins", "firstOf", "(II)I"⟩, 8), (⟨"ReadBins", "lastOf", "(II)I"⟩, 8), (⟨"ReadBins", "writeText", "(IIZ)V"⟩, 8), (⟨"ReadBinsModel", "readOne", "(I)Z"⟩, 34), (⟨"ReadBinsModel", "nameLine", "(II)Z"⟩, 34), (⟨"ReadBinsModel", "faulty", "(I)Z"⟩, 34), (⟨"ReadBinsModel", "look", "()I"⟩, 34), (⟨"ReadBinsModel", "must", "(I)Z"⟩, 34), (⟨"ReadBinsModel", "letterLine", "(I)Z"⟩, 34), (⟨"ReadBinsModel", "plusLine", "(I)Z"⟩, 34), (⟨"ReadBinsModel", "qualityLine", "(I)Z"⟩, 34), (⟨"ReadBinsModel", "isCode", "(II)Z"⟩, 34), (⟨"ReadBinsModel", "hasCode", "()Z"⟩, 34)]
theorem lw_r3 : ∀ q ∈ lw_privs_3, lw_okq q := List.forall_mem_cons.mpr ⟨lw_p32, List.forall_mem_cons.mpr ⟨lw_p33, List.forall_mem_cons.mpr ⟨lw_p34, List.forall_mem_cons.mpr ⟨lw_p35, List.forall_mem_cons.mpr ⟨lw_p36, List.forall_mem_cons.mpr ⟨lw_p37, List.forall_mem_cons.mpr ⟨lw_p38, List.forall_mem_cons.mpr ⟨lw_p39, List.forall_mem_cons.mpr ⟨lw_p40, List.forall_mem_cons.mpr ⟨lw_p41, List.forall_mem_cons.mpr ⟨lw_p42, List.forall_mem_cons.mpr ⟨lw_p43, List.forall_mem_cons.mpr ⟨lw_p44, List.forall_mem_cons.mpr ⟨lw_p45, List.forall_mem_cons.mpr ⟨lw_p46, List.forall_mem_cons.mpr ⟨lw_p47, fun _ h => absurd h List.not_mem_nil⟩⟩⟩⟩⟩⟩⟩⟩⟩⟩⟩⟩⟩⟩⟩⟩
theorem lw_p48 : lw_okq (⟨"ReadBinsModel", "spread", "()I"⟩, 34) := ⟨⟨by decide +kernel, by decide +kernel⟩, List.mem_of_getElem? (i := 896) (by decide +kernel), List.mem_of_getElem? (i := 1081) (by decide +kernel), List.mem_of_getElem? (i := 1082) (by decide +kernel)⟩
theorem lw_p49 : lw_okq (⟨"ReadBinsModel", "binOf", "(III)I"⟩, 34) := ⟨⟨by decide +kernel, by decide +kernel⟩, List.mem_of_getElem? (i := 896) (by decide +kernel), List.mem_of_getElem? (i := 1089) (by decide +kernel), List.mem_of_getElem? (i := 1090) (by decide +kernel)⟩
theorem lw_p50 : lw_okq (⟨"ReadBinsModel", "cutAdapter", "(I)V"⟩, 34) := ⟨⟨by decide +kernel, by decide +kernel⟩, List.mem_of_getElem? (i := 896) (by decide +kernel), List.mem_of_getElem? (i := 1093) (by decide +kernel), List.mem_of_getElem? (i := 1094) (by decide +kernel)⟩
theorem lw_p51 : lw_okq (⟨"ReadBinsModel", "cutQualities", "(I)V"⟩, 34) := ⟨⟨by decide +kernel, by decide +kernel⟩, List.mem_of_getElem? (i := 896) (by decide +kernel), List.mem_of_getElem? (i := 1097) (by decide +kernel), List.mem_of_getElem? (i := 1098) (by decide +kernel)⟩
theorem lw_p52 : lw_okq (⟨"ReadBinsModel", "cutNone", "(I)V"⟩, 34) := ⟨⟨by decide +kernel, by decide +kernel⟩, List.mem_of_getElem? (i := 896) (by decide +kernel), List.mem_of_getElem? (i := 1101) (by decide +kernel), List.mem_of_getElem? (i := 1102) (by decide +kernel)⟩
theorem lw_p53 : lw_okq (⟨"ReadBinsModel", "groupAll", "(II)V"⟩, 34) := ⟨⟨by decide +kernel, by decide +kernel⟩, List.mem_of_getElem? (i := 896) (by decide +kernel), List.mem_of_getElem? (i := 1105) (by decide +kernel), List.mem_of_getElem? (i := 1106) (by decide +kernel)⟩
theorem lw_p54 : lw_okq (⟨"ReadBinsModel", "counts", "(II)Z"⟩, 34) := ⟨⟨by decide +kernel, by decide +kernel⟩, List.mem_of_getElem? (i := 896) (by decide +kernel), List.mem_of_getElem? (i := 1109) (by decide +kernel), List.mem_of_getElem? (i := 1110) (by decide +kernel)⟩
theorem lw_p55 : lw_okq (⟨"ReadBinsModel", "isBefore", "(II)Z"⟩, 34) := ⟨⟨by decide +kernel, by decide +kernel⟩, List.mem_of_getElem? (i := 896) (by decide +kernel), List.mem_of_getElem? (i := 1113) (by decide +kernel), List.mem_of_getElem? (i := 1114) (by decide +kernel)⟩
theorem lw_p56 : lw_okq (⟨"ReadBinsModel", "countOf", "(I)I"⟩, 34) := ⟨⟨by decide +kernel, by decide +kernel⟩, List.mem_of_getElem? (i := 896) (by decide +kernel), List.mem_of_getElem? (i := 1117) (by decide +kernel), List.mem_of_getElem? (i := 1118) (by decide +kernel)⟩
theorem lw_p57 : lw_okq (⟨"ReadBinsModel", "distance", "(II)I"⟩, 34) := ⟨⟨by decide +kernel, by decide +kernel⟩, List.mem_of_getElem? (i := 896) (by decide +kernel), List.mem_of_getElem? (i := 1121) (by decide +kernel), List.mem_of_getElem? (i := 1122) (by decide +kernel)⟩
theorem lw_p58 : lw_okq (⟨"ReadBinsModel", "tagAt", "(II)I"⟩, 34) := ⟨⟨by decide +kernel, by decide +kernel⟩, List.mem_of_getElem? (i := 896) (by decide +kernel), List.mem_of_getElem? (i := 1125) (by decide +kernel), List.mem_of_getElem? (i := 1126) (by decide +kernel)⟩
theorem lw_p59 : lw_okq (⟨"ReadBinsModel", "spreadGroup", "(III)V"⟩, 34) := ⟨⟨by decide +kernel, by decide +kernel⟩, List.mem_of_getElem? (i := 896) (by decide +kernel), List.mem_of_getElem? (i := 1129) (by decide +kernel), List.mem_of_getElem? (i := 1130) (by decide +kernel)⟩
theorem lw_p60 : lw_okq (⟨"ReadBinsModel", "noRead", "(I)Z"⟩, 34) := ⟨⟨by decide +kernel, by decide +kernel⟩, List.mem_of_getElem? (i := 896) (by decide +kernel), List.mem_of_getElem? (i := 1137) (by decide +kernel), List.mem_of_getElem? (i := 1138) (by decide +kernel)⟩
theorem lw_p61 : lw_okq (⟨"ReadBinsModel", "noBin", "(I)Z"⟩, 34) := ⟨⟨by decide +kernel, by decide +kernel⟩, List.mem_of_getElem? (i := 896) (by decide +kernel), List.mem_of_getElem? (i := 1149) (by decide +kernel), List.mem_of_getElem? (i := 1150) (by decide +kernel)⟩
theorem lw_p62 : lw_okq (⟨"ReadBinsModel", "groupsOf", "(I)I"⟩, 34) := ⟨⟨by decide +kernel, by decide +kernel⟩, List.mem_of_getElem? (i := 896) (by decide +kernel), List.mem_of_getElem? (i := 1153) (by decide +kernel), List.mem_of_getElem? (i := 1154) (by decide +kernel)⟩
theorem lw_p63 : lw_okq (⟨"ReadBinsModel", "bestOf", "(II)I"⟩, 34) := ⟨⟨by decide +kernel, by decide +kernel⟩, List.mem_of_getElem? (i := 896) (by decide +kernel), List.mem_of_getElem? (i := 1161) (by decide +kernel), List.mem_of_getElem? (i := 1162) (by decide +kernel)⟩
def lw_privs_4 : List (MethodName × Nat) := [(⟨"ReadBinsModel", "spread", "()I"⟩, 34), (⟨"ReadBinsModel", "binOf", "(III)I"⟩, 34), (⟨"ReadBinsModel", "cutAdapter", "(I)V"⟩, 34), (⟨"ReadBinsModel", "cutQualities", "(I)V"⟩, 34), (⟨"ReadBinsModel", "cutNone", "(I)V"⟩, 34), (⟨"ReadBinsModel", "groupAll", "(II)V"⟩, 34), (⟨"ReadBinsModel", "counts", "(II)Z"⟩, 34), (⟨"ReadBinsModel", "isBefore", "(II)Z"⟩, 34), (⟨"ReadBinsModel", "countOf", "(I)I"⟩, 34), (⟨"ReadBinsModel", "distance", "(II)I"⟩, 34), (⟨"ReadBinsModel", "tagAt", "(II)I"⟩, 34), (⟨"ReadBinsModel", "spreadGroup", "(III)V"⟩, 34), (⟨"ReadBinsModel", "noRead", "(I)Z"⟩, 34), (⟨"ReadBinsModel", "noBin", "(I)Z"⟩, 34), (⟨"ReadBinsModel", "groupsOf", "(I)I"⟩, 34), (⟨"ReadBinsModel", "bestOf", "(II)I"⟩, 34)]
theorem lw_r4 : ∀ q ∈ lw_privs_4, lw_okq q := List.forall_mem_cons.mpr ⟨lw_p48, List.forall_mem_cons.mpr ⟨lw_p49, List.forall_mem_cons.mpr ⟨lw_p50, List.forall_mem_cons.mpr ⟨lw_p51, List.forall_mem_cons.mpr ⟨lw_p52, List.forall_mem_cons.mpr ⟨lw_p53, List.forall_mem_cons.mpr ⟨lw_p54, List.forall_mem_cons.mpr ⟨lw_p55, List.forall_mem_cons.mpr ⟨lw_p56, List.forall_mem_cons.mpr ⟨lw_p57, List.forall_mem_cons.mpr ⟨lw_p58, List.forall_mem_cons.mpr ⟨lw_p59, List.forall_mem_cons.mpr ⟨lw_p60, List.forall_mem_cons.mpr ⟨lw_p61, List.forall_mem_cons.mpr ⟨lw_p62, List.forall_mem_cons.mpr ⟨lw_p63, fun _ h => absurd h List.not_mem_nil⟩⟩⟩⟩⟩⟩⟩⟩⟩⟩⟩⟩⟩⟩⟩⟩
theorem lw_p64 : lw_okq (⟨"ReadBinsModel", "putRead", "(IIII)V"⟩, 34) := ⟨⟨by decide +kernel, by decide +kernel⟩, List.mem_of_getElem? (i := 896) (by decide +kernel), List.mem_of_getElem? (i := 1169) (by decide +kernel), List.mem_of_getElem? (i := 1170) (by decide +kernel)⟩
theorem lw_p65 : lw_okq (⟨"ReadBinsModel", "put", "(I)V"⟩, 34) := ⟨⟨by decide +kernel, by decide +kernel⟩, List.mem_of_getElem? (i := 896) (by decide +kernel), List.mem_of_getElem? (i := 1173) (by decide +kernel), List.mem_of_getElem? (i := 1174) (by decide +kernel)⟩
def lw_privs_5 : List (MethodName × Nat) := [(⟨"ReadBinsModel", "putRead", "(IIII)V"⟩, 34), (⟨"ReadBinsModel", "put", "(I)V"⟩, 34)]
theorem lw_r5 : ∀ q ∈ lw_privs_5, lw_okq q := List.forall_mem_cons.mpr ⟨lw_p64, List.forall_mem_cons.mpr ⟨lw_p65, fun _ h => absurd h List.not_mem_nil⟩⟩
def lw_privs : List (MethodName × Nat) := lw_privs_1 ++ (lw_privs_2 ++ (lw_privs_3 ++ (lw_privs_4 ++ (lw_privs_5))))
def lw_tbl : List Cond := k2_sels lw_privs ++ tables_1
theorem lw_privs_ok : ∀ q ∈ lw_privs, lw_okq q := by
  show ∀ q ∈ lw_privs_1 ++ (lw_privs_2 ++ (lw_privs_3 ++ (lw_privs_4 ++ (lw_privs_5)))), lw_okq q
  exact List.forall_mem_append.mpr ⟨lw_r1, List.forall_mem_append.mpr ⟨lw_r2, List.forall_mem_append.mpr ⟨lw_r3, List.forall_mem_append.mpr ⟨lw_r4, lw_r5⟩⟩⟩⟩
end
section
/-! ===== BEGIN printed: names, fields, word lists, decode rows ===== -/
def RX0 : String := "ReadBins$Barcodes"
def TX0 : u_T := fun k => match k with
  | 0 => ("ReadBins$Barcodes", "letters", "[I", true)
  | 1 => ("ReadBins$Barcodes", "probe", "LReadBins$Row;", true)
  | 2 => ("ReadBins$Barcodes", "count", "I", false)
  | 3 => ("ReadBins$Barcodes", "length", "I", false)
  | _ => ("ReadBins$Barcodes", "spread", "I", false)
def tyX0 : Nat → FieldType := fun k => match k with
  | 0 => .array .int
  | 1 => .object "ReadBins$Row"
  | 2 => .int
  | 3 => .int
  | _ => .int
abbrev wsX00 : List Cond := u_ws RX0 TX0 5
theorem nmX0 : ∀ a, a < 5 → ∀ b, b < 5 → a ≠ b → (TX0 a).2.1 ≠ (TX0 b).2.1 := by decide +kernel
theorem tyX0_ok : ∀ k, k < 5 → parseFieldDescriptor (TX0 k).2.2.1 = some (tyX0 k) := by decide +kernel
abbrev cX0_init : ByteArray := prog_2_method_1_code
def yX0_init : MethodName := ⟨RX0, "<init>", "()V"⟩
abbrev cX0_count : ByteArray := prog_2_method_2_code
def yX0_count : MethodName := ⟨RX0, "count", "()I"⟩
abbrev cX0_length : ByteArray := prog_2_method_3_code
def yX0_length : MethodName := ⟨RX0, "length", "()I"⟩
abbrev cX0_spread : ByteArray := prog_2_method_4_code
def yX0_spread : MethodName := ⟨RX0, "spread", "()I"⟩
abbrev cX0_take : ByteArray := prog_2_method_5_code
def yX0_take : MethodName := ⟨RX0, "take", "(LReadBins$Row;)I"⟩
abbrev cX0_nearTo : ByteArray := prog_2_method_6_code
def yX0_nearTo : MethodName := ⟨RX0, "nearTo", "(LReadBins$Reads;I)I"⟩
abbrev cX0_keep : ByteArray := prog_2_method_7_code
def yX0_keep : MethodName := ⟨RX0, "keep", "(LReadBins$Row;)V"⟩
abbrev cX0_distance : ByteArray := prog_2_method_8_code
def yX0_distance : MethodName := ⟨RX0, "distance", "(ILReadBins$Row;)I"⟩
def RX1 : String := "ReadBins$Grouping"
def TX1 : u_T := fun k => match k with
  | 0 => ("ReadBins$Grouping", "tags", "[I", true)
  | 1 => ("ReadBins$Grouping", "homes", "[I", true)
  | 2 => ("ReadBins$Grouping", "firsts", "[I", true)
  | 3 => ("ReadBins$Grouping", "counts", "[I", true)
  | 4 => ("ReadBins$Grouping", "groups", "[I", true)
  | 5 => ("ReadBins$Grouping", "waiting", "[I", true)
  | 6 => ("ReadBins$Grouping", "groupCounts", "[I", true)
  | 7 => ("ReadBins$Grouping", "tagSize", "I", false)
  | _ => ("ReadBins$Grouping", "byCount", "Z", false)
def tyX1 : Nat → FieldType := fun k => match k with
  | 0 => .array .int
  | 1 => .array .int
  | 2 => .array .int
  | 3 => .array .int
  | 4 => .array .int
  | 5 => .array .int
  | 6 => .array .int
  | 7 => .int
  | _ => .boolean
abbrev wsX10 : List Cond := u_ws RX1 TX1 9
theorem nmX1 : ∀ a, a < 9 → ∀ b, b < 9 → a ≠ b → (TX1 a).2.1 ≠ (TX1 b).2.1 := by decide +kernel
theorem tyX1_ok : ∀ k, k < 9 → parseFieldDescriptor (TX1 k).2.2.1 = some (tyX1 k) := by decide +kernel
abbrev cX1_init : ByteArray := prog_3_method_1_code
def yX1_init : MethodName := ⟨RX1, "<init>", "()V"⟩
abbrev cX1_restart : ByteArray := prog_3_method_2_code
def yX1_restart : MethodName := ⟨RX1, "restart", "(II)V"⟩
abbrev cX1_enter : ByteArray := prog_3_method_3_code
def yX1_enter : MethodName := ⟨RX1, "enter", "(LReadBins$Reads;III)V"⟩
abbrev cX1_formGroups : ByteArray := prog_3_method_4_code
def yX1_formGroups : MethodName := ⟨RX1, "formGroups", "(I)V"⟩
abbrev cX1_groupOf : ByteArray := prog_3_method_5_code
def yX1_groupOf : MethodName := ⟨RX1, "groupOf", "(I)I"⟩
abbrev cX1_groupsIn : ByteArray := prog_3_method_6_code
def yX1_groupsIn : MethodName := ⟨RX1, "groupsIn", "(I)I"⟩
abbrev cX1_isMember : ByteArray := prog_3_method_7_code
def yX1_isMember : MethodName := ⟨RX1, "isMember", "(III)Z"⟩
abbrev cX1_readsIn : ByteArray := prog_3_method_8_code
def yX1_readsIn : MethodName := ⟨RX1, "readsIn", "(II)I"⟩
abbrev cX1_tagsIn : ByteArray := prog_3_method_9_code
def yX1_tagsIn : MethodName := ⟨RX1, "tagsIn", "(II)I"⟩
abbrev cX1_isRead : ByteArray := prog_3_method_10_code
def yX1_isRead : MethodName := ⟨RX1, "isRead", "(I)Z"⟩
abbrev cX1_isBin : ByteArray := prog_3_method_11_code
def yX1_isBin : MethodName := ⟨RX1, "isBin", "(I)Z"⟩
abbrev cX1_firstAlike : ByteArray := prog_3_method_12_code
def yX1_firstAlike : MethodName := ⟨RX1, "firstAlike", "(I)I"⟩
abbrev cX1_isOpen : ByteArray := prog_3_method_13_code
def yX1_isOpen : MethodName := ⟨RX1, "isOpen", "(II)Z"⟩
abbrev cX1_firstOpen : ByteArray := prog_3_method_14_code
def yX1_firstOpen : MethodName := ⟨RX1, "firstOpen", "(I)I"⟩
abbrev cX1_greatestOpen : ByteArray := prog_3_method_15_code
def yX1_greatestOpen : MethodName := ⟨RX1, "greatestOpen", "(I)I"⟩
abbrev cX1_comesBefore : ByteArray := prog_3_method_16_code
def yX1_comesBefore : MethodName := ⟨RX1, "comesBefore", "(II)Z"⟩
abbrev cX1_growGroup : ByteArray := prog_3_method_17_code
def yX1_growGroup : MethodName := ⟨RX1, "growGroup", "(III)V"⟩
abbrev cX1_draws : ByteArray := prog_3_method_18_code
def yX1_draws : MethodName := ⟨RX1, "draws", "(II)Z"⟩
abbrev cX1_distance : ByteArray := prog_3_method_19_code
def yX1_distance : MethodName := ⟨RX1, "distance", "(II)I"⟩
def RX2 : String := "ReadBins$Parser"
def TX2 : u_T := fun k => match k with
  | 0 => ("ReadBins$Parser", "draft", "LReadBins$Reads;", false)
  | 1 => ("ReadBins$Parser", "form", "I", false)
  | 2 => ("ReadBins$Parser", "state", "I", false)
  | 3 => ("ReadBins$Parser", "lineSize", "I", false)
  | _ => ("ReadBins$Parser", "faultAt", "I", false)
def tyX2 : Nat → FieldType := fun k => match k with
  | 0 => .object "ReadBins$Reads"
  | 1 => .int
  | 2 => .int
  | 3 => .int
  | _ => .int
abbrev wsX20 : List Cond := u_ws RX2 TX2 5
theorem nmX2 : ∀ a, a < 5 → ∀ b, b < 5 → a ≠ b → (TX2 a).2.1 ≠ (TX2 b).2.1 := by decide +kernel
theorem tyX2_ok : ∀ k, k < 5 → parseFieldDescriptor (TX2 k).2.2.1 = some (tyX2 k) := by decide +kernel
abbrev cX2_init : ByteArray := prog_4_method_1_code
def yX2_init : MethodName := ⟨RX2, "<init>", "()V"⟩
abbrev cX2_parse : ByteArray := prog_4_method_2_code
def yX2_parse : MethodName := ⟨RX2, "parse", "(LReadBins$Row;I)I"⟩
abbrev cX2_faultAt : ByteArray := prog_4_method_3_code
def yX2_faultAt : MethodName := ⟨RX2, "faultAt", "()I"⟩
abbrev cX2_exchange : ByteArray := prog_4_method_4_code
def yX2_exchange : MethodName := ⟨RX2, "exchange", "(LReadBins$Reads;)LReadBins$Reads;"⟩
abbrev cX2_isWhole : ByteArray := prog_4_method_5_code
def yX2_isWhole : MethodName := ⟨RX2, "isWhole", "()Z"⟩
abbrev cX2_mayEndHere : ByteArray := prog_4_method_6_code
def yX2_mayEndHere : MethodName := ⟨RX2, "mayEndHere", "()Z"⟩
abbrev cX2_last : ByteArray := prog_4_method_7_code
def yX2_last : MethodName := ⟨RX2, "last", "()I"⟩
abbrev cX2_enter : ByteArray := prog_4_method_8_code
def yX2_enter : MethodName := ⟨RX2, "enter", "(I)I"⟩
abbrev cX2_step : ByteArray := prog_4_method_9_code
def yX2_step : MethodName := ⟨RX2, "step", "(I)I"⟩
abbrev cX2_stepMark : ByteArray := prog_4_method_10_code
def yX2_stepMark : MethodName := ⟨RX2, "stepMark", "(I)I"⟩
abbrev cX2_stepName : ByteArray := prog_4_method_11_code
def yX2_stepName : MethodName := ⟨RX2, "stepName", "(I)I"⟩
abbrev cX2_stepLetters : ByteArray := prog_4_method_12_code
def yX2_stepLetters : MethodName := ⟨RX2, "stepLetters", "(I)I"⟩
abbrev cX2_stepBehindPlus : ByteArray := prog_4_method_13_code
def yX2_stepBehindPlus : MethodName := ⟨RX2, "stepBehindPlus", "(I)I"⟩
abbrev cX2_stepQualities : ByteArray := prog_4_method_14_code
def yX2_stepQualities : MethodName := ⟨RX2, "stepQualities", "(I)I"⟩
def RX3 : String := "ReadBins$Reads"
def TX3 : u_T := fun k => match k with
  | 0 => ("ReadBins$Reads", "octets", "LReadBins$Row;", true)
  | 1 => ("ReadBins$Reads", "starts", "[I", true)
  | 2 => ("ReadBins$Reads", "nameSizes", "[I", true)
  | 3 => ("ReadBins$Reads", "letterCounts", "[I", true)
  | 4 => ("ReadBins$Reads", "count", "I", false)
  | _ => ("ReadBins$Reads", "withQualities", "Z", false)
def tyX3 : Nat → FieldType := fun k => match k with
  | 0 => .object "ReadBins$Row"
  | 1 => .array .int
  | 2 => .array .int
  | 3 => .array .int
  | 4 => .int
  | _ => .boolean
abbrev wsX30 : List Cond := u_ws RX3 TX3 6
theorem nmX3 : ∀ a, a < 6 → ∀ b, b < 6 → a ≠ b → (TX3 a).2.1 ≠ (TX3 b).2.1 := by decide +kernel
theorem tyX3_ok : ∀ k, k < 6 → parseFieldDescriptor (TX3 k).2.2.1 = some (tyX3 k) := by decide +kernel
abbrev cX3_init : ByteArray := prog_5_method_1_code
def yX3_init : MethodName := ⟨RX3, "<init>", "()V"⟩
abbrev cX3_restart : ByteArray := prog_5_method_2_code
def yX3_restart : MethodName := ⟨RX3, "restart", "(Z)V"⟩
abbrev cX3_begin : ByteArray := prog_5_method_3_code
def yX3_begin : MethodName := ⟨RX3, "begin", "()V"⟩
abbrev cX3_addToName : ByteArray := prog_5_method_4_code
def yX3_addToName : MethodName := ⟨RX3, "addToName", "(I)V"⟩
abbrev cX3_addLetter : ByteArray := prog_5_method_5_code
def yX3_addLetter : MethodName := ⟨RX3, "addLetter", "(I)V"⟩
abbrev cX3_addQuality : ByteArray := prog_5_method_6_code
def yX3_addQuality : MethodName := ⟨RX3, "addQuality", "(I)V"⟩
abbrev cX3_count : ByteArray := prog_5_method_7_code
def yX3_count : MethodName := ⟨RX3, "count", "()I"⟩
abbrev cX3_has : ByteArray := prog_5_method_8_code
def yX3_has : MethodName := ⟨RX3, "has", "(I)Z"⟩
abbrev cX3_nameSize : ByteArray := prog_5_method_9_code
def yX3_nameSize : MethodName := ⟨RX3, "nameSize", "(I)I"⟩
abbrev cX3_letterCount : ByteArray := prog_5_method_10_code
def yX3_letterCount : MethodName := ⟨RX3, "letterCount", "(I)I"⟩
abbrev cX3_nameOctet : ByteArray := prog_5_method_11_code
def yX3_nameOctet : MethodName := ⟨RX3, "nameOctet", "(II)I"⟩
abbrev cX3_letterOctet : ByteArray := prog_5_method_12_code
def yX3_letterOctet : MethodName := ⟨RX3, "letterOctet", "(II)I"⟩
abbrev cX3_quality : ByteArray := prog_5_method_13_code
def yX3_quality : MethodName := ⟨RX3, "quality", "(II)I"⟩
abbrev cX3_hasLetter : ByteArray := prog_5_method_14_code
def yX3_hasLetter : MethodName := ⟨RX3, "hasLetter", "(II)Z"⟩
def RX4 : String := "ReadBins$Row"
def TX4 : u_T := fun k => match k with
  | 0 => ("ReadBins$Row", "octets", "[I", true)
  | _ => ("ReadBins$Row", "size", "I", false)
def tyX4 : Nat → FieldType := fun k => match k with
  | 0 => .array .int
  | _ => .int
abbrev wsX40 : List Cond := u_ws RX4 TX4 2
theorem nmX4 : ∀ a, a < 2 → ∀ b, b < 2 → a ≠ b → (TX4 a).2.1 ≠ (TX4 b).2.1 := by decide +kernel
theorem tyX4_ok : ∀ k, k < 2 → parseFieldDescriptor (TX4 k).2.2.1 = some (tyX4 k) := by decide +kernel
abbrev cX4_init : ByteArray := prog_6_method_1_code
def yX4_init : MethodName := ⟨RX4, "<init>", "(I)V"⟩
abbrev cX4_size : ByteArray := prog_6_method_2_code
def yX4_size : MethodName := ⟨RX4, "size", "()I"⟩
abbrev cX4_room : ByteArray := prog_6_method_3_code
def yX4_room : MethodName := ⟨RX4, "room", "()I"⟩
abbrev cX4_at : ByteArray := prog_6_method_4_code
def yX4_at : MethodName := ⟨RX4, "at", "(I)I"⟩
abbrev cX4_add : ByteArray := prog_6_method_5_code
def yX4_add : MethodName := ⟨RX4, "add", "(I)V"⟩
abbrev cX4_clear : ByteArray := prog_6_method_6_code
def yX4_clear : MethodName := ⟨RX4, "clear", "()V"⟩
abbrev cX4_copy : ByteArray := prog_6_method_7_code
def yX4_copy : MethodName := ⟨RX4, "copy", "(LReadBins$Row;)V"⟩
abbrev cX4_isOfBases : ByteArray := prog_6_method_8_code
def yX4_isOfBases : MethodName := ⟨RX4, "isOfBases", "(II)Z"⟩
def RX5 : String := "ReadBins$Sorting"
def TX5 : u_T := fun k => match k with
  | 0 => ("ReadBins$Sorting", "bins", "[I", true)
  | 1 => ("ReadBins$Sorting", "begins", "[I", true)
  | 2 => ("ReadBins$Sorting", "ends", "[I", true)
  | 3 => ("ReadBins$Sorting", "worths", "[I", true)
  | 4 => ("ReadBins$Sorting", "shorts", "[Z", true)
  | 5 => ("ReadBins$Sorting", "grouping", "LReadBins$Grouping;", true)
  | 6 => ("ReadBins$Sorting", "done", "Z", false)
  | 7 => ("ReadBins$Sorting", "readCount", "I", false)
  | _ => ("ReadBins$Sorting", "binCount", "I", false)
def tyX5 : Nat → FieldType := fun k => match k with
  | 0 => .array .int
  | 1 => .array .int
  | 2 => .array .int
  | 3 => .array .int
  | 4 => .array .boolean
  | 5 => .object "ReadBins$Grouping"
  | 6 => .boolean
  | 7 => .int
  | _ => .int
abbrev wsX50 : List Cond := u_ws RX5 TX5 9
theorem nmX5 : ∀ a, a < 9 → ∀ b, b < 9 → a ≠ b → (TX5 a).2.1 ≠ (TX5 b).2.1 := by decide +kernel
theorem tyX5_ok : ∀ k, k < 9 → parseFieldDescriptor (TX5 k).2.2.1 = some (tyX5 k) := by decide +kernel
abbrev cX5_init : ByteArray := prog_7_method_1_code
def yX5_init : MethodName := ⟨RX5, "<init>", "()V"⟩
abbrev cX5_forget : ByteArray := prog_7_method_2_code
def yX5_forget : MethodName := ⟨RX5, "forget", "()V"⟩
abbrev cX5_isDone : ByteArray := prog_7_method_3_code
def yX5_isDone : MethodName := ⟨RX5, "isDone", "()Z"⟩
abbrev cX5_binCount : ByteArray := prog_7_method_4_code
def yX5_binCount : MethodName := ⟨RX5, "binCount", "()I"⟩
abbrev cX5_grouping : ByteArray := prog_7_method_5_code
def yX5_grouping : MethodName := ⟨RX5, "grouping", "()LReadBins$Grouping;"⟩
abbrev cX5_restart : ByteArray := prog_7_method_6_code
def yX5_restart : MethodName := ⟨RX5, "restart", "(III)V"⟩
abbrev cX5_add : ByteArray := prog_7_method_7_code
def yX5_add : MethodName := ⟨RX5, "add", "(LReadBins$Reads;ILReadBins$Trimmer;)V"⟩
abbrev cX5_finish : ByteArray := prog_7_method_8_code
def yX5_finish : MethodName := ⟨RX5, "finish", "()V"⟩
abbrev cX5_binOf : ByteArray := prog_7_method_9_code
def yX5_binOf : MethodName := ⟨RX5, "binOf", "(I)I"⟩
abbrev cX5_beginOf : ByteArray := prog_7_method_10_code
def yX5_beginOf : MethodName := ⟨RX5, "beginOf", "(I)I"⟩
abbrev cX5_endOf : ByteArray := prog_7_method_11_code
def yX5_endOf : MethodName := ⟨RX5, "endOf", "(I)I"⟩
abbrev cX5_isShort : ByteArray := prog_7_method_12_code
def yX5_isShort : MethodName := ⟨RX5, "isShort", "(I)Z"⟩
abbrev cX5_readsIn : ByteArray := prog_7_method_13_code
def yX5_readsIn : MethodName := ⟨RX5, "readsIn", "(I)I"⟩
abbrev cX5_shortReadsIn : ByteArray := prog_7_method_14_code
def yX5_shortReadsIn : MethodName := ⟨RX5, "shortReadsIn", "(I)I"⟩
abbrev cX5_bestOf : ByteArray := prog_7_method_15_code
def yX5_bestOf : MethodName := ⟨RX5, "bestOf", "(II)I"⟩
abbrev cX5_isBest : ByteArray := prog_7_method_16_code
def yX5_isBest : MethodName := ⟨RX5, "isBest", "(I)Z"⟩
abbrev cX5_has : ByteArray := prog_7_method_17_code
def yX5_has : MethodName := ⟨RX5, "has", "(I)Z"⟩
abbrev cX5_worthOf : ByteArray := prog_7_method_18_code
def yX5_worthOf : MethodName := ⟨RX5, "worthOf", "(I)I"⟩
abbrev cX5_sumOfQualities : ByteArray := prog_7_method_19_code
def yX5_sumOfQualities : MethodName := ⟨RX5, "sumOfQualities", "(LReadBins$Reads;I)I"⟩
def RX6 : String := "ReadBins$Trimmer"
def TX6 : u_T := fun k => match k with
  | 0 => ("ReadBins$Trimmer", "adapter", "LReadBins$Row;", true)
  | 1 => ("ReadBins$Trimmer", "limitAtBegin", "I", false)
  | 2 => ("ReadBins$Trimmer", "limitAtEnd", "I", false)
  | 3 => ("ReadBins$Trimmer", "least", "I", false)
  | 4 => ("ReadBins$Trimmer", "begin", "I", false)
  | _ => ("ReadBins$Trimmer", "end", "I", false)
def tyX6 : Nat → FieldType := fun k => match k with
  | 0 => .object "ReadBins$Row"
  | 1 => .int
  | 2 => .int
  | 3 => .int
  | 4 => .int
  | _ => .int
abbrev wsX60 : List Cond := u_ws RX6 TX6 6
theorem nmX6 : ∀ a, a < 6 → ∀ b, b < 6 → a ≠ b → (TX6 a).2.1 ≠ (TX6 b).2.1 := by decide +kernel
theorem tyX6_ok : ∀ k, k < 6 → parseFieldDescriptor (TX6 k).2.2.1 = some (tyX6 k) := by decide +kernel
abbrev cX6_init : ByteArray := prog_8_method_1_code
def yX6_init : MethodName := ⟨RX6, "<init>", "()V"⟩
abbrev cX6_takeAdapter : ByteArray := prog_8_method_2_code
def yX6_takeAdapter : MethodName := ⟨RX6, "takeAdapter", "(LReadBins$Row;)I"⟩
abbrev cX6_setLimits : ByteArray := prog_8_method_3_code
def yX6_setLimits : MethodName := ⟨RX6, "setLimits", "(III)V"⟩
abbrev cX6_begin : ByteArray := prog_8_method_4_code
def yX6_begin : MethodName := ⟨RX6, "begin", "()I"⟩
abbrev cX6_end : ByteArray := prog_8_method_5_code
def yX6_end : MethodName := ⟨RX6, "end", "()I"⟩
abbrev cX6_isTooShort : ByteArray := prog_8_method_6_code
def yX6_isTooShort : MethodName := ⟨RX6, "isTooShort", "()Z"⟩
abbrev cX6_cut : ByteArray := prog_8_method_7_code
def yX6_cut : MethodName := ⟨RX6, "cut", "(LReadBins$Reads;II)V"⟩
abbrev cX6_cutAdapter : ByteArray := prog_8_method_8_code
def yX6_cutAdapter : MethodName := ⟨RX6, "cutAdapter", "(LReadBins$Reads;I)V"⟩
abbrev cX6_adapterBegins : ByteArray := prog_8_method_9_code
def yX6_adapterBegins : MethodName := ⟨RX6, "adapterBegins", "(LReadBins$Reads;II)Z"⟩
abbrev cX6_cutWorstEnd : ByteArray := prog_8_method_10_code
def yX6_cutWorstEnd : MethodName := ⟨RX6, "cutWorstEnd", "(LReadBins$Reads;I)V"⟩
abbrev cX6_cutWorstBegin : ByteArray := prog_8_method_11_code
def yX6_cutWorstBegin : MethodName := ⟨RX6, "cutWorstBegin", "(LReadBins$Reads;I)V"⟩
abbrev cX6_cutUnknown : ByteArray := prog_8_method_12_code
def yX6_cutUnknown : MethodName := ⟨RX6, "cutUnknown", "(LReadBins$Reads;I)V"⟩
def RX7 : String := "ReadBins$Writer"
def TX7 : u_T := fun k => match k with
  | _ => ("", "", "", false)
def tyX7 : Nat → FieldType := fun k => match k with
  | _ => .int
abbrev wsX70 : List Cond := u_ws RX7 TX7 0
theorem nmX7 : ∀ a, a < 0 → ∀ b, b < 0 → a ≠ b → (TX7 a).2.1 ≠ (TX7 b).2.1 := by decide +kernel
theorem tyX7_ok : ∀ k, k < 0 → parseFieldDescriptor (TX7 k).2.2.1 = some (tyX7 k) := by decide +kernel
abbrev cX7_sizeOfRead : ByteArray := prog_9_method_2_code
def yX7_sizeOfRead : MethodName := ⟨RX7, "sizeOfRead", "(III)I"⟩
abbrev cX7_putRead : ByteArray := prog_9_method_3_code
def yX7_putRead : MethodName := ⟨RX7, "putRead", "(LReadBins$Row;LReadBins$Reads;IIII)V"⟩
abbrev cX7_putName : ByteArray := prog_9_method_4_code
def yX7_putName : MethodName := ⟨RX7, "putName", "(LReadBins$Row;LReadBins$Reads;I)V"⟩
abbrev cX7_putLetters : ByteArray := prog_9_method_5_code
def yX7_putLetters : MethodName := ⟨RX7, "putLetters", "(LReadBins$Row;LReadBins$Reads;III)V"⟩
abbrev cX7_putQualities : ByteArray := prog_9_method_6_code
def yX7_putQualities : MethodName := ⟨RX7, "putQualities", "(LReadBins$Row;LReadBins$Reads;III)V"⟩
def RX8 : String := "ReadBins"
def TX8 : u_T := fun k => match k with
  | 0 => ("ReadBins", "tape", "LReadBins$Row;", true)
  | 1 => ("ReadBins", "written", "LReadBins$Row;", true)
  | 2 => ("ReadBins", "parser", "LReadBins$Parser;", true)
  | 3 => ("ReadBins", "barcodes", "LReadBins$Barcodes;", true)
  | 4 => ("ReadBins", "trimmer", "LReadBins$Trimmer;", true)
  | 5 => ("ReadBins", "sorting", "LReadBins$Sorting;", true)
  | 6 => ("ReadBins", "reads", "LReadBins$Reads;", false)
  | _ => ("ReadBins", "faultPlace", "I", false)
def tyX8 : Nat → FieldType := fun k => match k with
  | 0 => .object "ReadBins$Row"
  | 1 => .object "ReadBins$Row"
  | 2 => .object "ReadBins$Parser"
  | 3 => .object "ReadBins$Barcodes"
  | 4 => .object "ReadBins$Trimmer"
  | 5 => .object "ReadBins$Sorting"
  | 6 => .object "ReadBins$Reads"
  | _ => .int
abbrev wsX80 : List Cond := u_ws RX8 TX8 8
theorem nmX8 : ∀ a, a < 8 → ∀ b, b < 8 → a ≠ b → (TX8 a).2.1 ≠ (TX8 b).2.1 := by decide +kernel
theorem tyX8_ok : ∀ k, k < 8 → parseFieldDescriptor (TX8 k).2.2.1 = some (tyX8 k) := by decide +kernel
abbrev cX8_init : ByteArray := prog_1_method_1_code
def yX8_init : MethodName := ⟨RX8, "<init>", "()V"⟩
abbrev cX8_feed : ByteArray := prog_1_method_2_code
def yX8_feed : MethodName := ⟨RX8, "feed", "(IJ)I"⟩
abbrev cX8_read : ByteArray := prog_1_method_3_code
def yX8_read : MethodName := ⟨RX8, "read", "(I)I"⟩
abbrev cX8_place : ByteArray := prog_1_method_4_code
def yX8_place : MethodName := ⟨RX8, "place", "()I"⟩
abbrev cX8_barcode : ByteArray := prog_1_method_5_code
def yX8_barcode : MethodName := ⟨RX8, "barcode", "()I"⟩
abbrev cX8_adapter : ByteArray := prog_1_method_6_code
def yX8_adapter : MethodName := ⟨RX8, "adapter", "()I"⟩
abbrev cX8_limits : ByteArray := prog_1_method_7_code
def yX8_limits : MethodName := ⟨RX8, "limits", "(III)Z"⟩
abbrev cX8_told : ByteArray := prog_1_method_8_code
def yX8_told : MethodName := ⟨RX8, "told", "(I)I"⟩
abbrev cX8_sort : ByteArray := prog_1_method_9_code
def yX8_sort : MethodName := ⟨RX8, "sort", "(II)I"⟩
abbrev cX8_sortRead : ByteArray := prog_1_method_10_code
def yX8_sortRead : MethodName := ⟨RX8, "sortRead", "(II)V"⟩
abbrev cX8_about : ByteArray := prog_1_method_11_code
def yX8_about : MethodName := ⟨RX8, "about", "(II)I"⟩
abbrev cX8_aboutSorted : ByteArray := prog_1_method_12_code
def yX8_aboutSorted : MethodName := ⟨RX8, "aboutSorted", "(II)I"⟩
abbrev cX8_letter : ByteArray := prog_1_method_13_code
def yX8_letter : MethodName := ⟨RX8, "letter", "(III)I"⟩
abbrev cX8_bin : ByteArray := prog_1_method_14_code
def yX8_bin : MethodName := ⟨RX8, "bin", "(II)I"⟩
abbrev cX8_group : ByteArray := prog_1_method_15_code
def yX8_group : MethodName := ⟨RX8, "group", "(III)I"⟩
abbrev cX8_write : ByteArray := prog_1_method_16_code
def yX8_write : MethodName := ⟨RX8, "write", "(IIZ)I"⟩
abbrev cX8_out : ByteArray := prog_1_method_17_code
def yX8_out : MethodName := ⟨RX8, "out", "(I)I"⟩
abbrev cX8_again : ByteArray := prog_1_method_18_code
def yX8_again : MethodName := ⟨RX8, "again", "()I"⟩
abbrev cX8_sizeOfText : ByteArray := prog_1_method_19_code
def yX8_sizeOfText : MethodName := ⟨RX8, "sizeOfText", "(IIZ)I"⟩
abbrev cX8_writeText : ByteArray := prog_1_method_20_code
def yX8_writeText : MethodName := ⟨RX8, "writeText", "(IIZ)V"⟩
abbrev cX8_isChosen : ByteArray := prog_1_method_21_code
def yX8_isChosen : MethodName := ⟨RX8, "isChosen", "(IIZ)Z"⟩
abbrev cX8_firstOf : ByteArray := prog_1_method_22_code
def yX8_firstOf : MethodName := ⟨RX8, "firstOf", "(II)I"⟩
abbrev cX8_lastOf : ByteArray := prog_1_method_23_code
def yX8_lastOf : MethodName := ⟨RX8, "lastOf", "(II)I"⟩
abbrev cX8_hasBin : ByteArray := prog_1_method_24_code
def yX8_hasBin : MethodName := ⟨RX8, "hasBin", "(I)Z"⟩
abbrev cX8_isForm : ByteArray := prog_1_method_25_code
def yX8_isForm : MethodName := ⟨RX8, "isForm", "(I)Z"⟩
abbrev cX8_isWithin : ByteArray := prog_1_method_26_code
def yX8_isWithin : MethodName := ⟨RX8, "isWithin", "(II)Z"⟩
abbrev cX8_isSign : ByteArray := prog_1_method_27_code
def yX8_isSign : MethodName := ⟨RX8, "isSign", "(I)Z"⟩
abbrev cX8_isBase : ByteArray := prog_1_method_28_code
def yX8_isBase : MethodName := ⟨RX8, "isBase", "(I)Z"⟩
abbrev cX8_isLetter : ByteArray := prog_1_method_29_code
def yX8_isLetter : MethodName := ⟨RX8, "isLetter", "(I)Z"⟩
def RX9 : String := "ReadBinsModel"
def TX9 : u_T := fun k => match k with
  | 0 => ("ReadBinsModel", "tape", "[I", true)
  | 1 => ("ReadBinsModel", "size", "I", false)
  | 2 => ("ReadBinsModel", "place", "I", false)
  | 3 => ("ReadBinsModel", "thrown", "I", false)
  | 4 => ("ReadBinsModel", "nameSize", "[I", true)
  | 5 => ("ReadBinsModel", "name", "[I", true)
  | 6 => ("ReadBinsModel", "many", "[I", true)
  | 7 => ("ReadBinsModel", "letter", "[I", true)
  | 8 => ("ReadBinsModel", "quality", "[I", true)
  | 9 => ("ReadBinsModel", "reads", "I", false)
  | 10 => ("ReadBinsModel", "hand", "I", false)
  | 11 => ("ReadBinsModel", "code", "[I", true)
  | 12 => ("ReadBinsModel", "codes", "I", false)
  | 13 => ("ReadBinsModel", "codeSize", "I", false)
  | 14 => ("ReadBinsModel", "adapter", "[I", true)
  | 15 => ("ReadBinsModel", "adapterSize", "I", false)
  | 16 => ("ReadBinsModel", "limitBegin", "I", false)
  | 17 => ("ReadBinsModel", "limitEnd", "I", false)
  | 18 => ("ReadBinsModel", "least", "I", false)
  | 19 => ("ReadBinsModel", "sorted", "Z", false)
  | 20 => ("ReadBinsModel", "bins", "I", false)
  | 21 => ("ReadBinsModel", "tagSize", "I", false)
  | 22 => ("ReadBinsModel", "bin", "[I", true)
  | 23 => ("ReadBinsModel", "begin", "[I", true)
  | 24 => ("ReadBinsModel", "end", "[I", true)
  | 25 => ("ReadBinsModel", "isShort", "[Z", true)
  | 26 => ("ReadBinsModel", "group", "[I", true)
  | 27 => ("ReadBinsModel", "out", "[I", true)
  | 28 => ("ReadBinsModel", "made", "[I", true)
  | 29 => ("ReadBinsModel", "outSize", "I", false)
  | 30 => ("ReadBinsModel", "madeSize", "I", false)
  | 31 => ("ReadBinsModel", "at", "I", false)
  | 32 => ("ReadBinsModel", "fault", "I", false)
  | _ => ("ReadBinsModel", "codeSizeThen", "I", false)
def tyX9 : Nat → FieldType := fun k => match k with
  | 0 => .array .int
  | 1 => .int
  | 2 => .int
  | 3 => .int
  | 4 => .array .int
  | 5 => .array .int
  | 6 => .array .int
  | 7 => .array .int
  | 8 => .array .int
  | 9 => .int
  | 10 => .int
  | 11 => .array .int
  | 12 => .int
  | 13 => .int
  | 14 => .array .int
  | 15 => .int
  | 16 => .int
  | 17 => .int
  | 18 => .int
  | 19 => .boolean
  | 20 => .int
  | 21 => .int
  | 22 => .array .int
  | 23 => .array .int
  | 24 => .array .int
  | 25 => .array .boolean
  | 26 => .array .int
  | 27 => .array .int
  | 28 => .array .int
  | 29 => .int
  | 30 => .int
  | 31 => .int
  | 32 => .int
  | _ => .int
abbrev wsX90 : List Cond := u_ws RX9 TX9 34
theorem nmX9 : ∀ a, a < 34 → ∀ b, b < 34 → a ≠ b → (TX9 a).2.1 ≠ (TX9 b).2.1 := by decide +kernel
theorem tyX9_ok : ∀ k, k < 34 → parseFieldDescriptor (TX9 k).2.2.1 = some (tyX9 k) := by decide +kernel
abbrev cX9_init : ByteArray := prog_11_method_1_code
def yX9_init : MethodName := ⟨RX9, "<init>", "()V"⟩
abbrev cX9_thrown : ByteArray := prog_11_method_2_code
def yX9_thrown : MethodName := ⟨RX9, "thrown", "()I"⟩
abbrev cX9_feed : ByteArray := prog_11_method_3_code
def yX9_feed : MethodName := ⟨RX9, "feed", "(IJ)I"⟩
abbrev cX9_faulty : ByteArray := prog_11_method_4_code
def yX9_faulty : MethodName := ⟨RX9, "faulty", "(I)Z"⟩
abbrev cX9_look : ByteArray := prog_11_method_5_code
def yX9_look : MethodName := ⟨RX9, "look", "()I"⟩
abbrev cX9_letterOf : ByteArray := prog_11_method_6_code
def yX9_letterOf : MethodName := ⟨RX9, "letterOf", "(I)I"⟩
abbrev cX9_must : ByteArray := prog_11_method_7_code
def yX9_must : MethodName := ⟨RX9, "must", "(I)Z"⟩
abbrev cX9_nameLine : ByteArray := prog_11_method_8_code
def yX9_nameLine : MethodName := ⟨RX9, "nameLine", "(II)Z"⟩
abbrev cX9_letterLine : ByteArray := prog_11_method_9_code
def yX9_letterLine : MethodName := ⟨RX9, "letterLine", "(I)Z"⟩
abbrev cX9_plusLine : ByteArray := prog_11_method_10_code
def yX9_plusLine : MethodName := ⟨RX9, "plusLine", "(I)Z"⟩
abbrev cX9_qualityLine : ByteArray := prog_11_method_11_code
def yX9_qualityLine : MethodName := ⟨RX9, "qualityLine", "(I)Z"⟩
abbrev cX9_readOne : ByteArray := prog_11_method_12_code
def yX9_readOne : MethodName := ⟨RX9, "readOne", "(I)Z"⟩
abbrev cX9_read : ByteArray := prog_11_method_13_code
def yX9_read : MethodName := ⟨RX9, "read", "(I)I"⟩
abbrev cX9_place : ByteArray := prog_11_method_14_code
def yX9_place : MethodName := ⟨RX9, "place", "()I"⟩
abbrev cX9_isCode : ByteArray := prog_11_method_15_code
def yX9_isCode : MethodName := ⟨RX9, "isCode", "(II)Z"⟩
abbrev cX9_hasCode : ByteArray := prog_11_method_16_code
def yX9_hasCode : MethodName := ⟨RX9, "hasCode", "()Z"⟩
abbrev cX9_barcode : ByteArray := prog_11_method_17_code
def yX9_barcode : MethodName := ⟨RX9, "barcode", "()I"⟩
abbrev cX9_adapter : ByteArray := prog_11_method_18_code
def yX9_adapter : MethodName := ⟨RX9, "adapter", "()I"⟩
abbrev cX9_limits : ByteArray := prog_11_method_19_code
def yX9_limits : MethodName := ⟨RX9, "limits", "(III)Z"⟩
abbrev cX9_spread : ByteArray := prog_11_method_20_code
def yX9_spread : MethodName := ⟨RX9, "spread", "()I"⟩
abbrev cX9_told : ByteArray := prog_11_method_21_code
def yX9_told : MethodName := ⟨RX9, "told", "(I)I"⟩
abbrev cX9_binOf : ByteArray := prog_11_method_22_code
def yX9_binOf : MethodName := ⟨RX9, "binOf", "(III)I"⟩
abbrev cX9_cutAdapter : ByteArray := prog_11_method_23_code
def yX9_cutAdapter : MethodName := ⟨RX9, "cutAdapter", "(I)V"⟩
abbrev cX9_cutQualities : ByteArray := prog_11_method_24_code
def yX9_cutQualities : MethodName := ⟨RX9, "cutQualities", "(I)V"⟩
abbrev cX9_cutNone : ByteArray := prog_11_method_25_code
def yX9_cutNone : MethodName := ⟨RX9, "cutNone", "(I)V"⟩
abbrev cX9_tagAt : ByteArray := prog_11_method_26_code
def yX9_tagAt : MethodName := ⟨RX9, "tagAt", "(II)I"⟩
abbrev cX9_distance : ByteArray := prog_11_method_27_code
def yX9_distance : MethodName := ⟨RX9, "distance", "(II)I"⟩
abbrev cX9_counts : ByteArray := prog_11_method_28_code
def yX9_counts : MethodName := ⟨RX9, "counts", "(II)Z"⟩
abbrev cX9_countOf : ByteArray := prog_11_method_29_code
def yX9_countOf : MethodName := ⟨RX9, "countOf", "(I)I"⟩
abbrev cX9_spreadGroup : ByteArray := prog_11_method_30_code
def yX9_spreadGroup : MethodName := ⟨RX9, "spreadGroup", "(III)V"⟩
abbrev cX9_isBefore : ByteArray := prog_11_method_31_code
def yX9_isBefore : MethodName := ⟨RX9, "isBefore", "(II)Z"⟩
abbrev cX9_groupAll : ByteArray := prog_11_method_32_code
def yX9_groupAll : MethodName := ⟨RX9, "groupAll", "(II)V"⟩
abbrev cX9_sort : ByteArray := prog_11_method_33_code
def yX9_sort : MethodName := ⟨RX9, "sort", "(II)I"⟩
abbrev cX9_noRead : ByteArray := prog_11_method_34_code
def yX9_noRead : MethodName := ⟨RX9, "noRead", "(I)Z"⟩
abbrev cX9_about : ByteArray := prog_11_method_35_code
def yX9_about : MethodName := ⟨RX9, "about", "(II)I"⟩
abbrev cX9_letter : ByteArray := prog_11_method_36_code
def yX9_letter : MethodName := ⟨RX9, "letter", "(III)I"⟩
abbrev cX9_noBin : ByteArray := prog_11_method_37_code
def yX9_noBin : MethodName := ⟨RX9, "noBin", "(I)Z"⟩
abbrev cX9_groupsOf : ByteArray := prog_11_method_38_code
def yX9_groupsOf : MethodName := ⟨RX9, "groupsOf", "(I)I"⟩
abbrev cX9_bin : ByteArray := prog_11_method_39_code
def yX9_bin : MethodName := ⟨RX9, "bin", "(II)I"⟩
abbrev cX9_bestOf : ByteArray := prog_11_method_40_code
def yX9_bestOf : MethodName := ⟨RX9, "bestOf", "(II)I"⟩
abbrev cX9_group : ByteArray := prog_11_method_41_code
def yX9_group : MethodName := ⟨RX9, "group", "(III)I"⟩
abbrev cX9_put : ByteArray := prog_11_method_42_code
def yX9_put : MethodName := ⟨RX9, "put", "(I)V"⟩
abbrev cX9_putRead : ByteArray := prog_11_method_43_code
def yX9_putRead : MethodName := ⟨RX9, "putRead", "(IIII)V"⟩
abbrev cX9_write : ByteArray := prog_11_method_44_code
def yX9_write : MethodName := ⟨RX9, "write", "(IIZ)I"⟩
abbrev cX9_out : ByteArray := prog_11_method_45_code
def yX9_out : MethodName := ⟨RX9, "out", "(I)I"⟩
abbrev cX9_again : ByteArray := prog_11_method_46_code
def yX9_again : MethodName := ⟨RX9, "again", "()I"⟩
def RJ9 : String := "java/lang/Math"
def TJ9 : u_T := fun k => match k with
  | _ => ("", "", "", false)
def tyJ9 : Nat → FieldType := fun k => match k with
  | _ => .int
abbrev wsJ90 : List Cond := u_ws RJ9 TJ9 0
theorem nmJ9 : ∀ a, a < 0 → ∀ b, b < 0 → a ≠ b → (TJ9 a).2.1 ≠ (TJ9 b).2.1 := by decide +kernel
theorem tyJ9_ok : ∀ k, k < 0 → parseFieldDescriptor (TJ9 k).2.2.1 = some (tyJ9 k) := by decide +kernel
abbrev cJ9_max_7cf53 : ByteArray := prog_16_method_65_code
def yJ9_max_7cf53 : MethodName := ⟨RJ9, "max", "(II)I"⟩
abbrev cJ9_min_7cf53 : ByteArray := prog_16_method_69_code
def yJ9_min_7cf53 : MethodName := ⟨RJ9, "min", "(II)I"⟩
def RJ0 : String := "java/lang/String"
def TJ0 : u_T := fun k => match k with
  | _ => ("", "", "", false)
def tyJ0 : Nat → FieldType := fun k => match k with
  | _ => .int
abbrev wsJ00 : List Cond := u_ws RJ0 TJ0 0
theorem nmJ0 : ∀ a, a < 0 → ∀ b, b < 0 → a ≠ b → (TJ0 a).2.1 ≠ (TJ0 b).2.1 := by decide +kernel
theorem tyJ0_ok : ∀ k, k < 0 → parseFieldDescriptor (TJ0 k).2.2.1 = some (tyJ0 k) := by decide +kernel
def RL : String := "ReadBinsLaw"
abbrev cL_feed : ByteArray := method_3_code
def yL_feed : MethodName := ⟨RL, "feed", "(LReadBins;IJ[J)I"⟩
abbrev cL_read : ByteArray := method_4_code
def yL_read : MethodName := ⟨RL, "read", "(LReadBins;I[J)I"⟩
abbrev cL_told : ByteArray := method_5_code
def yL_told : MethodName := ⟨RL, "told", "(LReadBins;I[J)I"⟩
abbrev cL_sort : ByteArray := method_6_code
def yL_sort : MethodName := ⟨RL, "sort", "(LReadBins;II[J)I"⟩
abbrev cL_about : ByteArray := method_7_code
def yL_about : MethodName := ⟨RL, "about", "(LReadBins;II[J)I"⟩
abbrev cL_letter : ByteArray := method_8_code
def yL_letter : MethodName := ⟨RL, "letter", "(LReadBins;III[J)I"⟩
abbrev cL_bin : ByteArray := method_9_code
def yL_bin : MethodName := ⟨RL, "bin", "(LReadBins;II[J)I"⟩
abbrev cL_group : ByteArray := method_10_code
def yL_group : MethodName := ⟨RL, "group", "(LReadBins;III[J)I"⟩
abbrev cL_write : ByteArray := method_11_code
def yL_write : MethodName := ⟨RL, "write", "(LReadBins;IIZ[J)I"⟩
abbrev cL_out : ByteArray := method_12_code
def yL_out : MethodName := ⟨RL, "out", "(LReadBins;I[J)I"⟩
abbrev cL_law : ByteArray := code
def yL_law : MethodName := ⟨RL, "law", "([I)Z"⟩
abbrev vwCl : List vw_C := [(RX0, TX0, 5), (RX1, TX1, 9), (RX2, TX2, 5), (RX3, TX3, 6), (RX4, TX4, 2), (RX5, TX5, 9), (RX6, TX6, 6), (RX8, TX8, 8), (RX9, TX9, 34)]
end
section
theorem dX0_init_0 : decode cX0_init 0 = .ok (.aload_n 0, 1) := by decide +kernel
theorem dX0_init_1 : decode cX0_init 1 = .ok (.invokespecial 3, 3) := by decide +kernel
theorem dX0_init_4 : decode cX0_init 4 = .ok (.aload_n 0, 1) := by decide +kernel
theorem dX0_init_5 : decode cX0_init 5 = .ok (.sipush 192, 3) := by decide +kernel
theorem dX0_init_8 : decode cX0_init 8 = .ok (.newarray .int, 2) := by decide +kernel
theorem dX0_init_10 : decode cX0_init 10 = .ok (.putfield 9, 3) := by decide +kernel
theorem dX0_init_13 : decode cX0_init 13 = .ok (.aload_n 0, 1) := by decide +kernel
theorem dX0_init_14 : decode cX0_init 14 = .ok (.new 15, 3) := by decide +kernel
theorem dX0_init_17 : decode cX0_init 17 = .ok (.dup, 1) := by decide +kernel
theorem dX0_init_18 : decode cX0_init 18 = .ok (.bipush 12, 2) := by decide +kernel
theorem dX0_init_20 : decode cX0_init 20 = .ok (.invokespecial 17, 3) := by decide +kernel
theorem dX0_init_23 : decode cX0_init 23 = .ok (.putfield 20, 3) := by decide +kernel
theorem dX0_init_26 : decode cX0_init 26 = .ok (.aload_n 0, 1) := by decide +kernel
theorem dX0_init_27 : decode cX0_init 27 = .ok (.bipush 13, 2) := by decide +kernel
theorem dX0_init_29 : decode cX0_init 29 = .ok (.putfield 24, 3) := by decide +kernel
theorem dX0_init_32 : decode cX0_init 32 = .ok (.return_, 1) := by decide +kernel
theorem dX0_count_0 : decode cX0_count 0 = .ok (.aload_n 0, 1) := by decide +kernel
theorem dX0_count_1 : decode cX0_count 1 = .ok (.getfield 28, 3) := by decide +kernel
theorem dX0_count_4 : decode cX0_count 4 = .ok (.ireturn, 1) := by decide +kernel
theorem dX0_length_0 : decode cX0_length 0 = .ok (.aload_n 0, 1) := by decide +kernel
theorem dX0_length_1 : decode cX0_length 1 = .ok (.getfield 31, 3) := by decide +kernel
theorem dX0_length_4 : decode cX0_length 4 = .ok (.ireturn, 1) := by decide +kernel
theorem dX0_spread_0 : decode cX0_spread 0 = .ok (.aload_n 0, 1) := by decide +kernel
theorem dX0_spread_1 : decode cX0_spread 1 = .ok (.getfield 24, 3) := by decide +kernel
theorem dX0_spread_4 : decode cX0_spread 4 = .ok (.ireturn, 1) := by decide +kernel
theorem dX0_take_0 : decode cX0_take 0 = .ok (.aload_n 0, 1) := by decide +kernel
theorem dX0_take_1 : decode cX0_take 1 = .ok (.getfield 28, 3) := by decide +kernel
theorem dX0_take_4 : decode cX0_take 4 = .ok (.bipush 16, 2) := by decide +kernel
theorem dX0_take_6 : decode cX0_take 6 = .ok (.if_icmp .ge 13, 3) := by decide +kernel
theorem dX0_take_9 : decode cX0_take 9 = .ok (.aload_n 1, 1) := by decide +kernel
theorem dX0_take_10 : decode cX0_take 10 = .ok (.iconst 1, 1) := by decide +kernel
theorem dX0_take_11 : decode cX0_take 11 = .ok (.bipush 12, 2) := by decide +kernel
theorem dX0_take_13 : decode cX0_take 13 = .ok (.invokevirtual 34, 3) := by decide +kernel
theorem dX0_take_16 : decode cX0_take 16 = .ok (.ifCond .ne 5, 3) := by decide +kernel
theorem dX0_take_19 : decode cX0_take 19 = .ok (.iconst (-1), 1) := by decide +kernel
theorem dX0_take_20 : decode cX0_take 20 = .ok (.ireturn, 1) := by decide +kernel
theorem dX0_take_21 : decode cX0_take 21 = .ok (.aload_n 0, 1) := by decide +kernel
theorem dX0_take_22 : decode cX0_take 22 = .ok (.getfield 28, 3) := by decide +kernel
theorem dX0_take_25 : decode cX0_take 25 = .ok (.ifCond .le 16, 3) := by decide +kernel
theorem dX0_take_28 : decode cX0_take 28 = .ok (.aload_n 1, 1) := by decide +kernel
theorem dX0_take_29 : decode cX0_take 29 = .ok (.invokevirtual 38, 3) := by decide +kernel
theorem dX0_take_32 : decode cX0_take 32 = .ok (.aload_n 0, 1) := by decide +kernel
theorem dX0_take_33 : decode cX0_take 33 = .ok (.getfield 31, 3) := by decide +kernel
theorem dX0_take_36 : decode cX0_take 36 = .ok (.if_icmp .eq 5, 3) := by decide +kernel
theorem dX0_take_39 : decode cX0_take 39 = .ok (.iconst (-1), 1) := by decide +kernel
theorem dX0_take_40 : decode cX0_take 40 = .ok (.ireturn, 1) := by decide +kernel
theorem dX0_take_41 : decode cX0_take 41 = .ok (.bipush 13, 2) := by decide +kernel
theorem dX0_take_43 : decode cX0_take 43 = .ok (.istore_n 2, 1) := by decide +kernel
theorem dX0_take_44 : decode cX0_take 44 = .ok (.iconst 0, 1) := by decide +kernel
theorem dX0_take_45 : decode cX0_take 45 = .ok (.istore_n 3, 1) := by decide +kernel
theorem dX0_take_46 : decode cX0_take 46 = .ok (.iload_n 3, 1) := by decide +kernel
theorem dX0_take_47 : decode cX0_take 47 = .ok (.aload_n 0, 1) := by decide +kernel
theorem dX0_take_48 : decode cX0_take 48 = .ok (.getfield 28, 3) := by decide +kernel
theorem dX0_take_51 : decode cX0_take 51 = .ok (.if_icmp .ge 20, 3) := by decide +kernel
theorem dX0_take_54 : decode cX0_take 54 = .ok (.iload_n 2, 1) := by decide +kernel
theorem dX0_take_55 : decode cX0_take 55 = .ok (.aload_n 0, 1) := by decide +kernel
theorem dX0_take_56 : decode cX0_take 56 = .ok (.iload_n 3, 1) := by decide +kernel
theorem dX0_take_57 : decode cX0_take 57 = .ok (.aload_n 1, 1) := by decide +kernel
theorem dX0_take_58 : decode cX0_take 58 = .ok (.invokevirtual 42, 3) := by decide +kernel
theorem dX0_take_61 : decode cX0_take 61 = .ok (.invokestatic 46, 3) := by decide +kernel
theorem dX0_take_64 : decode cX0_take 64 = .ok (.istore_n 2, 1) := by decide +kernel
theorem dX0_take_65 : decode cX0_take 65 = .ok (.iinc 3 1, 3) := by decide +kernel
theorem dX0_take_68 : decode cX0_take 68 = .ok (.goto (-22), 3) := by decide +kernel
theorem dX0_take_71 : decode cX0_take 71 = .ok (.iload_n 2, 1) := by decide +kernel
theorem dX0_take_72 : decode cX0_take 72 = .ok (.ifCond .ne 5, 3) := by decide +kernel
theorem dX0_take_75 : decode cX0_take 75 = .ok (.iconst (-1), 1) := by decide +kernel
theorem dX0_take_76 : decode cX0_take 76 = .ok (.ireturn, 1) := by decide +kernel
theorem dX0_take_77 : decode cX0_take 77 = .ok (.aload_n 0, 1) := by decide +kernel
theorem dX0_take_78 : decode cX0_take 78 = .ok (.aload_n 1, 1) := by decide +kernel
theorem dX0_take_79 : decode cX0_take 79 = .ok (.invokevirtual 38, 3) := by decide +kernel
theorem dX0_take_82 : decode cX0_take 82 = .ok (.putfield 31, 3) := by decide +kernel
theorem dX0_take_85 : decode cX0_take 85 = .ok (.aload_n 0, 1) := by decide +kernel
theorem dX0_take_86 : decode cX0_take 86 = .ok (.aload_n 0, 1) := by decide +kernel
theorem dX0_take_87 : decode cX0_take 87 = .ok (.getfield 24, 3) := by decide +kernel
theorem dX0_take_90 : decode cX0_take 90 = .ok (.iload_n 2, 1) := by decide +kernel
theorem dX0_take_91 : decode cX0_take 91 = .ok (.invokestatic 46, 3) := by decide +kernel
theorem dX0_take_94 : decode cX0_take 94 = .ok (.putfield 24, 3) := by decide +kernel
theorem dX0_take_97 : decode cX0_take 97 = .ok (.aload_n 0, 1) := by decide +kernel
theorem dX0_take_98 : decode cX0_take 98 = .ok (.aload_n 1, 1) := by decide +kernel
theorem dX0_take_99 : decode cX0_take 99 = .ok (.invokevirtual 52, 3) := by decide +kernel
theorem dX0_take_102 : decode cX0_take 102 = .ok (.aload_n 0, 1) := by decide +kernel
theorem dX0_take_103 : decode cX0_take 103 = .ok (.getfield 28, 3) := by decide +kernel
theorem dX0_take_106 : decode cX0_take 106 = .ok (.iconst 1, 1) := by decide +kernel
theorem dX0_take_107 : decode cX0_take 107 = .ok (.isub, 1) := by decide +kernel
theorem dX0_take_108 : decode cX0_take 108 = .ok (.ireturn, 1) := by decide +kernel
theorem dX0_nearTo_0 : decode cX0_nearTo 0 = .ok (.aload_n 0, 1) := by decide +kernel
theorem dX0_nearTo_1 : decode cX0_nearTo 1 = .ok (.getfield 20, 3) := by decide +kernel
theorem dX0_nearTo_4 : decode cX0_nearTo 4 = .ok (.invokevirtual 56, 3) := by decide +kernel
theorem dX0_nearTo_7 : decode cX0_nearTo 7 = .ok (.iconst 0, 1) := by decide +kernel
theorem dX0_nearTo_8 : decode cX0_nearTo 8 = .ok (.istore_n 3, 1) := by decide +kernel
theorem dX0_nearTo_9 : decode cX0_nearTo 9 = .ok (.iload_n 3, 1) := by decide +kernel
theorem dX0_nearTo_10 : decode cX0_nearTo 10 = .ok (.aload_n 0, 1) := by decide +kernel
theorem dX0_nearTo_11 : decode cX0_nearTo 11 = .ok (.getfield 31, 3) := by decide +kernel
theorem dX0_nearTo_14 : decode cX0_nearTo 14 = .ok (.if_icmp .ge 22, 3) := by decide +kernel
theorem dX0_nearTo_17 : decode cX0_nearTo 17 = .ok (.aload_n 0, 1) := by decide +kernel
theorem dX0_nearTo_18 : decode cX0_nearTo 18 = .ok (.getfield 20, 3) := by decide +kernel
theorem dX0_nearTo_21 : decode cX0_nearTo 21 = .ok (.aload_n 1, 1) := by decide +kernel
theorem dX0_nearTo_22 : decode cX0_nearTo 22 = .ok (.iload_n 2, 1) := by decide +kernel
theorem dX0_nearTo_23 : decode cX0_nearTo 23 = .ok (.iload_n 3, 1) := by decide +kernel
theorem dX0_nearTo_24 : decode cX0_nearTo 24 = .ok (.invokevirtual 59, 3) := by decide +kernel
theorem dX0_nearTo_27 : decode cX0_nearTo 27 = .ok (.invokevirtual 64, 3) := by decide +kernel
theorem dX0_nearTo_30 : decode cX0_nearTo 30 = .ok (.iinc 3 1, 3) := by decide +kernel
theorem dX0_nearTo_33 : decode cX0_nearTo 33 = .ok (.goto (-24), 3) := by decide +kernel
theorem dX0_nearTo_36 : decode cX0_nearTo 36 = .ok (.aload_n 0, 1) := by decide +kernel
theorem dX0_nearTo_37 : decode cX0_nearTo 37 = .ok (.getfield 24, 3) := by decide +kernel
theorem dX0_nearTo_40 : decode cX0_nearTo 40 = .ok (.iconst 1, 1) := by decide +kernel
theorem dX0_nearTo_41 : decode cX0_nearTo 41 = .ok (.isub, 1) := by decide +kernel
theorem dX0_nearTo_42 : decode cX0_nearTo 42 = .ok (.iconst 2, 1) := by decide +kernel
theorem dX0_nearTo_43 : decode cX0_nearTo 43 = .ok (.idiv, 1) := by decide +kernel
theorem dX0_nearTo_44 : decode cX0_nearTo 44 = .ok (.istore_n 3, 1) := by decide +kernel
theorem dX0_nearTo_45 : decode cX0_nearTo 45 = .ok (.iconst 0, 1) := by decide +kernel
theorem dX0_nearTo_46 : decode cX0_nearTo 46 = .ok (.istore 4, 2) := by decide +kernel
theorem dX0_nearTo_48 : decode cX0_nearTo 48 = .ok (.iload 4, 2) := by decide +kernel
theorem dX0_nearTo_50 : decode cX0_nearTo 50 = .ok (.aload_n 0, 1) := by decide +kernel
theorem dX0_nearTo_51 : decode cX0_nearTo 51 = .ok (.getfield 28, 3) := by decide +kernel
theorem dX0_nearTo_54 : decode cX0_nearTo 54 = .ok (.if_icmp .ge 26, 3) := by decide +kernel
theorem dX0_nearTo_57 : decode cX0_nearTo 57 = .ok (.aload_n 0, 1) := by decide +kernel
theorem dX0_nearTo_58 : decode cX0_nearTo 58 = .ok (.iload 4, 2) := by decide +kernel
theorem dX0_nearTo_60 : decode cX0_nearTo 60 = .ok (.aload_n 0, 1) := by decide +kernel
theorem dX0_nearTo_61 : decode cX0_nearTo 61 = .ok (.getfield 20, 3) := by decide +kernel
theorem dX0_nearTo_64 : decode cX0_nearTo 64 = .ok (.invokevirtual 42, 3) := by decide +kernel
theorem dX0_nearTo_67 : decode cX0_nearTo 67 = .ok (.iload_n 3, 1) := by decide +kernel
theorem dX0_nearTo_68 : decode cX0_nearTo 68 = .ok (.if_icmp .gt 6, 3) := by decide +kernel
theorem dX0_nearTo_71 : decode cX0_nearTo 71 = .ok (.iload 4, 2) := by decide +kernel
theorem dX0_nearTo_73 : decode cX0_nearTo 73 = .ok (.ireturn, 1) := by decide +kernel
theorem dX0_nearTo_74 : decode cX0_nearTo 74 = .ok (.iinc 4 1, 3) := by decide +kernel
theorem dX0_nearTo_77 : decode cX0_nearTo 77 = .ok (.goto (-29), 3) := by decide +kernel
theorem dX0_nearTo_80 : decode cX0_nearTo 80 = .ok (.iconst (-1), 1) := by decide +kernel
theorem dX0_nearTo_81 : decode cX0_nearTo 81 = .ok (.ireturn, 1) := by decide +kernel
theorem dX0_keep_0 : decode cX0_keep 0 = .ok (.iconst 0, 1) := by decide +kernel
theorem dX0_keep_1 : decode cX0_keep 1 = .ok (.istore_n 2, 1) := by decide +kernel
theorem dX0_keep_2 : decode cX0_keep 2 = .ok (.iload_n 2, 1) := by decide +kernel
theorem dX0_keep_3 : decode cX0_keep 3 = .ok (.aload_n 0, 1) := by decide +kernel
theorem dX0_keep_4 : decode cX0_keep 4 = .ok (.getfield 31, 3) := by decide +kernel
theorem dX0_keep_7 : decode cX0_keep 7 = .ok (.if_icmp .ge 43, 3) := by decide +kernel
theorem dX0_keep_10 : decode cX0_keep 10 = .ok (.aload_n 0, 1) := by decide +kernel
theorem dX0_keep_11 : decode cX0_keep 11 = .ok (.getfield 28, 3) := by decide +kernel
theorem dX0_keep_14 : decode cX0_keep 14 = .ok (.bipush 12, 2) := by decide +kernel
theorem dX0_keep_16 : decode cX0_keep 16 = .ok (.imul, 1) := by decide +kernel
theorem dX0_keep_17 : decode cX0_keep 17 = .ok (.iload_n 2, 1) := by decide +kernel
theorem dX0_keep_18 : decode cX0_keep 18 = .ok (.iadd, 1) := by decide +kernel
theorem dX0_keep_19 : decode cX0_keep 19 = .ok (.istore_n 3, 1) := by decide +kernel
theorem dX0_keep_20 : decode cX0_keep 20 = .ok (.iload_n 3, 1) := by decide +kernel
theorem dX0_keep_21 : decode cX0_keep 21 = .ok (.ifCond .lt 23, 3) := by decide +kernel
theorem dX0_keep_24 : decode cX0_keep 24 = .ok (.iload_n 3, 1) := by decide +kernel
theorem dX0_keep_25 : decode cX0_keep 25 = .ok (.aload_n 0, 1) := by decide +kernel
theorem dX0_keep_26 : decode cX0_keep 26 = .ok (.getfield 9, 3) := by decide +kernel
theorem dX0_keep_29 : decode cX0_keep 29 = .ok (.arraylength, 1) := by decide +kernel
theorem dX0_keep_30 : decode cX0_keep 30 = .ok (.if_icmp .ge 14, 3) := by decide +kernel
theorem dX0_keep_33 : decode cX0_keep 33 = .ok (.aload_n 0, 1) := by decide +kernel
theorem dX0_keep_34 : decode cX0_keep 34 = .ok (.getfield 9, 3) := by decide +kernel
theorem dX0_keep_37 : decode cX0_keep 37 = .ok (.iload_n 3, 1) := by decide +kernel
theorem dX0_keep_38 : decode cX0_keep 38 = .ok (.aload_n 1, 1) := by decide +kernel
theorem dX0_keep_39 : decode cX0_keep 39 = .ok (.iload_n 2, 1) := by decide +kernel
theorem dX0_keep_40 : decode cX0_keep 40 = .ok (.invokevirtual 67, 3) := by decide +kernel
theorem dX0_keep_43 : decode cX0_keep 43 = .ok (.iastore, 1) := by decide +kernel
theorem dX0_keep_44 : decode cX0_keep 44 = .ok (.iinc 2 1, 3) := by decide +kernel
theorem dX0_keep_47 : decode cX0_keep 47 = .ok (.goto (-45), 3) := by decide +kernel
theorem dX0_keep_50 : decode cX0_keep 50 = .ok (.aload_n 0, 1) := by decide +kernel
theorem dX0_keep_51 : decode cX0_keep 51 = .ok (.dup, 1) := by decide +kernel
theorem dX0_keep_52 : decode cX0_keep 52 = .ok (.getfield 28, 3) := by decide +kernel
theorem dX0_keep_55 : decode cX0_keep 55 = .ok (.iconst 1, 1) := by decide +kernel
theorem dX0_keep_56 : decode cX0_keep 56 = .ok (.iadd, 1) := by decide +kernel
theorem dX0_keep_57 : decode cX0_keep 57 = .ok (.putfield 28, 3) := by decide +kernel
theorem dX0_keep_60 : decode cX0_keep 60 = .ok (.return_, 1) := by decide +kernel
theorem dX0_distance_0 : decode cX0_distance 0 = .ok (.iconst 0, 1) := by decide +kernel
theorem dX0_distance_1 : decode cX0_distance 1 = .ok (.istore_n 3, 1) := by decide +kernel
theorem dX0_distance_2 : decode cX0_distance 2 = .ok (.iconst 0, 1) := by decide +kernel
theorem dX0_distance_3 : decode cX0_distance 3 = .ok (.istore 4, 2) := by decide +kernel
theorem dX0_distance_5 : decode cX0_distance 5 = .ok (.iload 4, 2) := by decide +kernel
theorem dX0_distance_7 : decode cX0_distance 7 = .ok (.aload_n 0, 1) := by decide +kernel
theorem dX0_distance_8 : decode cX0_distance 8 = .ok (.getfield 31, 3) := by decide +kernel
theorem dX0_distance_11 : decode cX0_distance 11 = .ok (.if_icmp .ge 52, 3) := by decide +kernel
theorem dX0_distance_14 : decode cX0_distance 14 = .ok (.iload_n 1, 1) := by decide +kernel
theorem dX0_distance_15 : decode cX0_distance 15 = .ok (.bipush 12, 2) := by decide +kernel
theorem dX0_distance_17 : decode cX0_distance 17 = .ok (.imul, 1) := by decide +kernel
theorem dX0_distance_18 : decode cX0_distance 18 = .ok (.iload 4, 2) := by decide +kernel
theorem dX0_distance_20 : decode cX0_distance 20 = .ok (.iadd, 1) := by decide +kernel
theorem dX0_distance_21 : decode cX0_distance 21 = .ok (.istore 5, 2) := by decide +kernel
theorem dX0_distance_23 : decode cX0_distance 23 = .ok (.iload 5, 2) := by decide +kernel
theorem dX0_distance_25 : decode cX0_distance 25 = .ok (.ifCond .lt 32, 3) := by decide +kernel
theorem dX0_distance_28 : decode cX0_distance 28 = .ok (.iload 5, 2) := by decide +kernel
theorem dX0_distance_30 : decode cX0_distance 30 = .ok (.aload_n 0, 1) := by decide +kernel
theorem dX0_distance_31 : decode cX0_distance 31 = .ok (.getfield 9, 3) := by decide +kernel
theorem dX0_distance_34 : decode cX0_distance 34 = .ok (.arraylength, 1) := by decide +kernel
theorem dX0_distance_35 : decode cX0_distance 35 = .ok (.if_icmp .ge 22, 3) := by decide +kernel
theorem dX0_distance_38 : decode cX0_distance 38 = .ok (.aload_n 0, 1) := by decide +kernel
theorem dX0_distance_39 : decode cX0_distance 39 = .ok (.getfield 9, 3) := by decide +kernel
theorem dX0_distance_42 : decode cX0_distance 42 = .ok (.iload 5, 2) := by decide +kernel
theorem dX0_distance_44 : decode cX0_distance 44 = .ok (.iaload, 1) := by decide +kernel
theorem dX0_distance_45 : decode cX0_distance 45 = .ok (.aload_n 2, 1) := by decide +kernel
theorem dX0_distance_46 : decode cX0_distance 46 = .ok (.iload 4, 2) := by decide +kernel
theorem dX0_distance_48 : decode cX0_distance 48 = .ok (.invokevirtual 67, 3) := by decide +kernel
theorem dX0_distance_51 : decode cX0_distance 51 = .ok (.if_icmp .eq 6, 3) := by decide +kernel
theorem dX0_distance_54 : decode cX0_distance 54 = .ok (.iinc 3 1, 3) := by decide +kernel
theorem dX0_distance_57 : decode cX0_distance 57 = .ok (.iinc 4 1, 3) := by decide +kernel
theorem dX0_distance_60 : decode cX0_distance 60 = .ok (.goto (-55), 3) := by decide +kernel
theorem dX0_distance_63 : decode cX0_distance 63 = .ok (.iload_n 3, 1) := by decide +kernel
theorem dX0_distance_64 : decode cX0_distance 64 = .ok (.ireturn, 1) := by decide +kernel
theorem dX1_init_0 : decode cX1_init 0 = .ok (.aload_n 0, 1) := by decide +kernel
theorem dX1_init_1 : decode cX1_init 1 = .ok (.invokespecial 3, 3) := by decide +kernel
theorem dX1_init_4 : decode cX1_init 4 = .ok (.aload_n 0, 1) := by decide +kernel
theorem dX1_init_5 : decode cX1_init 5 = .ok (.sipush 720, 3) := by decide +kernel
theorem dX1_init_8 : decode cX1_init 8 = .ok (.newarray .int, 2) := by decide +kernel
theorem dX1_init_10 : decode cX1_init 10 = .ok (.putfield 9, 3) := by decide +kernel
theorem dX1_init_13 : decode cX1_init 13 = .ok (.aload_n 0, 1) := by decide +kernel
theorem dX1_init_14 : decode cX1_init 14 = .ok (.bipush 60, 2) := by decide +kernel
theorem dX1_init_16 : decode cX1_init 16 = .ok (.newarray .int, 2) := by decide +kernel
theorem dX1_init_18 : decode cX1_init 18 = .ok (.putfield 15, 3) := by decide +kernel
theorem dX1_init_21 : decode cX1_init 21 = .ok (.aload_n 0, 1) := by decide +kernel
theorem dX1_init_22 : decode cX1_init 22 = .ok (.bipush 60, 2) := by decide +kernel
theorem dX1_init_24 : decode cX1_init 24 = .ok (.newarray .int, 2) := by decide +kernel
theorem dX1_init_26 : decode cX1_init 26 = .ok (.putfield 18, 3) := by decide +kernel
theorem dX1_init_29 : decode cX1_init 29 = .ok (.aload_n 0, 1) := by decide +kernel
theorem dX1_init_30 : decode cX1_init 30 = .ok (.bipush 60, 2) := by decide +kernel
theorem dX1_init_32 : decode cX1_init 32 = .ok (.newarray .int, 2) := by decide +kernel
theorem dX1_init_34 : decode cX1_init 34 = .ok (.putfield 21, 3) := by decide +kernel
theorem dX1_init_37 : decode cX1_init 37 = .ok (.aload_n 0, 1) := by decide +kernel
theorem dX1_init_38 : decode cX1_init 38 = .ok (.bipush 60, 2) := by decide +kernel
theorem dX1_init_40 : decode cX1_init 40 = .ok (.newarray .int, 2) := by decide +kernel
theorem dX1_init_42 : decode cX1_init 42 = .ok (.putfield 24, 3) := by decide +kernel
theorem dX1_init_45 : decode cX1_init 45 = .ok (.aload_n 0, 1) := by decide +kernel
theorem dX1_init_46 : decode cX1_init 46 = .ok (.bipush 60, 2) := by decide +kernel
theorem dX1_init_48 : decode cX1_init 48 = .ok (.newarray .int, 2) := by decide +kernel
theorem dX1_init_50 : decode cX1_init 50 = .ok (.putfield 27, 3) := by decide +kernel
theorem dX1_init_53 : decode cX1_init 53 = .ok (.aload_n 0, 1) := by decide +kernel
theorem dX1_init_54 : decode cX1_init 54 = .ok (.bipush 16, 2) := by decide +kernel
theorem dX1_init_56 : decode cX1_init 56 = .ok (.newarray .int, 2) := by decide +kernel
theorem dX1_init_58 : decode cX1_init 58 = .ok (.putfield 30, 3) := by decide +kernel
theorem dX1_init_61 : decode cX1_init 61 = .ok (.return_, 1) := by decide +kernel
theorem dX1_restart_0 : decode cX1_restart 0 = .ok (.aload_n 0, 1) := by decide +kernel
theorem dX1_restart_1 : decode cX1_restart 1 = .ok (.iload_n 1, 1) := by decide +kernel
theorem dX1_restart_2 : decode cX1_restart 2 = .ok (.bipush 12, 2) := by decide +kernel
theorem dX1_restart_4 : decode cX1_restart 4 = .ok (.invokestatic 33, 3) := by decide +kernel
theorem dX1_restart_7 : decode cX1_restart 7 = .ok (.putfield 39, 3) := by decide +kernel
theorem dX1_restart_10 : decode cX1_restart 10 = .ok (.aload_n 0, 1) := by decide +kernel
theorem dX1_restart_11 : decode cX1_restart 11 = .ok (.iload_n 2, 1) := by decide +kernel
theorem dX1_restart_12 : decode cX1_restart 12 = .ok (.iconst 1, 1) := by decide +kernel
theorem dX1_restart_13 : decode cX1_restart 13 = .ok (.if_icmp .ne 7, 3) := by decide +kernel
theorem dX1_restart_16 : decode cX1_restart 16 = .ok (.iconst 1, 1) := by decide +kernel
theorem dX1_restart_17 : decode cX1_restart 17 = .ok (.goto 4, 3) := by decide +kernel
theorem dX1_restart_20 : decode cX1_restart 20 = .ok (.iconst 0, 1) := by decide +kernel
theorem dX1_restart_21 : decode cX1_restart 21 = .ok (.putfield 43, 3) := by decide +kernel
theorem dX1_restart_24 : decode cX1_restart 24 = .ok (.iconst 0, 1) := by decide +kernel
theorem dX1_restart_25 : decode cX1_restart 25 = .ok (.istore_n 3, 1) := by decide +kernel
theorem dX1_restart_26 : decode cX1_restart 26 = .ok (.iload_n 3, 1) := by decide +kernel
theorem dX1_restart_27 : decode cX1_restart 27 = .ok (.bipush 60, 2) := by decide +kernel
theorem dX1_restart_29 : decode cX1_restart 29 = .ok (.if_icmp .ge 37, 3) := by decide +kernel
theorem dX1_restart_32 : decode cX1_restart 32 = .ok (.aload_n 0, 1) := by decide +kernel
theorem dX1_restart_33 : decode cX1_restart 33 = .ok (.getfield 15, 3) := by decide +kernel
theorem dX1_restart_36 : decode cX1_restart 36 = .ok (.iload_n 3, 1) := by decide +kernel
theorem dX1_restart_37 : decode cX1_restart 37 = .ok (.iconst (-1), 1) := by decide +kernel
theorem dX1_restart_38 : decode cX1_restart 38 = .ok (.iastore, 1) := by decide +kernel
theorem dX1_restart_39 : decode cX1_restart 39 = .ok (.aload_n 0, 1) := by decide +kernel
theorem dX1_restart_40 : decode cX1_restart 40 = .ok (.getfield 18, 3) := by decide +kernel
theorem dX1_restart_43 : decode cX1_restart 43 = .ok (.iload_n 3, 1) := by decide +kernel
theorem dX1_restart_44 : decode cX1_restart 44 = .ok (.iconst (-1), 1) := by decide +kernel
theorem dX1_restart_45 : decode cX1_restart 45 = .ok (.iastore, 1) := by decide +kernel
theorem dX1_restart_46 : decode cX1_restart 46 = .ok (.aload_n 0, 1) := by decide +kernel
theorem dX1_restart_47 : decode cX1_restart 47 = .ok (.getfield 21, 3) := by decide +kernel
theorem dX1_restart_50 : decode cX1_restart 50 = .ok (.iload_n 3, 1) := by decide +kernel
theorem dX1_restart_51 : decode cX1_restart 51 = .ok (.iconst 0, 1) := by decide +kernel
theorem dX1_restart_52 : decode cX1_restart 52 = .ok (.iastore, 1) := by decide +kernel
theorem dX1_restart_53 : decode cX1_restart 53 = .ok (.aload_n 0, 1) := by decide +kernel
theorem dX1_restart_54 : decode cX1_restart 54 = .ok (.getfield 24, 3) := by decide +kernel
theorem dX1_restart_57 : decode cX1_restart 57 = .ok (.iload_n 3, 1) := by decide +kernel
theorem dX1_restart_58 : decode cX1_restart 58 = .ok (.iconst (-1), 1) := by decide +kernel
theorem dX1_restart_59 : decode cX1_restart 59 = .ok (.iastore, 1) := by decide +kernel
theorem dX1_restart_60 : decode cX1_restart 60 = .ok (.iinc 3 1, 3) := by decide +kernel
theorem dX1_restart_63 : decode cX1_restart 63 = .ok (.goto (-37), 3) := by decide +kernel
theorem dX1_restart_66 : decode cX1_restart 66 = .ok (.iconst 0, 1) := by decide +kernel
theorem dX1_restart_67 : decode cX1_restart 67 = .ok (.istore_n 3, 1) := by decide +kernel
theorem dX1_restart_68 : decode cX1_restart 68 = .ok (.iload_n 3, 1) := by decide +kernel
theorem dX1_restart_69 : decode cX1_restart 69 = .ok (.bipush 16, 2) := by decide +kernel
theorem dX1_restart_71 : decode cX1_restart 71 = .ok (.if_icmp .ge 16, 3) := by decide +kernel
theorem dX1_restart_74 : decode cX1_restart 74 = .ok (.aload_n 0, 1) := by decide +kernel
theorem dX1_restart_75 : decode cX1_restart 75 = .ok (.getfield 30, 3) := by decide +kernel
theorem dX1_restart_78 : decode cX1_restart 78 = .ok (.iload_n 3, 1) := by decide +kernel
theorem dX1_restart_79 : decode cX1_restart 79 = .ok (.iconst 0, 1) := by decide +kernel
theorem dX1_restart_80 : decode cX1_restart 80 = .ok (.iastore, 1) := by decide +kernel
theorem dX1_restart_81 : decode cX1_restart 81 = .ok (.iinc 3 1, 3) := by decide +kernel
theorem dX1_restart_84 : decode cX1_restart 84 = .ok (.goto (-16), 3) := by decide +kernel
theorem dX1_restart_87 : decode cX1_restart 87 = .ok (.return_, 1) := by decide +kernel
theorem dX1_enter_0 : decode cX1_enter 0 = .ok (.iload_n 2, 1) := by decide +kernel
theorem dX1_enter_1 : decode cX1_enter 1 = .ok (.invokestatic 47, 3) := by decide +kernel
theorem dX1_enter_4 : decode cX1_enter 4 = .ok (.ifCond .ne 4, 3) := by decide +kernel
theorem dX1_enter_7 : decode cX1_enter 7 = .ok (.return_, 1) := by decide +kernel
theorem dX1_enter_8 : decode cX1_enter 8 = .ok (.iconst 0, 1) := by decide +kernel
theorem dX1_enter_9 : decode cX1_enter 9 = .ok (.istore 5, 2) := by decide +kernel
theorem dX1_enter_11 : decode cX1_enter 11 = .ok (.iload 5, 2) := by decide +kernel
theorem dX1_enter_13 : decode cX1_enter 13 = .ok (.aload_n 0, 1) := by decide +kernel
theorem dX1_enter_14 : decode cX1_enter 14 = .ok (.getfield 39, 3) := by decide +kernel
theorem dX1_enter_17 : decode cX1_enter 17 = .ok (.if_icmp .ge 31, 3) := by decide +kernel
theorem dX1_enter_20 : decode cX1_enter 20 = .ok (.aload_n 0, 1) := by decide +kernel
theorem dX1_enter_21 : decode cX1_enter 21 = .ok (.getfield 9, 3) := by decide +kernel
theorem dX1_enter_24 : decode cX1_enter 24 = .ok (.iload_n 2, 1) := by decide +kernel
theorem dX1_enter_25 : decode cX1_enter 25 = .ok (.bipush 12, 2) := by decide +kernel
theorem dX1_enter_27 : decode cX1_enter 27 = .ok (.imul, 1) := by decide +kernel
theorem dX1_enter_28 : decode cX1_enter 28 = .ok (.iload 5, 2) := by decide +kernel
theorem dX1_enter_30 : decode cX1_enter 30 = .ok (.iadd, 1) := by decide +kernel
theorem dX1_enter_31 : decode cX1_enter 31 = .ok (.aload_n 1, 1) := by decide +kernel
theorem dX1_enter_32 : decode cX1_enter 32 = .ok (.iload_n 2, 1) := by decide +kernel
theorem dX1_enter_33 : decode cX1_enter 33 = .ok (.iload 4, 2) := by decide +kernel
theorem dX1_enter_35 : decode cX1_enter 35 = .ok (.iload 5, 2) := by decide +kernel
theorem dX1_enter_37 : decode cX1_enter 37 = .ok (.iadd, 1) := by decide +kernel
theorem dX1_enter_38 : decode cX1_enter 38 = .ok (.invokevirtual 51, 3) := by decide +kernel
theorem dX1_enter_41 : decode cX1_enter 41 = .ok (.iastore, 1) := by decide +kernel
theorem dX1_enter_42 : decode cX1_enter 42 = .ok (.iinc 5 1, 3) := by decide +kernel
theorem dX1_enter_45 : decode cX1_enter 45 = .ok (.goto (-34), 3) := by decide +kernel
theorem dX1_enter_48 : decode cX1_enter 48 = .ok (.aload_n 0, 1) := by decide +kernel
theorem dX1_enter_49 : decode cX1_enter 49 = .ok (.getfield 15, 3) := by decide +kernel
theorem dX1_enter_52 : decode cX1_enter 52 = .ok (.iload_n 2, 1) := by decide +kernel
theorem dX1_enter_53 : decode cX1_enter 53 = .ok (.iload_n 3, 1) := by decide +kernel
theorem dX1_enter_54 : decode cX1_enter 54 = .ok (.iastore, 1) := by decide +kernel
theorem dX1_enter_55 : decode cX1_enter 55 = .ok (.aload_n 0, 1) := by decide +kernel
theorem dX1_enter_56 : decode cX1_enter 56 = .ok (.iload_n 2, 1) := by decide +kernel
theorem dX1_enter_57 : decode cX1_enter 57 = .ok (.invokevirtual 56, 3) := by decide +kernel
theorem dX1_enter_60 : decode cX1_enter 60 = .ok (.istore 5, 2) := by decide +kernel
theorem dX1_enter_62 : decode cX1_enter 62 = .ok (.aload_n 0, 1) := by decide +kernel
theorem dX1_enter_63 : decode cX1_enter 63 = .ok (.getfield 18, 3) := by decide +kernel
theorem dX1_enter_66 : decode cX1_enter 66 = .ok (.iload_n 2, 1) := by decide +kernel
theorem dX1_enter_67 : decode cX1_enter 67 = .ok (.iload 5, 2) := by decide +kernel
theorem dX1_enter_69 : decode cX1_enter 69 = .ok (.iastore, 1) := by decide +kernel
theorem dX1_enter_70 : decode cX1_enter 70 = .ok (.aload_n 0, 1) := by decide +kernel
theorem dX1_enter_71 : decode cX1_enter 71 = .ok (.getfield 21, 3) := by decide +kernel
theorem dX1_enter_74 : decode cX1_enter 74 = .ok (.iload 5, 2) := by decide +kernel
theorem dX1_enter_76 : decode cX1_enter 76 = .ok (.dup2, 1) := by decide +kernel
theorem dX1_enter_77 : decode cX1_enter 77 = .ok (.iaload, 1) := by decide +kernel
theorem dX1_enter_78 : decode cX1_enter 78 = .ok (.iconst 1, 1) := by decide +kernel
theorem dX1_enter_79 : decode cX1_enter 79 = .ok (.iadd, 1) := by decide +kernel
theorem dX1_enter_80 : decode cX1_enter 80 = .ok (.iastore, 1) := by decide +kernel
theorem dX1_enter_81 : decode cX1_enter 81 = .ok (.return_, 1) := by decide +kernel
theorem dX1_formGroups_0 : decode cX1_formGroups 0 = .ok (.iload_n 1, 1) := by decide +kernel
theorem dX1_formGroups_1 : decode cX1_formGroups 1 = .ok (.invokestatic 60, 3) := by decide +kernel
theorem dX1_formGroups_4 : decode cX1_formGroups 4 = .ok (.ifCond .ne 4, 3) := by decide +kernel
theorem dX1_formGroups_7 : decode cX1_formGroups 7 = .ok (.return_, 1) := by decide +kernel
theorem dX1_formGroups_8 : decode cX1_formGroups 8 = .ok (.iconst 0, 1) := by decide +kernel
theorem dX1_formGroups_9 : decode cX1_formGroups 9 = .ok (.istore_n 2, 1) := by decide +kernel
theorem dX1_formGroups_10 : decode cX1_formGroups 10 = .ok (.iload_n 2, 1) := by decide +kernel
theorem dX1_formGroups_11 : decode cX1_formGroups 11 = .ok (.bipush 60, 2) := by decide +kernel
theorem dX1_formGroups_13 : decode cX1_formGroups 13 = .ok (.if_icmp .ge 60, 3) := by decide +kernel
theorem dX1_formGroups_16 : decode cX1_formGroups 16 = .ok (.aload_n 0, 1) := by decide +kernel
theorem dX1_formGroups_17 : decode cX1_formGroups 17 = .ok (.getfield 43, 3) := by decide +kernel
theorem dX1_formGroups_20 : decode cX1_formGroups 20 = .ok (.ifCond .eq 11, 3) := by decide +kernel
theorem dX1_formGroups_23 : decode cX1_formGroups 23 = .ok (.aload_n 0, 1) := by decide +kernel
theorem dX1_formGroups_24 : decode cX1_formGroups 24 = .ok (.iload_n 1, 1) := by decide +kernel
theorem dX1_formGroups_25 : decode cX1_formGroups 25 = .ok (.invokevirtual 63, 3) := by decide +kernel
theorem dX1_formGroups_28 : decode cX1_formGroups 28 = .ok (.goto 8, 3) := by decide +kernel
theorem dX1_formGroups_31 : decode cX1_formGroups 31 = .ok (.aload_n 0, 1) := by decide +kernel
theorem dX1_formGroups_32 : decode cX1_formGroups 32 = .ok (.iload_n 1, 1) := by decide +kernel
theorem dX1_formGroups_33 : decode cX1_formGroups 33 = .ok (.invokevirtual 66, 3) := by decide +kernel
theorem dX1_formGroups_36 : decode cX1_formGroups 36 = .ok (.istore_n 3, 1) := by decide +kernel
theorem dX1_formGroups_37 : decode cX1_formGroups 37 = .ok (.iload_n 3, 1) := by decide +kernel
theorem dX1_formGroups_38 : decode cX1_formGroups 38 = .ok (.iconst (-1), 1) := by decide +kernel
theorem dX1_formGroups_39 : decode cX1_formGroups 39 = .ok (.if_icmp .ne 6, 3) := by decide +kernel
theorem dX1_formGroups_42 : decode cX1_formGroups 42 = .ok (.goto 31, 3) := by decide +kernel
theorem dX1_formGroups_45 : decode cX1_formGroups 45 = .ok (.aload_n 0, 1) := by decide +kernel
theorem dX1_formGroups_46 : decode cX1_formGroups 46 = .ok (.iload_n 1, 1) := by decide +kernel
theorem dX1_formGroups_47 : decode cX1_formGroups 47 = .ok (.iload_n 3, 1) := by decide +kernel
theorem dX1_formGroups_48 : decode cX1_formGroups 48 = .ok (.aload_n 0, 1) := by decide +kernel
theorem dX1_formGroups_49 : decode cX1_formGroups 49 = .ok (.getfield 30, 3) := by decide +kernel
theorem dX1_formGroups_52 : decode cX1_formGroups 52 = .ok (.iload_n 1, 1) := by decide +kernel
theorem dX1_formGroups_53 : decode cX1_formGroups 53 = .ok (.iaload, 1) := by decide +kernel
theorem dX1_formGroups_54 : decode cX1_formGroups 54 = .ok (.invokevirtual 69, 3) := by decide +kernel
theorem dX1_formGroups_57 : decode cX1_formGroups 57 = .ok (.aload_n 0, 1) := by decide +kernel
theorem dX1_formGroups_58 : decode cX1_formGroups 58 = .ok (.getfield 30, 3) := by decide +kernel
theorem dX1_formGroups_61 : decode cX1_formGroups 61 = .ok (.iload_n 1, 1) := by decide +kernel
theorem dX1_formGroups_62 : decode cX1_formGroups 62 = .ok (.dup2, 1) := by decide +kernel
theorem dX1_formGroups_63 : decode cX1_formGroups 63 = .ok (.iaload, 1) := by decide +kernel
theorem dX1_formGroups_64 : decode cX1_formGroups 64 = .ok (.iconst 1, 1) := by decide +kernel
theorem dX1_formGroups_65 : decode cX1_formGroups 65 = .ok (.iadd, 1) := by decide +kernel
theorem dX1_formGroups_66 : decode cX1_formGroups 66 = .ok (.iastore, 1) := by decide +kernel
theorem dX1_formGroups_67 : decode cX1_formGroups 67 = .ok (.iinc 2 1, 3) := by decide +kernel
theorem dX1_formGroups_70 : decode cX1_formGroups 70 = .ok (.goto (-60), 3) := by decide +kernel
theorem dX1_formGroups_73 : decode cX1_formGroups 73 = .ok (.iconst 0, 1) := by decide +kernel
theorem dX1_formGroups_74 : decode cX1_formGroups 74 = .ok (.istore_n 2, 1) := by decide +kernel
theorem dX1_formGroups_75 : decode cX1_formGroups 75 = .ok (.iload_n 2, 1) := by decide +kernel
theorem dX1_formGroups_76 : decode cX1_formGroups 76 = .ok (.bipush 60, 2) := by decide +kernel
theorem dX1_formGroups_78 : decode cX1_formGroups 78 = .ok (.if_icmp .ge 48, 3) := by decide +kernel
theorem dX1_formGroups_81 : decode cX1_formGroups 81 = .ok (.aload_n 0, 1) := by decide +kernel
theorem dX1_formGroups_82 : decode cX1_formGroups 82 = .ok (.getfield 15, 3) := by decide +kernel
theorem dX1_formGroups_85 : decode cX1_formGroups 85 = .ok (.iload_n 2, 1) := by decide +kernel
theorem dX1_formGroups_86 : decode cX1_formGroups 86 = .ok (.iaload, 1) := by decide +kernel
theorem dX1_formGroups_87 : decode cX1_formGroups 87 = .ok (.iload_n 1, 1) := by decide +kernel
theorem dX1_formGroups_88 : decode cX1_formGroups 88 = .ok (.if_icmp .ne 32, 3) := by decide +kernel
theorem dX1_formGroups_91 : decode cX1_formGroups 91 = .ok (.aload_n 0, 1) := by decide +kernel
theorem dX1_formGroups_92 : decode cX1_formGroups 92 = .ok (.getfield 18, 3) := by decide +kernel
theorem dX1_formGroups_95 : decode cX1_formGroups 95 = .ok (.iload_n 2, 1) := by decide +kernel
theorem dX1_formGroups_96 : decode cX1_formGroups 96 = .ok (.iaload, 1) := by decide +kernel
theorem dX1_formGroups_97 : decode cX1_formGroups 97 = .ok (.invokestatic 47, 3) := by decide +kernel
theorem dX1_formGroups_100 : decode cX1_formGroups 100 = .ok (.ifCond .eq 20, 3) := by decide +kernel
theorem dX1_formGroups_103 : decode cX1_formGroups 103 = .ok (.aload_n 0, 1) := by decide +kernel
theorem dX1_formGroups_104 : decode cX1_formGroups 104 = .ok (.getfield 24, 3) := by decide +kernel
theorem dX1_formGroups_107 : decode cX1_formGroups 107 = .ok (.iload_n 2, 1) := by decide +kernel
theorem dX1_formGroups_108 : decode cX1_formGroups 108 = .ok (.aload_n 0, 1) := by decide +kernel
theorem dX1_formGroups_109 : decode cX1_formGroups 109 = .ok (.getfield 24, 3) := by decide +kernel
theorem dX1_formGroups_112 : decode cX1_formGroups 112 = .ok (.aload_n 0, 1) := by decide +kernel
theorem dX1_formGroups_113 : decode cX1_formGroups 113 = .ok (.getfield 18, 3) := by decide +kernel
theorem dX1_formGroups_116 : decode cX1_formGroups 116 = .ok (.iload_n 2, 1) := by decide +kernel
theorem dX1_formGroups_117 : decode cX1_formGroups 117 = .ok (.iaload, 1) := by decide +kernel
theorem dX1_formGroups_118 : decode cX1_formGroups 118 = .ok (.iaload, 1) := by decide +kernel
theorem dX1_formGroups_119 : decode cX1_formGroups 119 = .ok (.iastore, 1) := by decide +kernel
theorem dX1_formGroups_120 : decode cX1_formGroups 120 = .ok (.iinc 2 1, 3) := by decide +kernel
theorem dX1_formGroups_123 : decode cX1_formGroups 123 = .ok (.goto (-48), 3) := by decide +kernel
theorem dX1_formGroups_126 : decode cX1_formGroups 126 = .ok (.return_, 1) := by decide +kernel
theorem dX1_groupOf_0 : decode cX1_groupOf 0 = .ok (.iload_n 1, 1) := by decide +kernel
theorem dX1_groupOf_1 : decode cX1_groupOf 1 = .ok (.invokestatic 47, 3) := by decide +kernel
theorem dX1_groupOf_4 : decode cX1_groupOf 4 = .ok (.ifCond .eq 12, 3) := by decide +kernel
theorem dX1_groupOf_7 : decode cX1_groupOf 7 = .ok (.aload_n 0, 1) := by decide +kernel
theorem dX1_groupOf_8 : decode cX1_groupOf 8 = .ok (.getfield 24, 3) := by decide +kernel
theorem dX1_groupOf_11 : decode cX1_groupOf 11 = .ok (.iload_n 1, 1) := by decide +kernel
theorem dX1_groupOf_12 : decode cX1_groupOf 12 = .ok (.iaload, 1) := by decide +kernel
theorem dX1_groupOf_13 : decode cX1_groupOf 13 = .ok (.goto 4, 3) := by decide +kernel
theorem dX1_groupOf_16 : decode cX1_groupOf 16 = .ok (.iconst (-1), 1) := by decide +kernel
theorem dX1_groupOf_17 : decode cX1_groupOf 17 = .ok (.ireturn, 1) := by decide +kernel
theorem dX1_groupsIn_0 : decode cX1_groupsIn 0 = .ok (.iload_n 1, 1) := by decide +kernel
theorem dX1_groupsIn_1 : decode cX1_groupsIn 1 = .ok (.invokestatic 60, 3) := by decide +kernel
theorem dX1_groupsIn_4 : decode cX1_groupsIn 4 = .ok (.ifCond .eq 12, 3) := by decide +kernel
theorem dX1_groupsIn_7 : decode cX1_groupsIn 7 = .ok (.aload_n 0, 1) := by decide +kernel
theorem dX1_groupsIn_8 : decode cX1_groupsIn 8 = .ok (.getfield 30, 3) := by decide +kernel
theorem dX1_groupsIn_11 : decode cX1_groupsIn 11 = .ok (.iload_n 1, 1) := by decide +kernel
theorem dX1_groupsIn_12 : decode cX1_groupsIn 12 = .ok (.iaload, 1) := by decide +kernel
theorem dX1_groupsIn_13 : decode cX1_groupsIn 13 = .ok (.goto 4, 3) := by decide +kernel
theorem dX1_groupsIn_16 : decode cX1_groupsIn 16 = .ok (.iconst 0, 1) := by decide +kernel
theorem dX1_groupsIn_17 : decode cX1_groupsIn 17 = .ok (.ireturn, 1) := by decide +kernel
theorem dX1_isMember_0 : decode cX1_isMember 0 = .ok (.iload_n 1, 1) := by decide +kernel
theorem dX1_isMember_1 : decode cX1_isMember 1 = .ok (.invokestatic 47, 3) := by decide +kernel
theorem dX1_isMember_4 : decode cX1_isMember 4 = .ok (.ifCond .eq 27, 3) := by decide +kernel
theorem dX1_isMember_7 : decode cX1_isMember 7 = .ok (.aload_n 0, 1) := by decide +kernel
theorem dX1_isMember_8 : decode cX1_isMember 8 = .ok (.getfield 15, 3) := by decide +kernel
theorem dX1_isMember_11 : decode cX1_isMember 11 = .ok (.iload_n 1, 1) := by decide +kernel
theorem dX1_isMember_12 : decode cX1_isMember 12 = .ok (.iaload, 1) := by decide +kernel
theorem dX1_isMember_13 : decode cX1_isMember 13 = .ok (.iload_n 2, 1) := by decide +kernel
theorem dX1_isMember_14 : decode cX1_isMember 14 = .ok (.if_icmp .ne 17, 3) := by decide +kernel
theorem dX1_isMember_17 : decode cX1_isMember 17 = .ok (.aload_n 0, 1) := by decide +kernel
theorem dX1_isMember_18 : decode cX1_isMember 18 = .ok (.getfield 24, 3) := by decide +kernel
theorem dX1_isMember_21 : decode cX1_isMember 21 = .ok (.iload_n 1, 1) := by decide +kernel
theorem dX1_isMember_22 : decode cX1_isMember 22 = .ok (.iaload, 1) := by decide +kernel
theorem dX1_isMember_23 : decode cX1_isMember 23 = .ok (.iload_n 3, 1) := by decide +kernel
theorem dX1_isMember_24 : decode cX1_isMember 24 = .ok (.if_icmp .ne 7, 3) := by decide +kernel
theorem dX1_isMember_27 : decode cX1_isMember 27 = .ok (.iconst 1, 1) := by decide +kernel
theorem dX1_isMember_28 : decode cX1_isMember 28 = .ok (.goto 4, 3) := by decide +kernel
theorem dX1_isMember_31 : decode cX1_isMember 31 = .ok (.iconst 0, 1) := by decide +kernel
theorem dX1_isMember_32 : decode cX1_isMember 32 = .ok (.ireturn, 1) := by decide +kernel
theorem dX1_readsIn_0 : decode cX1_readsIn 0 = .ok (.iconst 0, 1) := by decide +kernel
theorem dX1_readsIn_1 : decode cX1_readsIn 1 = .ok (.istore_n 3, 1) := by decide +kernel
theorem dX1_readsIn_2 : decode cX1_readsIn 2 = .ok (.iconst 0, 1) := by decide +kernel
theorem dX1_readsIn_3 : decode cX1_readsIn 3 = .ok (.istore 4, 2) := by decide +kernel
theorem dX1_readsIn_5 : decode cX1_readsIn 5 = .ok (.iload 4, 2) := by decide +kernel
theorem dX1_readsIn_7 : decode cX1_readsIn 7 = .ok (.bipush 60, 2) := by decide +kernel
theorem dX1_readsIn_9 : decode cX1_readsIn 9 = .ok (.if_icmp .ge 23, 3) := by decide +kernel
theorem dX1_readsIn_12 : decode cX1_readsIn 12 = .ok (.aload_n 0, 1) := by decide +kernel
theorem dX1_readsIn_13 : decode cX1_readsIn 13 = .ok (.iload 4, 2) := by decide +kernel
theorem dX1_readsIn_15 : decode cX1_readsIn 15 = .ok (.iload_n 1, 1) := by decide +kernel
theorem dX1_readsIn_16 : decode cX1_readsIn 16 = .ok (.iload_n 2, 1) := by decide +kernel
theorem dX1_readsIn_17 : decode cX1_readsIn 17 = .ok (.invokevirtual 73, 3) := by decide +kernel
theorem dX1_readsIn_20 : decode cX1_readsIn 20 = .ok (.ifCond .eq 6, 3) := by decide +kernel
theorem dX1_readsIn_23 : decode cX1_readsIn 23 = .ok (.iinc 3 1, 3) := by decide +kernel
theorem dX1_readsIn_26 : decode cX1_readsIn 26 = .ok (.iinc 4 1, 3) := by decide +kernel
theorem dX1_readsIn_29 : decode cX1_readsIn 29 = .ok (.goto (-24), 3) := by decide +kernel
theorem dX1_readsIn_32 : decode cX1_readsIn 32 = .ok (.iload_n 3, 1) := by decide +kernel
theorem dX1_readsIn_33 : decode cX1_readsIn 33 = .ok (.ireturn, 1) := by decide +kernel
theorem dX1_tagsIn_0 : decode cX1_tagsIn 0 = .ok (.iconst 0, 1) := by decide +kernel
theorem dX1_tagsIn_1 : decode cX1_tagsIn 1 = .ok (.istore_n 3, 1) := by decide +kernel
theorem dX1_tagsIn_2 : decode cX1_tagsIn 2 = .ok (.iconst 0, 1) := by decide +kernel
theorem dX1_tagsIn_3 : decode cX1_tagsIn 3 = .ok (.istore 4, 2) := by decide +kernel
theorem dX1_tagsIn_5 : decode cX1_tagsIn 5 = .ok (.iload 4, 2) := by decide +kernel
theorem dX1_tagsIn_7 : decode cX1_tagsIn 7 = .ok (.bipush 60, 2) := by decide +kernel
theorem dX1_tagsIn_9 : decode cX1_tagsIn 9 = .ok (.if_icmp .ge 35, 3) := by decide +kernel
theorem dX1_tagsIn_12 : decode cX1_tagsIn 12 = .ok (.aload_n 0, 1) := by decide +kernel
theorem dX1_tagsIn_13 : decode cX1_tagsIn 13 = .ok (.iload 4, 2) := by decide +kernel
theorem dX1_tagsIn_15 : decode cX1_tagsIn 15 = .ok (.iload_n 1, 1) := by decide +kernel
theorem dX1_tagsIn_16 : decode cX1_tagsIn 16 = .ok (.iload_n 2, 1) := by decide +kernel
theorem dX1_tagsIn_17 : decode cX1_tagsIn 17 = .ok (.invokevirtual 73, 3) := by decide +kernel
theorem dX1_tagsIn_20 : decode cX1_tagsIn 20 = .ok (.ifCond .eq 18, 3) := by decide +kernel
theorem dX1_tagsIn_23 : decode cX1_tagsIn 23 = .ok (.aload_n 0, 1) := by decide +kernel
theorem dX1_tagsIn_24 : decode cX1_tagsIn 24 = .ok (.getfield 18, 3) := by decide +kernel
theorem dX1_tagsIn_27 : decode cX1_tagsIn 27 = .ok (.iload 4, 2) := by decide +kernel
theorem dX1_tagsIn_29 : decode cX1_tagsIn 29 = .ok (.iaload, 1) := by decide +kernel
theorem dX1_tagsIn_30 : decode cX1_tagsIn 30 = .ok (.iload 4, 2) := by decide +kernel
theorem dX1_tagsIn_32 : decode cX1_tagsIn 32 = .ok (.if_icmp .ne 6, 3) := by decide +kernel
theorem dX1_tagsIn_35 : decode cX1_tagsIn 35 = .ok (.iinc 3 1, 3) := by decide +kernel
theorem dX1_tagsIn_38 : decode cX1_tagsIn 38 = .ok (.iinc 4 1, 3) := by decide +kernel
theorem dX1_tagsIn_41 : decode cX1_tagsIn 41 = .ok (.goto (-36), 3) := by decide +kernel
theorem dX1_tagsIn_44 : decode cX1_tagsIn 44 = .ok (.iload_n 3, 1) := by decide +kernel
theorem dX1_tagsIn_45 : decode cX1_tagsIn 45 = .ok (.ireturn, 1) := by decide +kernel
theorem dX1_isRead_0 : decode cX1_isRead 0 = .ok (.iload_n 0, 1) := by decide +kernel
theorem dX1_isRead_1 : decode cX1_isRead 1 = .ok (.ifCond .lt 13, 3) := by decide +kernel
theorem dX1_isRead_4 : decode cX1_isRead 4 = .ok (.iload_n 0, 1) := by decide +kernel
theorem dX1_isRead_5 : decode cX1_isRead 5 = .ok (.bipush 60, 2) := by decide +kernel
theorem dX1_isRead_7 : decode cX1_isRead 7 = .ok (.if_icmp .ge 7, 3) := by decide +kernel
theorem dX1_isRead_10 : decode cX1_isRead 10 = .ok (.iconst 1, 1) := by decide +kernel
theorem dX1_isRead_11 : decode cX1_isRead 11 = .ok (.goto 4, 3) := by decide +kernel
theorem dX1_isRead_14 : decode cX1_isRead 14 = .ok (.iconst 0, 1) := by decide +kernel
theorem dX1_isRead_15 : decode cX1_isRead 15 = .ok (.ireturn, 1) := by decide +kernel
theorem dX1_isBin_0 : decode cX1_isBin 0 = .ok (.iload_n 0, 1) := by decide +kernel
theorem dX1_isBin_1 : decode cX1_isBin 1 = .ok (.ifCond .lt 13, 3) := by decide +kernel
theorem dX1_isBin_4 : decode cX1_isBin 4 = .ok (.iload_n 0, 1) := by decide +kernel
theorem dX1_isBin_5 : decode cX1_isBin 5 = .ok (.bipush 16, 2) := by decide +kernel
theorem dX1_isBin_7 : decode cX1_isBin 7 = .ok (.if_icmp .ge 7, 3) := by decide +kernel
theorem dX1_isBin_10 : decode cX1_isBin 10 = .ok (.iconst 1, 1) := by decide +kernel
theorem dX1_isBin_11 : decode cX1_isBin 11 = .ok (.goto 4, 3) := by decide +kernel
theorem dX1_isBin_14 : decode cX1_isBin 14 = .ok (.iconst 0, 1) := by decide +kernel
theorem dX1_isBin_15 : decode cX1_isBin 15 = .ok (.ireturn, 1) := by decide +kernel
theorem dX1_firstAlike_0 : decode cX1_firstAlike 0 = .ok (.iconst 0, 1) := by decide +kernel
theorem dX1_firstAlike_1 : decode cX1_firstAlike 1 = .ok (.istore_n 2, 1) := by decide +kernel
theorem dX1_firstAlike_2 : decode cX1_firstAlike 2 = .ok (.iload_n 2, 1) := by decide +kernel
theorem dX1_firstAlike_3 : decode cX1_firstAlike 3 = .ok (.iload_n 1, 1) := by decide +kernel
theorem dX1_firstAlike_4 : decode cX1_firstAlike 4 = .ok (.if_icmp .ge 35, 3) := by decide +kernel
theorem dX1_firstAlike_7 : decode cX1_firstAlike 7 = .ok (.aload_n 0, 1) := by decide +kernel
theorem dX1_firstAlike_8 : decode cX1_firstAlike 8 = .ok (.getfield 15, 3) := by decide +kernel
theorem dX1_firstAlike_11 : decode cX1_firstAlike 11 = .ok (.iload_n 2, 1) := by decide +kernel
theorem dX1_firstAlike_12 : decode cX1_firstAlike 12 = .ok (.iaload, 1) := by decide +kernel
theorem dX1_firstAlike_13 : decode cX1_firstAlike 13 = .ok (.aload_n 0, 1) := by decide +kernel
theorem dX1_firstAlike_14 : decode cX1_firstAlike 14 = .ok (.getfield 15, 3) := by decide +kernel
theorem dX1_firstAlike_17 : decode cX1_firstAlike 17 = .ok (.iload_n 1, 1) := by decide +kernel
theorem dX1_firstAlike_18 : decode cX1_firstAlike 18 = .ok (.iaload, 1) := by decide +kernel
theorem dX1_firstAlike_19 : decode cX1_firstAlike 19 = .ok (.if_icmp .ne 14, 3) := by decide +kernel
theorem dX1_firstAlike_22 : decode cX1_firstAlike 22 = .ok (.aload_n 0, 1) := by decide +kernel
theorem dX1_firstAlike_23 : decode cX1_firstAlike 23 = .ok (.iload_n 2, 1) := by decide +kernel
theorem dX1_firstAlike_24 : decode cX1_firstAlike 24 = .ok (.iload_n 1, 1) := by decide +kernel
theorem dX1_firstAlike_25 : decode cX1_firstAlike 25 = .ok (.invokevirtual 77, 3) := by decide +kernel
theorem dX1_firstAlike_28 : decode cX1_firstAlike 28 = .ok (.ifCond .ne 5, 3) := by decide +kernel
theorem dX1_firstAlike_31 : decode cX1_firstAlike 31 = .ok (.iload_n 2, 1) := by decide +kernel
theorem dX1_firstAlike_32 : decode cX1_firstAlike 32 = .ok (.ireturn, 1) := by decide +kernel
theorem dX1_firstAlike_33 : decode cX1_firstAlike 33 = .ok (.iinc 2 1, 3) := by decide +kernel
theorem dX1_firstAlike_36 : decode cX1_firstAlike 36 = .ok (.goto (-34), 3) := by decide +kernel
theorem dX1_firstAlike_39 : decode cX1_firstAlike 39 = .ok (.iload_n 1, 1) := by decide +kernel
theorem dX1_firstAlike_40 : decode cX1_firstAlike 40 = .ok (.ireturn, 1) := by decide +kernel
theorem dX1_isOpen_0 : decode cX1_isOpen 0 = .ok (.aload_n 0, 1) := by decide +kernel
theorem dX1_isOpen_1 : decode cX1_isOpen 1 = .ok (.getfield 15, 3) := by decide +kernel
theorem dX1_isOpen_4 : decode cX1_isOpen 4 = .ok (.iload_n 1, 1) := by decide +kernel
theorem dX1_isOpen_5 : decode cX1_isOpen 5 = .ok (.iaload, 1) := by decide +kernel
theorem dX1_isOpen_6 : decode cX1_isOpen 6 = .ok (.iload_n 2, 1) := by decide +kernel
theorem dX1_isOpen_7 : decode cX1_isOpen 7 = .ok (.if_icmp .ne 27, 3) := by decide +kernel
theorem dX1_isOpen_10 : decode cX1_isOpen 10 = .ok (.aload_n 0, 1) := by decide +kernel
theorem dX1_isOpen_11 : decode cX1_isOpen 11 = .ok (.getfield 18, 3) := by decide +kernel
theorem dX1_isOpen_14 : decode cX1_isOpen 14 = .ok (.iload_n 1, 1) := by decide +kernel
theorem dX1_isOpen_15 : decode cX1_isOpen 15 = .ok (.iaload, 1) := by decide +kernel
theorem dX1_isOpen_16 : decode cX1_isOpen 16 = .ok (.iload_n 1, 1) := by decide +kernel
theorem dX1_isOpen_17 : decode cX1_isOpen 17 = .ok (.if_icmp .ne 17, 3) := by decide +kernel
theorem dX1_isOpen_20 : decode cX1_isOpen 20 = .ok (.aload_n 0, 1) := by decide +kernel
theorem dX1_isOpen_21 : decode cX1_isOpen 21 = .ok (.getfield 24, 3) := by decide +kernel
theorem dX1_isOpen_24 : decode cX1_isOpen 24 = .ok (.iload_n 1, 1) := by decide +kernel
theorem dX1_isOpen_25 : decode cX1_isOpen 25 = .ok (.iaload, 1) := by decide +kernel
theorem dX1_isOpen_26 : decode cX1_isOpen 26 = .ok (.iconst (-1), 1) := by decide +kernel
theorem dX1_isOpen_27 : decode cX1_isOpen 27 = .ok (.if_icmp .ne 7, 3) := by decide +kernel
theorem dX1_isOpen_30 : decode cX1_isOpen 30 = .ok (.iconst 1, 1) := by decide +kernel
theorem dX1_isOpen_31 : decode cX1_isOpen 31 = .ok (.goto 4, 3) := by decide +kernel
theorem dX1_isOpen_34 : decode cX1_isOpen 34 = .ok (.iconst 0, 1) := by decide +kernel
theorem dX1_isOpen_35 : decode cX1_isOpen 35 = .ok (.ireturn, 1) := by decide +kernel
theorem dX1_firstOpen_0 : decode cX1_firstOpen 0 = .ok (.iconst 0, 1) := by decide +kernel
theorem dX1_firstOpen_1 : decode cX1_firstOpen 1 = .ok (.istore_n 2, 1) := by decide +kernel
theorem dX1_firstOpen_2 : decode cX1_firstOpen 2 = .ok (.iload_n 2, 1) := by decide +kernel
theorem dX1_firstOpen_3 : decode cX1_firstOpen 3 = .ok (.bipush 60, 2) := by decide +kernel
theorem dX1_firstOpen_5 : decode cX1_firstOpen 5 = .ok (.if_icmp .ge 20, 3) := by decide +kernel
theorem dX1_firstOpen_8 : decode cX1_firstOpen 8 = .ok (.aload_n 0, 1) := by decide +kernel
theorem dX1_firstOpen_9 : decode cX1_firstOpen 9 = .ok (.iload_n 2, 1) := by decide +kernel
theorem dX1_firstOpen_10 : decode cX1_firstOpen 10 = .ok (.iload_n 1, 1) := by decide +kernel
theorem dX1_firstOpen_11 : decode cX1_firstOpen 11 = .ok (.invokevirtual 80, 3) := by decide +kernel
theorem dX1_firstOpen_14 : decode cX1_firstOpen 14 = .ok (.ifCond .eq 5, 3) := by decide +kernel
theorem dX1_firstOpen_17 : decode cX1_firstOpen 17 = .ok (.iload_n 2, 1) := by decide +kernel
theorem dX1_firstOpen_18 : decode cX1_firstOpen 18 = .ok (.ireturn, 1) := by decide +kernel
theorem dX1_firstOpen_19 : decode cX1_firstOpen 19 = .ok (.iinc 2 1, 3) := by decide +kernel
theorem dX1_firstOpen_22 : decode cX1_firstOpen 22 = .ok (.goto (-20), 3) := by decide +kernel
theorem dX1_firstOpen_25 : decode cX1_firstOpen 25 = .ok (.iconst (-1), 1) := by decide +kernel
theorem dX1_firstOpen_26 : decode cX1_firstOpen 26 = .ok (.ireturn, 1) := by decide +kernel
theorem dX1_greatestOpen_0 : decode cX1_greatestOpen 0 = .ok (.iconst (-1), 1) := by decide +kernel
theorem dX1_greatestOpen_1 : decode cX1_greatestOpen 1 = .ok (.istore_n 2, 1) := by decide +kernel
theorem dX1_greatestOpen_2 : decode cX1_greatestOpen 2 = .ok (.iconst 0, 1) := by decide +kernel
theorem dX1_greatestOpen_3 : decode cX1_greatestOpen 3 = .ok (.istore_n 3, 1) := by decide +kernel
theorem dX1_greatestOpen_4 : decode cX1_greatestOpen 4 = .ok (.iload_n 3, 1) := by decide +kernel
theorem dX1_greatestOpen_5 : decode cX1_greatestOpen 5 = .ok (.bipush 60, 2) := by decide +kernel
theorem dX1_greatestOpen_7 : decode cX1_greatestOpen 7 = .ok (.if_icmp .ge 34, 3) := by decide +kernel
theorem dX1_greatestOpen_10 : decode cX1_greatestOpen 10 = .ok (.aload_n 0, 1) := by decide +kernel
theorem dX1_greatestOpen_11 : decode cX1_greatestOpen 11 = .ok (.iload_n 3, 1) := by decide +kernel
theorem dX1_greatestOpen_12 : decode cX1_greatestOpen 12 = .ok (.iload_n 1, 1) := by decide +kernel
theorem dX1_greatestOpen_13 : decode cX1_greatestOpen 13 = .ok (.invokevirtual 80, 3) := by decide +kernel
theorem dX1_greatestOpen_16 : decode cX1_greatestOpen 16 = .ok (.ifCond .eq 19, 3) := by decide +kernel
theorem dX1_greatestOpen_19 : decode cX1_greatestOpen 19 = .ok (.iload_n 2, 1) := by decide +kernel
theorem dX1_greatestOpen_20 : decode cX1_greatestOpen 20 = .ok (.iconst (-1), 1) := by decide +kernel
theorem dX1_greatestOpen_21 : decode cX1_greatestOpen 21 = .ok (.if_icmp .eq 12, 3) := by decide +kernel
theorem dX1_greatestOpen_24 : decode cX1_greatestOpen 24 = .ok (.aload_n 0, 1) := by decide +kernel
theorem dX1_greatestOpen_25 : decode cX1_greatestOpen 25 = .ok (.iload_n 3, 1) := by decide +kernel
theorem dX1_greatestOpen_26 : decode cX1_greatestOpen 26 = .ok (.iload_n 2, 1) := by decide +kernel
theorem dX1_greatestOpen_27 : decode cX1_greatestOpen 27 = .ok (.invokevirtual 84, 3) := by decide +kernel
theorem dX1_greatestOpen_30 : decode cX1_greatestOpen 30 = .ok (.ifCond .eq 5, 3) := by decide +kernel
theorem dX1_greatestOpen_33 : decode cX1_greatestOpen 33 = .ok (.iload_n 3, 1) := by decide +kernel
theorem dX1_greatestOpen_34 : decode cX1_greatestOpen 34 = .ok (.istore_n 2, 1) := by decide +kernel
theorem dX1_greatestOpen_35 : decode cX1_greatestOpen 35 = .ok (.iinc 3 1, 3) := by decide +kernel
theorem dX1_greatestOpen_38 : decode cX1_greatestOpen 38 = .ok (.goto (-34), 3) := by decide +kernel
theorem dX1_greatestOpen_41 : decode cX1_greatestOpen 41 = .ok (.iload_n 2, 1) := by decide +kernel
theorem dX1_greatestOpen_42 : decode cX1_greatestOpen 42 = .ok (.ireturn, 1) := by decide +kernel
theorem dX1_comesBefore_0 : decode cX1_comesBefore 0 = .ok (.aload_n 0, 1) := by decide +kernel
theorem dX1_comesBefore_1 : decode cX1_comesBefore 1 = .ok (.getfield 21, 3) := by decide +kernel
theorem dX1_comesBefore_4 : decode cX1_comesBefore 4 = .ok (.iload_n 1, 1) := by decide +kernel
theorem dX1_comesBefore_5 : decode cX1_comesBefore 5 = .ok (.iaload, 1) := by decide +kernel
theorem dX1_comesBefore_6 : decode cX1_comesBefore 6 = .ok (.aload_n 0, 1) := by decide +kernel
theorem dX1_comesBefore_7 : decode cX1_comesBefore 7 = .ok (.getfield 21, 3) := by decide +kernel
theorem dX1_comesBefore_10 : decode cX1_comesBefore 10 = .ok (.iload_n 2, 1) := by decide +kernel
theorem dX1_comesBefore_11 : decode cX1_comesBefore 11 = .ok (.iaload, 1) := by decide +kernel
theorem dX1_comesBefore_12 : decode cX1_comesBefore 12 = .ok (.if_icmp .eq 24, 3) := by decide +kernel
theorem dX1_comesBefore_15 : decode cX1_comesBefore 15 = .ok (.aload_n 0, 1) := by decide +kernel
theorem dX1_comesBefore_16 : decode cX1_comesBefore 16 = .ok (.getfield 21, 3) := by decide +kernel
theorem dX1_comesBefore_19 : decode cX1_comesBefore 19 = .ok (.iload_n 1, 1) := by decide +kernel
theorem dX1_comesBefore_20 : decode cX1_comesBefore 20 = .ok (.iaload, 1) := by decide +kernel
theorem dX1_comesBefore_21 : decode cX1_comesBefore 21 = .ok (.aload_n 0, 1) := by decide +kernel
theorem dX1_comesBefore_22 : decode cX1_comesBefore 22 = .ok (.getfield 21, 3) := by decide +kernel
theorem dX1_comesBefore_25 : decode cX1_comesBefore 25 = .ok (.iload_n 2, 1) := by decide +kernel
theorem dX1_comesBefore_26 : decode cX1_comesBefore 26 = .ok (.iaload, 1) := by decide +kernel
theorem dX1_comesBefore_27 : decode cX1_comesBefore 27 = .ok (.if_icmp .le 7, 3) := by decide +kernel
theorem dX1_comesBefore_30 : decode cX1_comesBefore 30 = .ok (.iconst 1, 1) := by decide +kernel
theorem dX1_comesBefore_31 : decode cX1_comesBefore 31 = .ok (.goto 4, 3) := by decide +kernel
theorem dX1_comesBefore_34 : decode cX1_comesBefore 34 = .ok (.iconst 0, 1) := by decide +kernel
theorem dX1_comesBefore_35 : decode cX1_comesBefore 35 = .ok (.ireturn, 1) := by decide +kernel
theorem dX1_comesBefore_36 : decode cX1_comesBefore 36 = .ok (.iconst 0, 1) := by decide +kernel
theorem dX1_comesBefore_37 : decode cX1_comesBefore 37 = .ok (.istore_n 3, 1) := by decide +kernel
theorem dX1_comesBefore_38 : decode cX1_comesBefore 38 = .ok (.iload_n 3, 1) := by decide +kernel
theorem dX1_comesBefore_39 : decode cX1_comesBefore 39 = .ok (.aload_n 0, 1) := by decide +kernel
theorem dX1_comesBefore_40 : decode cX1_comesBefore 40 = .ok (.getfield 39, 3) := by decide +kernel
theorem dX1_comesBefore_43 : decode cX1_comesBefore 43 = .ok (.if_icmp .ge 50, 3) := by decide +kernel
theorem dX1_comesBefore_46 : decode cX1_comesBefore 46 = .ok (.aload_n 0, 1) := by decide +kernel
theorem dX1_comesBefore_47 : decode cX1_comesBefore 47 = .ok (.getfield 9, 3) := by decide +kernel
theorem dX1_comesBefore_50 : decode cX1_comesBefore 50 = .ok (.iload_n 1, 1) := by decide +kernel
theorem dX1_comesBefore_51 : decode cX1_comesBefore 51 = .ok (.bipush 12, 2) := by decide +kernel
theorem dX1_comesBefore_53 : decode cX1_comesBefore 53 = .ok (.imul, 1) := by decide +kernel
theorem dX1_comesBefore_54 : decode cX1_comesBefore 54 = .ok (.iload_n 3, 1) := by decide +kernel
theorem dX1_comesBefore_55 : decode cX1_comesBefore 55 = .ok (.iadd, 1) := by decide +kernel
theorem dX1_comesBefore_56 : decode cX1_comesBefore 56 = .ok (.iaload, 1) := by decide +kernel
theorem dX1_comesBefore_57 : decode cX1_comesBefore 57 = .ok (.aload_n 0, 1) := by decide +kernel
theorem dX1_comesBefore_58 : decode cX1_comesBefore 58 = .ok (.getfield 9, 3) := by decide +kernel
theorem dX1_comesBefore_61 : decode cX1_comesBefore 61 = .ok (.iload_n 2, 1) := by decide +kernel
theorem dX1_comesBefore_62 : decode cX1_comesBefore 62 = .ok (.bipush 12, 2) := by decide +kernel
theorem dX1_comesBefore_64 : decode cX1_comesBefore 64 = .ok (.imul, 1) := by decide +kernel
theorem dX1_comesBefore_65 : decode cX1_comesBefore 65 = .ok (.iload_n 3, 1) := by decide +kernel
theorem dX1_comesBefore_66 : decode cX1_comesBefore 66 = .ok (.iadd, 1) := by decide +kernel
theorem dX1_comesBefore_67 : decode cX1_comesBefore 67 = .ok (.iaload, 1) := by decide +kernel
theorem dX1_comesBefore_68 : decode cX1_comesBefore 68 = .ok (.isub, 1) := by decide +kernel
theorem dX1_comesBefore_69 : decode cX1_comesBefore 69 = .ok (.istore 4, 2) := by decide +kernel
theorem dX1_comesBefore_71 : decode cX1_comesBefore 71 = .ok (.iload 4, 2) := by decide +kernel
theorem dX1_comesBefore_73 : decode cX1_comesBefore 73 = .ok (.ifCond .eq 14, 3) := by decide +kernel
theorem dX1_comesBefore_76 : decode cX1_comesBefore 76 = .ok (.iload 4, 2) := by decide +kernel
theorem dX1_comesBefore_78 : decode cX1_comesBefore 78 = .ok (.ifCond .ge 7, 3) := by decide +kernel
theorem dX1_comesBefore_81 : decode cX1_comesBefore 81 = .ok (.iconst 1, 1) := by decide +kernel
theorem dX1_comesBefore_82 : decode cX1_comesBefore 82 = .ok (.goto 4, 3) := by decide +kernel
theorem dX1_comesBefore_85 : decode cX1_comesBefore 85 = .ok (.iconst 0, 1) := by decide +kernel
theorem dX1_comesBefore_86 : decode cX1_comesBefore 86 = .ok (.ireturn, 1) := by decide +kernel
theorem dX1_comesBefore_87 : decode cX1_comesBefore 87 = .ok (.iinc 3 1, 3) := by decide +kernel
theorem dX1_comesBefore_90 : decode cX1_comesBefore 90 = .ok (.goto (-52), 3) := by decide +kernel
theorem dX1_comesBefore_93 : decode cX1_comesBefore 93 = .ok (.iconst 0, 1) := by decide +kernel
theorem dX1_comesBefore_94 : decode cX1_comesBefore 94 = .ok (.ireturn, 1) := by decide +kernel
theorem dX1_growGroup_0 : decode cX1_growGroup 0 = .ok (.aload_n 0, 1) := by decide +kernel
theorem dX1_growGroup_1 : decode cX1_growGroup 1 = .ok (.getfield 24, 3) := by decide +kernel
theorem dX1_growGroup_4 : decode cX1_growGroup 4 = .ok (.iload_n 2, 1) := by decide +kernel
theorem dX1_growGroup_5 : decode cX1_growGroup 5 = .ok (.iload_n 3, 1) := by decide +kernel
theorem dX1_growGroup_6 : decode cX1_growGroup 6 = .ok (.iastore, 1) := by decide +kernel
theorem dX1_growGroup_7 : decode cX1_growGroup 7 = .ok (.aload_n 0, 1) := by decide +kernel
theorem dX1_growGroup_8 : decode cX1_growGroup 8 = .ok (.getfield 27, 3) := by decide +kernel
theorem dX1_growGroup_11 : decode cX1_growGroup 11 = .ok (.iconst 0, 1) := by decide +kernel
theorem dX1_growGroup_12 : decode cX1_growGroup 12 = .ok (.iload_n 2, 1) := by decide +kernel
theorem dX1_growGroup_13 : decode cX1_growGroup 13 = .ok (.iastore, 1) := by decide +kernel
theorem dX1_growGroup_14 : decode cX1_growGroup 14 = .ok (.iconst 1, 1) := by decide +kernel
theorem dX1_growGroup_15 : decode cX1_growGroup 15 = .ok (.istore 4, 2) := by decide +kernel
theorem dX1_growGroup_17 : decode cX1_growGroup 17 = .ok (.iconst 0, 1) := by decide +kernel
theorem dX1_growGroup_18 : decode cX1_growGroup 18 = .ok (.istore 5, 2) := by decide +kernel
theorem dX1_growGroup_20 : decode cX1_growGroup 20 = .ok (.iload 5, 2) := by decide +kernel
theorem dX1_growGroup_22 : decode cX1_growGroup 22 = .ok (.iload 4, 2) := by decide +kernel
theorem dX1_growGroup_24 : decode cX1_growGroup 24 = .ok (.if_icmp .ge 85, 3) := by decide +kernel
theorem dX1_growGroup_27 : decode cX1_growGroup 27 = .ok (.iload 5, 2) := by decide +kernel
theorem dX1_growGroup_29 : decode cX1_growGroup 29 = .ok (.bipush 60, 2) := by decide +kernel
theorem dX1_growGroup_31 : decode cX1_growGroup 31 = .ok (.if_icmp .ge 78, 3) := by decide +kernel
theorem dX1_growGroup_34 : decode cX1_growGroup 34 = .ok (.iconst 0, 1) := by decide +kernel
theorem dX1_growGroup_35 : decode cX1_growGroup 35 = .ok (.istore 6, 2) := by decide +kernel
theorem dX1_growGroup_37 : decode cX1_growGroup 37 = .ok (.iload 6, 2) := by decide +kernel
theorem dX1_growGroup_39 : decode cX1_growGroup 39 = .ok (.bipush 60, 2) := by decide +kernel
theorem dX1_growGroup_41 : decode cX1_growGroup 41 = .ok (.if_icmp .ge 62, 3) := by decide +kernel
theorem dX1_growGroup_44 : decode cX1_growGroup 44 = .ok (.aload_n 0, 1) := by decide +kernel
theorem dX1_growGroup_45 : decode cX1_growGroup 45 = .ok (.iload 6, 2) := by decide +kernel
theorem dX1_growGroup_47 : decode cX1_growGroup 47 = .ok (.iload_n 1, 1) := by decide +kernel
theorem dX1_growGroup_48 : decode cX1_growGroup 48 = .ok (.invokevirtual 80, 3) := by decide +kernel
theorem dX1_growGroup_51 : decode cX1_growGroup 51 = .ok (.ifCond .eq 46, 3) := by decide +kernel
theorem dX1_growGroup_54 : decode cX1_growGroup 54 = .ok (.aload_n 0, 1) := by decide +kernel
theorem dX1_growGroup_55 : decode cX1_growGroup 55 = .ok (.aload_n 0, 1) := by decide +kernel
theorem dX1_growGroup_56 : decode cX1_growGroup 56 = .ok (.getfield 27, 3) := by decide +kernel
theorem dX1_growGroup_59 : decode cX1_growGroup 59 = .ok (.iload 5, 2) := by decide +kernel
theorem dX1_growGroup_61 : decode cX1_growGroup 61 = .ok (.iaload, 1) := by decide +kernel
theorem dX1_growGroup_62 : decode cX1_growGroup 62 = .ok (.iload 6, 2) := by decide +kernel
theorem dX1_growGroup_64 : decode cX1_growGroup 64 = .ok (.invokevirtual 87, 3) := by decide +kernel
theorem dX1_growGroup_67 : decode cX1_growGroup 67 = .ok (.ifCond .eq 30, 3) := by decide +kernel
theorem dX1_growGroup_70 : decode cX1_growGroup 70 = .ok (.iload 4, 2) := by decide +kernel
theorem dX1_growGroup_72 : decode cX1_growGroup 72 = .ok (.bipush 60, 2) := by decide +kernel
theorem dX1_growGroup_74 : decode cX1_growGroup 74 = .ok (.if_icmp .ge 23, 3) := by decide +kernel
theorem dX1_growGroup_77 : decode cX1_growGroup 77 = .ok (.aload_n 0, 1) := by decide +kernel
theorem dX1_growGroup_78 : decode cX1_growGroup 78 = .ok (.getfield 24, 3) := by decide +kernel
theorem dX1_growGroup_81 : decode cX1_growGroup 81 = .ok (.iload 6, 2) := by decide +kernel
theorem dX1_growGroup_83 : decode cX1_growGroup 83 = .ok (.iload_n 3, 1) := by decide +kernel
theorem dX1_growGroup_84 : decode cX1_growGroup 84 = .ok (.iastore, 1) := by decide +kernel
theorem dX1_growGroup_85 : decode cX1_growGroup 85 = .ok (.aload_n 0, 1) := by decide +kernel
theorem dX1_growGroup_86 : decode cX1_growGroup 86 = .ok (.getfield 27, 3) := by decide +kernel
theorem dX1_growGroup_89 : decode cX1_growGroup 89 = .ok (.iload 4, 2) := by decide +kernel
theorem dX1_growGroup_91 : decode cX1_growGroup 91 = .ok (.iload 6, 2) := by decide +kernel
theorem dX1_growGroup_93 : decode cX1_growGroup 93 = .ok (.iastore, 1) := by decide +kernel
theorem dX1_growGroup_94 : decode cX1_growGroup 94 = .ok (.iinc 4 1, 3) := by decide +kernel
theorem dX1_growGroup_97 : decode cX1_growGroup 97 = .ok (.iinc 6 1, 3) := by decide +kernel
theorem dX1_growGroup_100 : decode cX1_growGroup 100 = .ok (.goto (-63), 3) := by decide +kernel
theorem dX1_growGroup_103 : decode cX1_growGroup 103 = .ok (.iinc 5 1, 3) := by decide +kernel
theorem dX1_growGroup_106 : decode cX1_growGroup 106 = .ok (.goto (-86), 3) := by decide +kernel
theorem dX1_growGroup_109 : decode cX1_growGroup 109 = .ok (.return_, 1) := by decide +kernel
theorem dX1_draws_0 : decode cX1_draws 0 = .ok (.aload_n 0, 1) := by decide +kernel
theorem dX1_draws_1 : decode cX1_draws 1 = .ok (.iload_n 1, 1) := by decide +kernel
theorem dX1_draws_2 : decode cX1_draws 2 = .ok (.iload_n 2, 1) := by decide +kernel
theorem dX1_draws_3 : decode cX1_draws 3 = .ok (.invokevirtual 77, 3) := by decide +kernel
theorem dX1_draws_6 : decode cX1_draws 6 = .ok (.iconst 1, 1) := by decide +kernel
theorem dX1_draws_7 : decode cX1_draws 7 = .ok (.if_icmp .ne 33, 3) := by decide +kernel
theorem dX1_draws_10 : decode cX1_draws 10 = .ok (.aload_n 0, 1) := by decide +kernel
theorem dX1_draws_11 : decode cX1_draws 11 = .ok (.getfield 43, 3) := by decide +kernel
theorem dX1_draws_14 : decode cX1_draws 14 = .ok (.ifCond .eq 22, 3) := by decide +kernel
theorem dX1_draws_17 : decode cX1_draws 17 = .ok (.iconst 2, 1) := by decide +kernel
theorem dX1_draws_18 : decode cX1_draws 18 = .ok (.aload_n 0, 1) := by decide +kernel
theorem dX1_draws_19 : decode cX1_draws 19 = .ok (.getfield 21, 3) := by decide +kernel
theorem dX1_draws_22 : decode cX1_draws 22 = .ok (.iload_n 2, 1) := by decide +kernel
theorem dX1_draws_23 : decode cX1_draws 23 = .ok (.iaload, 1) := by decide +kernel
theorem dX1_draws_24 : decode cX1_draws 24 = .ok (.imul, 1) := by decide +kernel
theorem dX1_draws_25 : decode cX1_draws 25 = .ok (.iconst 1, 1) := by decide +kernel
theorem dX1_draws_26 : decode cX1_draws 26 = .ok (.isub, 1) := by decide +kernel
theorem dX1_draws_27 : decode cX1_draws 27 = .ok (.aload_n 0, 1) := by decide +kernel
theorem dX1_draws_28 : decode cX1_draws 28 = .ok (.getfield 21, 3) := by decide +kernel
theorem dX1_draws_31 : decode cX1_draws 31 = .ok (.iload_n 1, 1) := by decide +kernel
theorem dX1_draws_32 : decode cX1_draws 32 = .ok (.iaload, 1) := by decide +kernel
theorem dX1_draws_33 : decode cX1_draws 33 = .ok (.if_icmp .gt 7, 3) := by decide +kernel
theorem dX1_draws_36 : decode cX1_draws 36 = .ok (.iconst 1, 1) := by decide +kernel
theorem dX1_draws_37 : decode cX1_draws 37 = .ok (.goto 4, 3) := by decide +kernel
theorem dX1_draws_40 : decode cX1_draws 40 = .ok (.iconst 0, 1) := by decide +kernel
theorem dX1_draws_41 : decode cX1_draws 41 = .ok (.ireturn, 1) := by decide +kernel
theorem dX1_distance_0 : decode cX1_distance 0 = .ok (.iconst 0, 1) := by decide +kernel
theorem dX1_distance_1 : decode cX1_distance 1 = .ok (.istore_n 3, 1) := by decide +kernel
theorem dX1_distance_2 : decode cX1_distance 2 = .ok (.iconst 0, 1) := by decide +kernel
theorem dX1_distance_3 : decode cX1_distance 3 = .ok (.istore 4, 2) := by decide +kernel
theorem dX1_distance_5 : decode cX1_distance 5 = .ok (.iload 4, 2) := by decide +kernel
theorem dX1_distance_7 : decode cX1_distance 7 = .ok (.aload_n 0, 1) := by decide +kernel
theorem dX1_distance_8 : decode cX1_distance 8 = .ok (.getfield 39, 3) := by decide +kernel
theorem dX1_distance_11 : decode cX1_distance 11 = .ok (.if_icmp .ge 39, 3) := by decide +kernel
theorem dX1_distance_14 : decode cX1_distance 14 = .ok (.aload_n 0, 1) := by decide +kernel
theorem dX1_distance_15 : decode cX1_distance 15 = .ok (.getfield 9, 3) := by decide +kernel
theorem dX1_distance_18 : decode cX1_distance 18 = .ok (.iload_n 1, 1) := by decide +kernel
theorem dX1_distance_19 : decode cX1_distance 19 = .ok (.bipush 12, 2) := by decide +kernel
theorem dX1_distance_21 : decode cX1_distance 21 = .ok (.imul, 1) := by decide +kernel
theorem dX1_distance_22 : decode cX1_distance 22 = .ok (.iload 4, 2) := by decide +kernel
theorem dX1_distance_24 : decode cX1_distance 24 = .ok (.iadd, 1) := by decide +kernel
theorem dX1_distance_25 : decode cX1_distance 25 = .ok (.iaload, 1) := by decide +kernel
theorem dX1_distance_26 : decode cX1_distance 26 = .ok (.aload_n 0, 1) := by decide +kernel
theorem dX1_distance_27 : decode cX1_distance 27 = .ok (.getfield 9, 3) := by decide +kernel
theorem dX1_distance_30 : decode cX1_distance 30 = .ok (.iload_n 2, 1) := by decide +kernel
theorem dX1_distance_31 : decode cX1_distance 31 = .ok (.bipush 12, 2) := by decide +kernel
theorem dX1_distance_33 : decode cX1_distance 33 = .ok (.imul, 1) := by decide +kernel
theorem dX1_distance_34 : decode cX1_distance 34 = .ok (.iload 4, 2) := by decide +kernel
theorem dX1_distance_36 : decode cX1_distance 36 = .ok (.iadd, 1) := by decide +kernel
theorem dX1_distance_37 : decode cX1_distance 37 = .ok (.iaload, 1) := by decide +kernel
theorem dX1_distance_38 : decode cX1_distance 38 = .ok (.if_icmp .eq 6, 3) := by decide +kernel
theorem dX1_distance_41 : decode cX1_distance 41 = .ok (.iinc 3 1, 3) := by decide +kernel
theorem dX1_distance_44 : decode cX1_distance 44 = .ok (.iinc 4 1, 3) := by decide +kernel
theorem dX1_distance_47 : decode cX1_distance 47 = .ok (.goto (-42), 3) := by decide +kernel
theorem dX1_distance_50 : decode cX1_distance 50 = .ok (.iload_n 3, 1) := by decide +kernel
theorem dX1_distance_51 : decode cX1_distance 51 = .ok (.ireturn, 1) := by decide +kernel
theorem dX2_init_0 : decode cX2_init 0 = .ok (.aload_n 0, 1) := by decide +kernel
theorem dX2_init_1 : decode cX2_init 1 = .ok (.invokespecial 3, 3) := by decide +kernel
theorem dX2_init_4 : decode cX2_init 4 = .ok (.aload_n 0, 1) := by decide +kernel
theorem dX2_init_5 : decode cX2_init 5 = .ok (.new 9, 3) := by decide +kernel
theorem dX2_init_8 : decode cX2_init 8 = .ok (.dup, 1) := by decide +kernel
theorem dX2_init_9 : decode cX2_init 9 = .ok (.invokespecial 11, 3) := by decide +kernel
theorem dX2_init_12 : decode cX2_init 12 = .ok (.putfield 12, 3) := by decide +kernel
theorem dX2_init_15 : decode cX2_init 15 = .ok (.return_, 1) := by decide +kernel
theorem dX2_parse_0 : decode cX2_parse 0 = .ok (.aload_n 0, 1) := by decide +kernel
theorem dX2_parse_1 : decode cX2_parse 1 = .ok (.iload_n 2, 1) := by decide +kernel
theorem dX2_parse_2 : decode cX2_parse 2 = .ok (.putfield 18, 3) := by decide +kernel
theorem dX2_parse_5 : decode cX2_parse 5 = .ok (.aload_n 0, 1) := by decide +kernel
theorem dX2_parse_6 : decode cX2_parse 6 = .ok (.getfield 12, 3) := by decide +kernel
theorem dX2_parse_9 : decode cX2_parse 9 = .ok (.aload_n 0, 1) := by decide +kernel
theorem dX2_parse_10 : decode cX2_parse 10 = .ok (.getfield 18, 3) := by decide +kernel
theorem dX2_parse_13 : decode cX2_parse 13 = .ok (.ifCond .ne 7, 3) := by decide +kernel
theorem dX2_parse_16 : decode cX2_parse 16 = .ok (.iconst 1, 1) := by decide +kernel
theorem dX2_parse_17 : decode cX2_parse 17 = .ok (.goto 4, 3) := by decide +kernel
theorem dX2_parse_20 : decode cX2_parse 20 = .ok (.iconst 0, 1) := by decide +kernel
theorem dX2_parse_21 : decode cX2_parse 21 = .ok (.invokevirtual 22, 3) := by decide +kernel
theorem dX2_parse_24 : decode cX2_parse 24 = .ok (.aload_n 0, 1) := by decide +kernel
theorem dX2_parse_25 : decode cX2_parse 25 = .ok (.iconst 0, 1) := by decide +kernel
theorem dX2_parse_26 : decode cX2_parse 26 = .ok (.invokevirtual 26, 3) := by decide +kernel
theorem dX2_parse_29 : decode cX2_parse 29 = .ok (.pop, 1) := by decide +kernel
theorem dX2_parse_30 : decode cX2_parse 30 = .ok (.iconst 0, 1) := by decide +kernel
theorem dX2_parse_31 : decode cX2_parse 31 = .ok (.istore_n 3, 1) := by decide +kernel
theorem dX2_parse_32 : decode cX2_parse 32 = .ok (.iload_n 3, 1) := by decide +kernel
theorem dX2_parse_33 : decode cX2_parse 33 = .ok (.aload_n 1, 1) := by decide +kernel
theorem dX2_parse_34 : decode cX2_parse 34 = .ok (.invokevirtual 30, 3) := by decide +kernel
theorem dX2_parse_37 : decode cX2_parse 37 = .ok (.if_icmp .ge 33, 3) := by decide +kernel
theorem dX2_parse_40 : decode cX2_parse 40 = .ok (.aload_n 0, 1) := by decide +kernel
theorem dX2_parse_41 : decode cX2_parse 41 = .ok (.aload_n 1, 1) := by decide +kernel
theorem dX2_parse_42 : decode cX2_parse 42 = .ok (.iload_n 3, 1) := by decide +kernel
theorem dX2_parse_43 : decode cX2_parse 43 = .ok (.invokevirtual 36, 3) := by decide +kernel
theorem dX2_parse_46 : decode cX2_parse 46 = .ok (.invokevirtual 39, 3) := by decide +kernel
theorem dX2_parse_49 : decode cX2_parse 49 = .ok (.istore 4, 2) := by decide +kernel
theorem dX2_parse_51 : decode cX2_parse 51 = .ok (.iload 4, 2) := by decide +kernel
theorem dX2_parse_53 : decode cX2_parse 53 = .ok (.ifCond .eq 11, 3) := by decide +kernel
theorem dX2_parse_56 : decode cX2_parse 56 = .ok (.aload_n 0, 1) := by decide +kernel
theorem dX2_parse_57 : decode cX2_parse 57 = .ok (.iload_n 3, 1) := by decide +kernel
theorem dX2_parse_58 : decode cX2_parse 58 = .ok (.putfield 42, 3) := by decide +kernel
theorem dX2_parse_61 : decode cX2_parse 61 = .ok (.iload 4, 2) := by decide +kernel
theorem dX2_parse_63 : decode cX2_parse 63 = .ok (.ireturn, 1) := by decide +kernel
theorem dX2_parse_64 : decode cX2_parse 64 = .ok (.iinc 3 1, 3) := by decide +kernel
theorem dX2_parse_67 : decode cX2_parse 67 = .ok (.goto (-35), 3) := by decide +kernel
theorem dX2_parse_70 : decode cX2_parse 70 = .ok (.aload_n 0, 1) := by decide +kernel
theorem dX2_parse_71 : decode cX2_parse 71 = .ok (.aload_n 1, 1) := by decide +kernel
theorem dX2_parse_72 : decode cX2_parse 72 = .ok (.invokevirtual 30, 3) := by decide +kernel
theorem dX2_parse_75 : decode cX2_parse 75 = .ok (.putfield 42, 3) := by decide +kernel
theorem dX2_parse_78 : decode cX2_parse 78 = .ok (.aload_n 0, 1) := by decide +kernel
theorem dX2_parse_79 : decode cX2_parse 79 = .ok (.invokevirtual 45, 3) := by decide +kernel
theorem dX2_parse_82 : decode cX2_parse 82 = .ok (.ifCond .eq 7, 3) := by decide +kernel
theorem dX2_parse_85 : decode cX2_parse 85 = .ok (.iconst 0, 1) := by decide +kernel
theorem dX2_parse_86 : decode cX2_parse 86 = .ok (.goto 4, 3) := by decide +kernel
theorem dX2_parse_89 : decode cX2_parse 89 = .ok (.iconst 1, 1) := by decide +kernel
theorem dX2_parse_90 : decode cX2_parse 90 = .ok (.ireturn, 1) := by decide +kernel
theorem dX2_faultAt_0 : decode cX2_faultAt 0 = .ok (.aload_n 0, 1) := by decide +kernel
theorem dX2_faultAt_1 : decode cX2_faultAt 1 = .ok (.getfield 42, 3) := by decide +kernel
theorem dX2_faultAt_4 : decode cX2_faultAt 4 = .ok (.ireturn, 1) := by decide +kernel
theorem dX2_exchange_0 : decode cX2_exchange 0 = .ok (.aload_n 0, 1) := by decide +kernel
theorem dX2_exchange_1 : decode cX2_exchange 1 = .ok (.getfield 12, 3) := by decide +kernel
theorem dX2_exchange_4 : decode cX2_exchange 4 = .ok (.astore_n 2, 1) := by decide +kernel
theorem dX2_exchange_5 : decode cX2_exchange 5 = .ok (.aload_n 0, 1) := by decide +kernel
theorem dX2_exchange_6 : decode cX2_exchange 6 = .ok (.aload_n 1, 1) := by decide +kernel
theorem dX2_exchange_7 : decode cX2_exchange 7 = .ok (.putfield 12, 3) := by decide +kernel
theorem dX2_exchange_10 : decode cX2_exchange 10 = .ok (.aload_n 2, 1) := by decide +kernel
theorem dX2_exchange_11 : decode cX2_exchange 11 = .ok (.areturn, 1) := by decide +kernel
theorem dX2_isWhole_0 : decode cX2_isWhole 0 = .ok (.aload_n 0, 1) := by decide +kernel
theorem dX2_isWhole_1 : decode cX2_isWhole 1 = .ok (.getfield 18, 3) := by decide +kernel
theorem dX2_isWhole_4 : decode cX2_isWhole 4 = .ok (.ifCond .ne 26, 3) := by decide +kernel
theorem dX2_isWhole_7 : decode cX2_isWhole 7 = .ok (.aload_n 0, 1) := by decide +kernel
theorem dX2_isWhole_8 : decode cX2_isWhole 8 = .ok (.getfield 49, 3) := by decide +kernel
theorem dX2_isWhole_11 : decode cX2_isWhole 11 = .ok (.ifCond .ne 17, 3) := by decide +kernel
theorem dX2_isWhole_14 : decode cX2_isWhole 14 = .ok (.aload_n 0, 1) := by decide +kernel
theorem dX2_isWhole_15 : decode cX2_isWhole 15 = .ok (.getfield 12, 3) := by decide +kernel
theorem dX2_isWhole_18 : decode cX2_isWhole 18 = .ok (.invokevirtual 52, 3) := by decide +kernel
theorem dX2_isWhole_21 : decode cX2_isWhole 21 = .ok (.ifCond .le 7, 3) := by decide +kernel
theorem dX2_isWhole_24 : decode cX2_isWhole 24 = .ok (.iconst 1, 1) := by decide +kernel
theorem dX2_isWhole_25 : decode cX2_isWhole 25 = .ok (.goto 4, 3) := by decide +kernel
theorem dX2_isWhole_28 : decode cX2_isWhole 28 = .ok (.iconst 0, 1) := by decide +kernel
theorem dX2_isWhole_29 : decode cX2_isWhole 29 = .ok (.ireturn, 1) := by decide +kernel
theorem dX2_isWhole_30 : decode cX2_isWhole 30 = .ok (.aload_n 0, 1) := by decide +kernel
theorem dX2_isWhole_31 : decode cX2_isWhole 31 = .ok (.getfield 49, 3) := by decide +kernel
theorem dX2_isWhole_34 : decode cX2_isWhole 34 = .ok (.iconst 2, 1) := by decide +kernel
theorem dX2_isWhole_35 : decode cX2_isWhole 35 = .ok (.if_icmp .ne 14, 3) := by decide +kernel
theorem dX2_isWhole_38 : decode cX2_isWhole 38 = .ok (.aload_n 0, 1) := by decide +kernel
theorem dX2_isWhole_39 : decode cX2_isWhole 39 = .ok (.invokevirtual 55, 3) := by decide +kernel
theorem dX2_isWhole_42 : decode cX2_isWhole 42 = .ok (.ifCond .eq 7, 3) := by decide +kernel
theorem dX2_isWhole_45 : decode cX2_isWhole 45 = .ok (.iconst 1, 1) := by decide +kernel
theorem dX2_isWhole_46 : decode cX2_isWhole 46 = .ok (.goto 4, 3) := by decide +kernel
theorem dX2_isWhole_49 : decode cX2_isWhole 49 = .ok (.iconst 0, 1) := by decide +kernel
theorem dX2_isWhole_50 : decode cX2_isWhole 50 = .ok (.ireturn, 1) := by decide +kernel
theorem dX2_mayEndHere_0 : decode cX2_mayEndHere 0 = .ok (.aload_n 0, 1) := by decide +kernel
theorem dX2_mayEndHere_1 : decode cX2_mayEndHere 1 = .ok (.getfield 58, 3) := by decide +kernel
theorem dX2_mayEndHere_4 : decode cX2_mayEndHere 4 = .ok (.ifCond .ne 21, 3) := by decide +kernel
theorem dX2_mayEndHere_7 : decode cX2_mayEndHere 7 = .ok (.aload_n 0, 1) := by decide +kernel
theorem dX2_mayEndHere_8 : decode cX2_mayEndHere 8 = .ok (.getfield 12, 3) := by decide +kernel
theorem dX2_mayEndHere_11 : decode cX2_mayEndHere 11 = .ok (.aload_n 0, 1) := by decide +kernel
theorem dX2_mayEndHere_12 : decode cX2_mayEndHere 12 = .ok (.invokevirtual 61, 3) := by decide +kernel
theorem dX2_mayEndHere_15 : decode cX2_mayEndHere 15 = .ok (.invokevirtual 64, 3) := by decide +kernel
theorem dX2_mayEndHere_18 : decode cX2_mayEndHere 18 = .ok (.ifCond .le 7, 3) := by decide +kernel
theorem dX2_mayEndHere_21 : decode cX2_mayEndHere 21 = .ok (.iconst 1, 1) := by decide +kernel
theorem dX2_mayEndHere_22 : decode cX2_mayEndHere 22 = .ok (.goto 4, 3) := by decide +kernel
theorem dX2_mayEndHere_25 : decode cX2_mayEndHere 25 = .ok (.iconst 0, 1) := by decide +kernel
theorem dX2_mayEndHere_26 : decode cX2_mayEndHere 26 = .ok (.ireturn, 1) := by decide +kernel
theorem dX2_last_0 : decode cX2_last 0 = .ok (.aload_n 0, 1) := by decide +kernel
theorem dX2_last_1 : decode cX2_last 1 = .ok (.getfield 12, 3) := by decide +kernel
theorem dX2_last_4 : decode cX2_last 4 = .ok (.invokevirtual 52, 3) := by decide +kernel
theorem dX2_last_7 : decode cX2_last 7 = .ok (.iconst 1, 1) := by decide +kernel
theorem dX2_last_8 : decode cX2_last 8 = .ok (.isub, 1) := by decide +kernel
theorem dX2_last_9 : decode cX2_last 9 = .ok (.ireturn, 1) := by decide +kernel
theorem dX2_enter_0 : decode cX2_enter 0 = .ok (.aload_n 0, 1) := by decide +kernel
theorem dX2_enter_1 : decode cX2_enter 1 = .ok (.iload_n 1, 1) := by decide +kernel
theorem dX2_enter_2 : decode cX2_enter 2 = .ok (.putfield 49, 3) := by decide +kernel
theorem dX2_enter_5 : decode cX2_enter 5 = .ok (.aload_n 0, 1) := by decide +kernel
theorem dX2_enter_6 : decode cX2_enter 6 = .ok (.iconst 0, 1) := by decide +kernel
theorem dX2_enter_7 : decode cX2_enter 7 = .ok (.putfield 58, 3) := by decide +kernel
theorem dX2_enter_10 : decode cX2_enter 10 = .ok (.iconst 0, 1) := by decide +kernel
theorem dX2_enter_11 : decode cX2_enter 11 = .ok (.ireturn, 1) := by decide +kernel
theorem dX2_step_0 : decode cX2_step 0 = .ok (.aload_n 0, 1) := by decide +kernel
theorem dX2_step_1 : decode cX2_step 1 = .ok (.getfield 49, 3) := by decide +kernel
theorem dX2_step_4 : decode cX2_step 4 = .ok (.tableswitch 76 0 4 #[36, 42, 48, 54, 70], 36) := by decide +kernel
theorem dX2_step_40 : decode cX2_step 40 = .ok (.aload_n 0, 1) := by decide +kernel
theorem dX2_step_41 : decode cX2_step 41 = .ok (.iload_n 1, 1) := by decide +kernel
theorem dX2_step_42 : decode cX2_step 42 = .ok (.invokevirtual 67, 3) := by decide +kernel
theorem dX2_step_45 : decode cX2_step 45 = .ok (.ireturn, 1) := by decide +kernel
theorem dX2_step_46 : decode cX2_step 46 = .ok (.aload_n 0, 1) := by decide +kernel
theorem dX2_step_47 : decode cX2_step 47 = .ok (.iload_n 1, 1) := by decide +kernel
theorem dX2_step_48 : decode cX2_step 48 = .ok (.invokevirtual 70, 3) := by decide +kernel
theorem dX2_step_51 : decode cX2_step 51 = .ok (.ireturn, 1) := by decide +kernel
theorem dX2_step_52 : decode cX2_step 52 = .ok (.aload_n 0, 1) := by decide +kernel
theorem dX2_step_53 : decode cX2_step 53 = .ok (.iload_n 1, 1) := by decide +kernel
theorem dX2_step_54 : decode cX2_step 54 = .ok (.invokevirtual 73, 3) := by decide +kernel
theorem dX2_step_57 : decode cX2_step 57 = .ok (.ireturn, 1) := by decide +kernel
theorem dX2_step_58 : decode cX2_step 58 = .ok (.iload_n 1, 1) := by decide +kernel
theorem dX2_step_59 : decode cX2_step 59 = .ok (.bipush 43, 2) := by decide +kernel
theorem dX2_step_61 : decode cX2_step 61 = .ok (.if_icmp .ne 11, 3) := by decide +kernel
theorem dX2_step_64 : decode cX2_step 64 = .ok (.aload_n 0, 1) := by decide +kernel
theorem dX2_step_65 : decode cX2_step 65 = .ok (.iconst 4, 1) := by decide +kernel
theorem dX2_step_66 : decode cX2_step 66 = .ok (.invokevirtual 26, 3) := by decide +kernel
theorem dX2_step_69 : decode cX2_step 69 = .ok (.goto 4, 3) := by decide +kernel
theorem dX2_step_72 : decode cX2_step 72 = .ok (.iconst 2, 1) := by decide +kernel
theorem dX2_step_73 : decode cX2_step 73 = .ok (.ireturn, 1) := by decide +kernel
theorem dX2_step_74 : decode cX2_step 74 = .ok (.aload_n 0, 1) := by decide +kernel
theorem dX2_step_75 : decode cX2_step 75 = .ok (.iload_n 1, 1) := by decide +kernel
theorem dX2_step_76 : decode cX2_step 76 = .ok (.invokevirtual 76, 3) := by decide +kernel
theorem dX2_step_79 : decode cX2_step 79 = .ok (.ireturn, 1) := by decide +kernel
theorem dX2_step_80 : decode cX2_step 80 = .ok (.aload_n 0, 1) := by decide +kernel
theorem dX2_step_81 : decode cX2_step 81 = .ok (.iload_n 1, 1) := by decide +kernel
theorem dX2_step_82 : decode cX2_step 82 = .ok (.invokevirtual 79, 3) := by decide +kernel
theorem dX2_step_85 : decode cX2_step 85 = .ok (.ireturn, 1) := by decide +kernel
theorem dX2_stepMark_0 : decode cX2_stepMark 0 = .ok (.iload_n 1, 1) := by decide +kernel
theorem dX2_stepMark_1 : decode cX2_stepMark 1 = .ok (.aload_n 0, 1) := by decide +kernel
theorem dX2_stepMark_2 : decode cX2_stepMark 2 = .ok (.getfield 18, 3) := by decide +kernel
theorem dX2_stepMark_5 : decode cX2_stepMark 5 = .ok (.ifCond .ne 8, 3) := by decide +kernel
theorem dX2_stepMark_8 : decode cX2_stepMark 8 = .ok (.bipush 64, 2) := by decide +kernel
theorem dX2_stepMark_10 : decode cX2_stepMark 10 = .ok (.goto 5, 3) := by decide +kernel
theorem dX2_stepMark_13 : decode cX2_stepMark 13 = .ok (.bipush 62, 2) := by decide +kernel
theorem dX2_stepMark_15 : decode cX2_stepMark 15 = .ok (.if_icmp .eq 5, 3) := by decide +kernel
theorem dX2_stepMark_18 : decode cX2_stepMark 18 = .ok (.iconst 2, 1) := by decide +kernel
theorem dX2_stepMark_19 : decode cX2_stepMark 19 = .ok (.ireturn, 1) := by decide +kernel
theorem dX2_stepMark_20 : decode cX2_stepMark 20 = .ok (.aload_n 0, 1) := by decide +kernel
theorem dX2_stepMark_21 : decode cX2_stepMark 21 = .ok (.getfield 12, 3) := by decide +kernel
theorem dX2_stepMark_24 : decode cX2_stepMark 24 = .ok (.invokevirtual 52, 3) := by decide +kernel
theorem dX2_stepMark_27 : decode cX2_stepMark 27 = .ok (.bipush 60, 2) := by decide +kernel
theorem dX2_stepMark_29 : decode cX2_stepMark 29 = .ok (.if_icmp .lt 5, 3) := by decide +kernel
theorem dX2_stepMark_32 : decode cX2_stepMark 32 = .ok (.iconst 4, 1) := by decide +kernel
theorem dX2_stepMark_33 : decode cX2_stepMark 33 = .ok (.ireturn, 1) := by decide +kernel
theorem dX2_stepMark_34 : decode cX2_stepMark 34 = .ok (.aload_n 0, 1) := by decide +kernel
theorem dX2_stepMark_35 : decode cX2_stepMark 35 = .ok (.getfield 12, 3) := by decide +kernel
theorem dX2_stepMark_38 : decode cX2_stepMark 38 = .ok (.invokevirtual 82, 3) := by decide +kernel
theorem dX2_stepMark_41 : decode cX2_stepMark 41 = .ok (.aload_n 0, 1) := by decide +kernel
theorem dX2_stepMark_42 : decode cX2_stepMark 42 = .ok (.iconst 1, 1) := by decide +kernel
theorem dX2_stepMark_43 : decode cX2_stepMark 43 = .ok (.invokevirtual 26, 3) := by decide +kernel
theorem dX2_stepMark_46 : decode cX2_stepMark 46 = .ok (.ireturn, 1) := by decide +kernel
theorem dX2_stepName_0 : decode cX2_stepName 0 = .ok (.aload_n 0, 1) := by decide +kernel
theorem dX2_stepName_1 : decode cX2_stepName 1 = .ok (.getfield 12, 3) := by decide +kernel
theorem dX2_stepName_4 : decode cX2_stepName 4 = .ok (.aload_n 0, 1) := by decide +kernel
theorem dX2_stepName_5 : decode cX2_stepName 5 = .ok (.invokevirtual 61, 3) := by decide +kernel
theorem dX2_stepName_8 : decode cX2_stepName 8 = .ok (.invokevirtual 85, 3) := by decide +kernel
theorem dX2_stepName_11 : decode cX2_stepName 11 = .ok (.istore_n 2, 1) := by decide +kernel
theorem dX2_stepName_12 : decode cX2_stepName 12 = .ok (.iload_n 1, 1) := by decide +kernel
theorem dX2_stepName_13 : decode cX2_stepName 13 = .ok (.bipush 10, 2) := by decide +kernel
theorem dX2_stepName_15 : decode cX2_stepName 15 = .ok (.if_icmp .ne 13, 3) := by decide +kernel
theorem dX2_stepName_18 : decode cX2_stepName 18 = .ok (.iload_n 2, 1) := by decide +kernel
theorem dX2_stepName_19 : decode cX2_stepName 19 = .ok (.ifCond .le 9, 3) := by decide +kernel
theorem dX2_stepName_22 : decode cX2_stepName 22 = .ok (.aload_n 0, 1) := by decide +kernel
theorem dX2_stepName_23 : decode cX2_stepName 23 = .ok (.iconst 2, 1) := by decide +kernel
theorem dX2_stepName_24 : decode cX2_stepName 24 = .ok (.invokevirtual 26, 3) := by decide +kernel
theorem dX2_stepName_27 : decode cX2_stepName 27 = .ok (.ireturn, 1) := by decide +kernel
theorem dX2_stepName_28 : decode cX2_stepName 28 = .ok (.iload_n 1, 1) := by decide +kernel
theorem dX2_stepName_29 : decode cX2_stepName 29 = .ok (.invokestatic 88, 3) := by decide +kernel
theorem dX2_stepName_32 : decode cX2_stepName 32 = .ok (.ifCond .ne 5, 3) := by decide +kernel
theorem dX2_stepName_35 : decode cX2_stepName 35 = .ok (.iconst 2, 1) := by decide +kernel
theorem dX2_stepName_36 : decode cX2_stepName 36 = .ok (.ireturn, 1) := by decide +kernel
theorem dX2_stepName_37 : decode cX2_stepName 37 = .ok (.iload_n 2, 1) := by decide +kernel
theorem dX2_stepName_38 : decode cX2_stepName 38 = .ok (.bipush 40, 2) := by decide +kernel
theorem dX2_stepName_40 : decode cX2_stepName 40 = .ok (.if_icmp .lt 5, 3) := by decide +kernel
theorem dX2_stepName_43 : decode cX2_stepName 43 = .ok (.iconst 3, 1) := by decide +kernel
theorem dX2_stepName_44 : decode cX2_stepName 44 = .ok (.ireturn, 1) := by decide +kernel
theorem dX2_stepName_45 : decode cX2_stepName 45 = .ok (.aload_n 0, 1) := by decide +kernel
theorem dX2_stepName_46 : decode cX2_stepName 46 = .ok (.getfield 12, 3) := by decide +kernel
theorem dX2_stepName_49 : decode cX2_stepName 49 = .ok (.iload_n 1, 1) := by decide +kernel
theorem dX2_stepName_50 : decode cX2_stepName 50 = .ok (.invokevirtual 92, 3) := by decide +kernel
theorem dX2_stepName_53 : decode cX2_stepName 53 = .ok (.iconst 0, 1) := by decide +kernel
theorem dX2_stepName_54 : decode cX2_stepName 54 = .ok (.ireturn, 1) := by decide +kernel
theorem dX2_stepLetters_0 : decode cX2_stepLetters 0 = .ok (.iload_n 1, 1) := by decide +kernel
theorem dX2_stepLetters_1 : decode cX2_stepLetters 1 = .ok (.bipush 10, 2) := by decide +kernel
theorem dX2_stepLetters_3 : decode cX2_stepLetters 3 = .ok (.if_icmp .ne 27, 3) := by decide +kernel
theorem dX2_stepLetters_6 : decode cX2_stepLetters 6 = .ok (.aload_n 0, 1) := by decide +kernel
theorem dX2_stepLetters_7 : decode cX2_stepLetters 7 = .ok (.getfield 58, 3) := by decide +kernel
theorem dX2_stepLetters_10 : decode cX2_stepLetters 10 = .ok (.ifCond .le 20, 3) := by decide +kernel
theorem dX2_stepLetters_13 : decode cX2_stepLetters 13 = .ok (.aload_n 0, 1) := by decide +kernel
theorem dX2_stepLetters_14 : decode cX2_stepLetters 14 = .ok (.aload_n 0, 1) := by decide +kernel
theorem dX2_stepLetters_15 : decode cX2_stepLetters 15 = .ok (.getfield 18, 3) := by decide +kernel
theorem dX2_stepLetters_18 : decode cX2_stepLetters 18 = .ok (.ifCond .ne 7, 3) := by decide +kernel
theorem dX2_stepLetters_21 : decode cX2_stepLetters 21 = .ok (.iconst 3, 1) := by decide +kernel
theorem dX2_stepLetters_22 : decode cX2_stepLetters 22 = .ok (.goto 4, 3) := by decide +kernel
theorem dX2_stepLetters_25 : decode cX2_stepLetters 25 = .ok (.iconst 2, 1) := by decide +kernel
theorem dX2_stepLetters_26 : decode cX2_stepLetters 26 = .ok (.invokevirtual 26, 3) := by decide +kernel
theorem dX2_stepLetters_29 : decode cX2_stepLetters 29 = .ok (.ireturn, 1) := by decide +kernel
theorem dX2_stepLetters_30 : decode cX2_stepLetters 30 = .ok (.aload_n 0, 1) := by decide +kernel
theorem dX2_stepLetters_31 : decode cX2_stepLetters 31 = .ok (.getfield 18, 3) := by decide +kernel
theorem dX2_stepLetters_34 : decode cX2_stepLetters 34 = .ok (.iconst 1, 1) := by decide +kernel
theorem dX2_stepLetters_35 : decode cX2_stepLetters 35 = .ok (.if_icmp .ne 22, 3) := by decide +kernel
theorem dX2_stepLetters_38 : decode cX2_stepLetters 38 = .ok (.iload_n 1, 1) := by decide +kernel
theorem dX2_stepLetters_39 : decode cX2_stepLetters 39 = .ok (.bipush 62, 2) := by decide +kernel
theorem dX2_stepLetters_41 : decode cX2_stepLetters 41 = .ok (.if_icmp .ne 16, 3) := by decide +kernel
theorem dX2_stepLetters_44 : decode cX2_stepLetters 44 = .ok (.aload_n 0, 1) := by decide +kernel
theorem dX2_stepLetters_45 : decode cX2_stepLetters 45 = .ok (.invokevirtual 55, 3) := by decide +kernel
theorem dX2_stepLetters_48 : decode cX2_stepLetters 48 = .ok (.ifCond .eq 9, 3) := by decide +kernel
theorem dX2_stepLetters_51 : decode cX2_stepLetters 51 = .ok (.aload_n 0, 1) := by decide +kernel
theorem dX2_stepLetters_52 : decode cX2_stepLetters 52 = .ok (.iload_n 1, 1) := by decide +kernel
theorem dX2_stepLetters_53 : decode cX2_stepLetters 53 = .ok (.invokevirtual 67, 3) := by decide +kernel
theorem dX2_stepLetters_56 : decode cX2_stepLetters 56 = .ok (.ireturn, 1) := by decide +kernel
theorem dX2_stepLetters_57 : decode cX2_stepLetters 57 = .ok (.iload_n 1, 1) := by decide +kernel
theorem dX2_stepLetters_58 : decode cX2_stepLetters 58 = .ok (.invokestatic 96, 3) := by decide +kernel
theorem dX2_stepLetters_61 : decode cX2_stepLetters 61 = .ok (.ifCond .ne 5, 3) := by decide +kernel
theorem dX2_stepLetters_64 : decode cX2_stepLetters 64 = .ok (.iconst 2, 1) := by decide +kernel
theorem dX2_stepLetters_65 : decode cX2_stepLetters 65 = .ok (.ireturn, 1) := by decide +kernel
theorem dX2_stepLetters_66 : decode cX2_stepLetters 66 = .ok (.aload_n 0, 1) := by decide +kernel
theorem dX2_stepLetters_67 : decode cX2_stepLetters 67 = .ok (.getfield 12, 3) := by decide +kernel
theorem dX2_stepLetters_70 : decode cX2_stepLetters 70 = .ok (.aload_n 0, 1) := by decide +kernel
theorem dX2_stepLetters_71 : decode cX2_stepLetters 71 = .ok (.invokevirtual 61, 3) := by decide +kernel
theorem dX2_stepLetters_74 : decode cX2_stepLetters 74 = .ok (.invokevirtual 64, 3) := by decide +kernel
theorem dX2_stepLetters_77 : decode cX2_stepLetters 77 = .ok (.bipush 120, 2) := by decide +kernel
theorem dX2_stepLetters_79 : decode cX2_stepLetters 79 = .ok (.if_icmp .lt 5, 3) := by decide +kernel
theorem dX2_stepLetters_82 : decode cX2_stepLetters 82 = .ok (.iconst 3, 1) := by decide +kernel
theorem dX2_stepLetters_83 : decode cX2_stepLetters 83 = .ok (.ireturn, 1) := by decide +kernel
theorem dX2_stepLetters_84 : decode cX2_stepLetters 84 = .ok (.aload_n 0, 1) := by decide +kernel
theorem dX2_stepLetters_85 : decode cX2_stepLetters 85 = .ok (.getfield 12, 3) := by decide +kernel
theorem dX2_stepLetters_88 : decode cX2_stepLetters 88 = .ok (.iload_n 1, 1) := by decide +kernel
theorem dX2_stepLetters_89 : decode cX2_stepLetters 89 = .ok (.invokevirtual 99, 3) := by decide +kernel
theorem dX2_stepLetters_92 : decode cX2_stepLetters 92 = .ok (.aload_n 0, 1) := by decide +kernel
theorem dX2_stepLetters_93 : decode cX2_stepLetters 93 = .ok (.dup, 1) := by decide +kernel
theorem dX2_stepLetters_94 : decode cX2_stepLetters 94 = .ok (.getfield 58, 3) := by decide +kernel
theorem dX2_stepLetters_97 : decode cX2_stepLetters 97 = .ok (.iconst 1, 1) := by decide +kernel
theorem dX2_stepLetters_98 : decode cX2_stepLetters 98 = .ok (.iadd, 1) := by decide +kernel
theorem dX2_stepLetters_99 : decode cX2_stepLetters 99 = .ok (.putfield 58, 3) := by decide +kernel
theorem dX2_stepLetters_102 : decode cX2_stepLetters 102 = .ok (.iconst 0, 1) := by decide +kernel
theorem dX2_stepLetters_103 : decode cX2_stepLetters 103 = .ok (.ireturn, 1) := by decide +kernel
theorem dX2_stepBehindPlus_0 : decode cX2_stepBehindPlus 0 = .ok (.aload_n 0, 1) := by decide +kernel
theorem dX2_stepBehindPlus_1 : decode cX2_stepBehindPlus 1 = .ok (.getfield 58, 3) := by decide +kernel
theorem dX2_stepBehindPlus_4 : decode cX2_stepBehindPlus 4 = .ok (.ifCond .eq 21, 3) := by decide +kernel
theorem dX2_stepBehindPlus_7 : decode cX2_stepBehindPlus 7 = .ok (.aload_n 0, 1) := by decide +kernel
theorem dX2_stepBehindPlus_8 : decode cX2_stepBehindPlus 8 = .ok (.getfield 58, 3) := by decide +kernel
theorem dX2_stepBehindPlus_11 : decode cX2_stepBehindPlus 11 = .ok (.aload_n 0, 1) := by decide +kernel
theorem dX2_stepBehindPlus_12 : decode cX2_stepBehindPlus 12 = .ok (.getfield 12, 3) := by decide +kernel
theorem dX2_stepBehindPlus_15 : decode cX2_stepBehindPlus 15 = .ok (.aload_n 0, 1) := by decide +kernel
theorem dX2_stepBehindPlus_16 : decode cX2_stepBehindPlus 16 = .ok (.invokevirtual 61, 3) := by decide +kernel
theorem dX2_stepBehindPlus_19 : decode cX2_stepBehindPlus 19 = .ok (.invokevirtual 85, 3) := by decide +kernel
theorem dX2_stepBehindPlus_22 : decode cX2_stepBehindPlus 22 = .ok (.if_icmp .ne 7, 3) := by decide +kernel
theorem dX2_stepBehindPlus_25 : decode cX2_stepBehindPlus 25 = .ok (.iconst 1, 1) := by decide +kernel
theorem dX2_stepBehindPlus_26 : decode cX2_stepBehindPlus 26 = .ok (.goto 4, 3) := by decide +kernel
theorem dX2_stepBehindPlus_29 : decode cX2_stepBehindPlus 29 = .ok (.iconst 0, 1) := by decide +kernel
theorem dX2_stepBehindPlus_30 : decode cX2_stepBehindPlus 30 = .ok (.istore_n 2, 1) := by decide +kernel
theorem dX2_stepBehindPlus_31 : decode cX2_stepBehindPlus 31 = .ok (.iload_n 1, 1) := by decide +kernel
theorem dX2_stepBehindPlus_32 : decode cX2_stepBehindPlus 32 = .ok (.bipush 10, 2) := by decide +kernel
theorem dX2_stepBehindPlus_34 : decode cX2_stepBehindPlus 34 = .ok (.if_icmp .ne 13, 3) := by decide +kernel
theorem dX2_stepBehindPlus_37 : decode cX2_stepBehindPlus 37 = .ok (.iload_n 2, 1) := by decide +kernel
theorem dX2_stepBehindPlus_38 : decode cX2_stepBehindPlus 38 = .ok (.ifCond .eq 9, 3) := by decide +kernel
theorem dX2_stepBehindPlus_41 : decode cX2_stepBehindPlus 41 = .ok (.aload_n 0, 1) := by decide +kernel
theorem dX2_stepBehindPlus_42 : decode cX2_stepBehindPlus 42 = .ok (.iconst 5, 1) := by decide +kernel
theorem dX2_stepBehindPlus_43 : decode cX2_stepBehindPlus 43 = .ok (.invokevirtual 26, 3) := by decide +kernel
theorem dX2_stepBehindPlus_46 : decode cX2_stepBehindPlus 46 = .ok (.ireturn, 1) := by decide +kernel
theorem dX2_stepBehindPlus_47 : decode cX2_stepBehindPlus 47 = .ok (.iload_n 1, 1) := by decide +kernel
theorem dX2_stepBehindPlus_48 : decode cX2_stepBehindPlus 48 = .ok (.aload_n 0, 1) := by decide +kernel
theorem dX2_stepBehindPlus_49 : decode cX2_stepBehindPlus 49 = .ok (.getfield 12, 3) := by decide +kernel
theorem dX2_stepBehindPlus_52 : decode cX2_stepBehindPlus 52 = .ok (.aload_n 0, 1) := by decide +kernel
theorem dX2_stepBehindPlus_53 : decode cX2_stepBehindPlus 53 = .ok (.invokevirtual 61, 3) := by decide +kernel
theorem dX2_stepBehindPlus_56 : decode cX2_stepBehindPlus 56 = .ok (.aload_n 0, 1) := by decide +kernel
theorem dX2_stepBehindPlus_57 : decode cX2_stepBehindPlus 57 = .ok (.getfield 58, 3) := by decide +kernel
theorem dX2_stepBehindPlus_60 : decode cX2_stepBehindPlus 60 = .ok (.invokevirtual 102, 3) := by decide +kernel
theorem dX2_stepBehindPlus_63 : decode cX2_stepBehindPlus 63 = .ok (.if_icmp .eq 5, 3) := by decide +kernel
theorem dX2_stepBehindPlus_66 : decode cX2_stepBehindPlus 66 = .ok (.iconst 2, 1) := by decide +kernel
theorem dX2_stepBehindPlus_67 : decode cX2_stepBehindPlus 67 = .ok (.ireturn, 1) := by decide +kernel
theorem dX2_stepBehindPlus_68 : decode cX2_stepBehindPlus 68 = .ok (.aload_n 0, 1) := by decide +kernel
theorem dX2_stepBehindPlus_69 : decode cX2_stepBehindPlus 69 = .ok (.dup, 1) := by decide +kernel
theorem dX2_stepBehindPlus_70 : decode cX2_stepBehindPlus 70 = .ok (.getfield 58, 3) := by decide +kernel
theorem dX2_stepBehindPlus_73 : decode cX2_stepBehindPlus 73 = .ok (.iconst 1, 1) := by decide +kernel
theorem dX2_stepBehindPlus_74 : decode cX2_stepBehindPlus 74 = .ok (.iadd, 1) := by decide +kernel
theorem dX2_stepBehindPlus_75 : decode cX2_stepBehindPlus 75 = .ok (.putfield 58, 3) := by decide +kernel
theorem dX2_stepBehindPlus_78 : decode cX2_stepBehindPlus 78 = .ok (.iconst 0, 1) := by decide +kernel
theorem dX2_stepBehindPlus_79 : decode cX2_stepBehindPlus 79 = .ok (.ireturn, 1) := by decide +kernel
theorem dX2_stepQualities_0 : decode cX2_stepQualities 0 = .ok (.aload_n 0, 1) := by decide +kernel
theorem dX2_stepQualities_1 : decode cX2_stepQualities 1 = .ok (.getfield 58, 3) := by decide +kernel
theorem dX2_stepQualities_4 : decode cX2_stepQualities 4 = .ok (.aload_n 0, 1) := by decide +kernel
theorem dX2_stepQualities_5 : decode cX2_stepQualities 5 = .ok (.getfield 12, 3) := by decide +kernel
theorem dX2_stepQualities_8 : decode cX2_stepQualities 8 = .ok (.aload_n 0, 1) := by decide +kernel
theorem dX2_stepQualities_9 : decode cX2_stepQualities 9 = .ok (.invokevirtual 61, 3) := by decide +kernel
theorem dX2_stepQualities_12 : decode cX2_stepQualities 12 = .ok (.invokevirtual 64, 3) := by decide +kernel
theorem dX2_stepQualities_15 : decode cX2_stepQualities 15 = .ok (.if_icmp .lt 19, 3) := by decide +kernel
theorem dX2_stepQualities_18 : decode cX2_stepQualities 18 = .ok (.iload_n 1, 1) := by decide +kernel
theorem dX2_stepQualities_19 : decode cX2_stepQualities 19 = .ok (.bipush 10, 2) := by decide +kernel
theorem dX2_stepQualities_21 : decode cX2_stepQualities 21 = .ok (.if_icmp .ne 11, 3) := by decide +kernel
theorem dX2_stepQualities_24 : decode cX2_stepQualities 24 = .ok (.aload_n 0, 1) := by decide +kernel
theorem dX2_stepQualities_25 : decode cX2_stepQualities 25 = .ok (.iconst 0, 1) := by decide +kernel
theorem dX2_stepQualities_26 : decode cX2_stepQualities 26 = .ok (.invokevirtual 26, 3) := by decide +kernel
theorem dX2_stepQualities_29 : decode cX2_stepQualities 29 = .ok (.goto 4, 3) := by decide +kernel
theorem dX2_stepQualities_32 : decode cX2_stepQualities 32 = .ok (.iconst 2, 1) := by decide +kernel
theorem dX2_stepQualities_33 : decode cX2_stepQualities 33 = .ok (.ireturn, 1) := by decide +kernel
theorem dX2_stepQualities_34 : decode cX2_stepQualities 34 = .ok (.iload_n 1, 1) := by decide +kernel
theorem dX2_stepQualities_35 : decode cX2_stepQualities 35 = .ok (.invokestatic 88, 3) := by decide +kernel
theorem dX2_stepQualities_38 : decode cX2_stepQualities 38 = .ok (.ifCond .ne 5, 3) := by decide +kernel
theorem dX2_stepQualities_41 : decode cX2_stepQualities 41 = .ok (.iconst 2, 1) := by decide +kernel
theorem dX2_stepQualities_42 : decode cX2_stepQualities 42 = .ok (.ireturn, 1) := by decide +kernel
theorem dX2_stepQualities_43 : decode cX2_stepQualities 43 = .ok (.aload_n 0, 1) := by decide +kernel
theorem dX2_stepQualities_44 : decode cX2_stepQualities 44 = .ok (.getfield 12, 3) := by decide +kernel
theorem dX2_stepQualities_47 : decode cX2_stepQualities 47 = .ok (.iload_n 1, 1) := by decide +kernel
theorem dX2_stepQualities_48 : decode cX2_stepQualities 48 = .ok (.invokevirtual 106, 3) := by decide +kernel
theorem dX2_stepQualities_51 : decode cX2_stepQualities 51 = .ok (.aload_n 0, 1) := by decide +kernel
theorem dX2_stepQualities_52 : decode cX2_stepQualities 52 = .ok (.dup, 1) := by decide +kernel
theorem dX2_stepQualities_53 : decode cX2_stepQualities 53 = .ok (.getfield 58, 3) := by decide +kernel
theorem dX2_stepQualities_56 : decode cX2_stepQualities 56 = .ok (.iconst 1, 1) := by decide +kernel
theorem dX2_stepQualities_57 : decode cX2_stepQualities 57 = .ok (.iadd, 1) := by decide +kernel
theorem dX2_stepQualities_58 : decode cX2_stepQualities 58 = .ok (.putfield 58, 3) := by decide +kernel
theorem dX2_stepQualities_61 : decode cX2_stepQualities 61 = .ok (.iconst 0, 1) := by decide +kernel
theorem dX2_stepQualities_62 : decode cX2_stepQualities 62 = .ok (.ireturn, 1) := by decide +kernel
theorem dX3_init_0 : decode cX3_init 0 = .ok (.aload_n 0, 1) := by decide +kernel
theorem dX3_init_1 : decode cX3_init 1 = .ok (.invokespecial 3, 3) := by decide +kernel
theorem dX3_init_4 : decode cX3_init 4 = .ok (.aload_n 0, 1) := by decide +kernel
theorem dX3_init_5 : decode cX3_init 5 = .ok (.new 9, 3) := by decide +kernel
theorem dX3_init_8 : decode cX3_init 8 = .ok (.dup, 1) := by decide +kernel
theorem dX3_init_9 : decode cX3_init 9 = .ok (.sipush 6000, 3) := by decide +kernel
theorem dX3_init_12 : decode cX3_init 12 = .ok (.invokespecial 11, 3) := by decide +kernel
theorem dX3_init_15 : decode cX3_init 15 = .ok (.putfield 14, 3) := by decide +kernel
theorem dX3_init_18 : decode cX3_init 18 = .ok (.aload_n 0, 1) := by decide +kernel
theorem dX3_init_19 : decode cX3_init 19 = .ok (.bipush 60, 2) := by decide +kernel
theorem dX3_init_21 : decode cX3_init 21 = .ok (.newarray .int, 2) := by decide +kernel
theorem dX3_init_23 : decode cX3_init 23 = .ok (.putfield 20, 3) := by decide +kernel
theorem dX3_init_26 : decode cX3_init 26 = .ok (.aload_n 0, 1) := by decide +kernel
theorem dX3_init_27 : decode cX3_init 27 = .ok (.bipush 60, 2) := by decide +kernel
theorem dX3_init_29 : decode cX3_init 29 = .ok (.newarray .int, 2) := by decide +kernel
theorem dX3_init_31 : decode cX3_init 31 = .ok (.putfield 24, 3) := by decide +kernel
theorem dX3_init_34 : decode cX3_init 34 = .ok (.aload_n 0, 1) := by decide +kernel
theorem dX3_init_35 : decode cX3_init 35 = .ok (.bipush 60, 2) := by decide +kernel
theorem dX3_init_37 : decode cX3_init 37 = .ok (.newarray .int, 2) := by decide +kernel
theorem dX3_init_39 : decode cX3_init 39 = .ok (.putfield 27, 3) := by decide +kernel
theorem dX3_init_42 : decode cX3_init 42 = .ok (.return_, 1) := by decide +kernel
theorem dX3_restart_0 : decode cX3_restart 0 = .ok (.aload_n 0, 1) := by decide +kernel
theorem dX3_restart_1 : decode cX3_restart 1 = .ok (.getfield 14, 3) := by decide +kernel
theorem dX3_restart_4 : decode cX3_restart 4 = .ok (.invokevirtual 30, 3) := by decide +kernel
theorem dX3_restart_7 : decode cX3_restart 7 = .ok (.aload_n 0, 1) := by decide +kernel
theorem dX3_restart_8 : decode cX3_restart 8 = .ok (.iconst 0, 1) := by decide +kernel
theorem dX3_restart_9 : decode cX3_restart 9 = .ok (.putfield 33, 3) := by decide +kernel
theorem dX3_restart_12 : decode cX3_restart 12 = .ok (.aload_n 0, 1) := by decide +kernel
theorem dX3_restart_13 : decode cX3_restart 13 = .ok (.iload_n 1, 1) := by decide +kernel
theorem dX3_restart_14 : decode cX3_restart 14 = .ok (.putfield 37, 3) := by decide +kernel
theorem dX3_restart_17 : decode cX3_restart 17 = .ok (.return_, 1) := by decide +kernel
theorem dX3_begin_0 : decode cX3_begin 0 = .ok (.aload_n 0, 1) := by decide +kernel
theorem dX3_begin_1 : decode cX3_begin 1 = .ok (.getfield 33, 3) := by decide +kernel
theorem dX3_begin_4 : decode cX3_begin 4 = .ok (.ifCond .lt 58, 3) := by decide +kernel
theorem dX3_begin_7 : decode cX3_begin 7 = .ok (.aload_n 0, 1) := by decide +kernel
theorem dX3_begin_8 : decode cX3_begin 8 = .ok (.getfield 33, 3) := by decide +kernel
theorem dX3_begin_11 : decode cX3_begin 11 = .ok (.bipush 60, 2) := by decide +kernel
theorem dX3_begin_13 : decode cX3_begin 13 = .ok (.if_icmp .ge 49, 3) := by decide +kernel
theorem dX3_begin_16 : decode cX3_begin 16 = .ok (.aload_n 0, 1) := by decide +kernel
theorem dX3_begin_17 : decode cX3_begin 17 = .ok (.getfield 20, 3) := by decide +kernel
theorem dX3_begin_20 : decode cX3_begin 20 = .ok (.aload_n 0, 1) := by decide +kernel
theorem dX3_begin_21 : decode cX3_begin 21 = .ok (.getfield 33, 3) := by decide +kernel
theorem dX3_begin_24 : decode cX3_begin 24 = .ok (.aload_n 0, 1) := by decide +kernel
theorem dX3_begin_25 : decode cX3_begin 25 = .ok (.getfield 14, 3) := by decide +kernel
theorem dX3_begin_28 : decode cX3_begin 28 = .ok (.invokevirtual 41, 3) := by decide +kernel
theorem dX3_begin_31 : decode cX3_begin 31 = .ok (.iastore, 1) := by decide +kernel
theorem dX3_begin_32 : decode cX3_begin 32 = .ok (.aload_n 0, 1) := by decide +kernel
theorem dX3_begin_33 : decode cX3_begin 33 = .ok (.getfield 24, 3) := by decide +kernel
theorem dX3_begin_36 : decode cX3_begin 36 = .ok (.aload_n 0, 1) := by decide +kernel
theorem dX3_begin_37 : decode cX3_begin 37 = .ok (.getfield 33, 3) := by decide +kernel
theorem dX3_begin_40 : decode cX3_begin 40 = .ok (.iconst 0, 1) := by decide +kernel
theorem dX3_begin_41 : decode cX3_begin 41 = .ok (.iastore, 1) := by decide +kernel
theorem dX3_begin_42 : decode cX3_begin 42 = .ok (.aload_n 0, 1) := by decide +kernel
theorem dX3_begin_43 : decode cX3_begin 43 = .ok (.getfield 27, 3) := by decide +kernel
theorem dX3_begin_46 : decode cX3_begin 46 = .ok (.aload_n 0, 1) := by decide +kernel
theorem dX3_begin_47 : decode cX3_begin 47 = .ok (.getfield 33, 3) := by decide +kernel
theorem dX3_begin_50 : decode cX3_begin 50 = .ok (.iconst 0, 1) := by decide +kernel
theorem dX3_begin_51 : decode cX3_begin 51 = .ok (.iastore, 1) := by decide +kernel
theorem dX3_begin_52 : decode cX3_begin 52 = .ok (.aload_n 0, 1) := by decide +kernel
theorem dX3_begin_53 : decode cX3_begin 53 = .ok (.dup, 1) := by decide +kernel
theorem dX3_begin_54 : decode cX3_begin 54 = .ok (.getfield 33, 3) := by decide +kernel
theorem dX3_begin_57 : decode cX3_begin 57 = .ok (.iconst 1, 1) := by decide +kernel
theorem dX3_begin_58 : decode cX3_begin 58 = .ok (.iadd, 1) := by decide +kernel
theorem dX3_begin_59 : decode cX3_begin 59 = .ok (.putfield 33, 3) := by decide +kernel
theorem dX3_begin_62 : decode cX3_begin 62 = .ok (.return_, 1) := by decide +kernel
theorem dX3_addToName_0 : decode cX3_addToName 0 = .ok (.aload_n 0, 1) := by decide +kernel
theorem dX3_addToName_1 : decode cX3_addToName 1 = .ok (.aload_n 0, 1) := by decide +kernel
theorem dX3_addToName_2 : decode cX3_addToName 2 = .ok (.getfield 33, 3) := by decide +kernel
theorem dX3_addToName_5 : decode cX3_addToName 5 = .ok (.iconst 1, 1) := by decide +kernel
theorem dX3_addToName_6 : decode cX3_addToName 6 = .ok (.isub, 1) := by decide +kernel
theorem dX3_addToName_7 : decode cX3_addToName 7 = .ok (.invokevirtual 45, 3) := by decide +kernel
theorem dX3_addToName_10 : decode cX3_addToName 10 = .ok (.ifCond .eq 26, 3) := by decide +kernel
theorem dX3_addToName_13 : decode cX3_addToName 13 = .ok (.aload_n 0, 1) := by decide +kernel
theorem dX3_addToName_14 : decode cX3_addToName 14 = .ok (.getfield 14, 3) := by decide +kernel
theorem dX3_addToName_17 : decode cX3_addToName 17 = .ok (.iload_n 1, 1) := by decide +kernel
theorem dX3_addToName_18 : decode cX3_addToName 18 = .ok (.invokevirtual 49, 3) := by decide +kernel
theorem dX3_addToName_21 : decode cX3_addToName 21 = .ok (.aload_n 0, 1) := by decide +kernel
theorem dX3_addToName_22 : decode cX3_addToName 22 = .ok (.getfield 24, 3) := by decide +kernel
theorem dX3_addToName_25 : decode cX3_addToName 25 = .ok (.aload_n 0, 1) := by decide +kernel
theorem dX3_addToName_26 : decode cX3_addToName 26 = .ok (.getfield 33, 3) := by decide +kernel
theorem dX3_addToName_29 : decode cX3_addToName 29 = .ok (.iconst 1, 1) := by decide +kernel
theorem dX3_addToName_30 : decode cX3_addToName 30 = .ok (.isub, 1) := by decide +kernel
theorem dX3_addToName_31 : decode cX3_addToName 31 = .ok (.dup2, 1) := by decide +kernel
theorem dX3_addToName_32 : decode cX3_addToName 32 = .ok (.iaload, 1) := by decide +kernel
theorem dX3_addToName_33 : decode cX3_addToName 33 = .ok (.iconst 1, 1) := by decide +kernel
theorem dX3_addToName_34 : decode cX3_addToName 34 = .ok (.iadd, 1) := by decide +kernel
theorem dX3_addToName_35 : decode cX3_addToName 35 = .ok (.iastore, 1) := by decide +kernel
theorem dX3_addToName_36 : decode cX3_addToName 36 = .ok (.return_, 1) := by decide +kernel
theorem dX3_addLetter_0 : decode cX3_addLetter 0 = .ok (.aload_n 0, 1) := by decide +kernel
theorem dX3_addLetter_1 : decode cX3_addLetter 1 = .ok (.aload_n 0, 1) := by decide +kernel
theorem dX3_addLetter_2 : decode cX3_addLetter 2 = .ok (.getfield 33, 3) := by decide +kernel
theorem dX3_addLetter_5 : decode cX3_addLetter 5 = .ok (.iconst 1, 1) := by decide +kernel
theorem dX3_addLetter_6 : decode cX3_addLetter 6 = .ok (.isub, 1) := by decide +kernel
theorem dX3_addLetter_7 : decode cX3_addLetter 7 = .ok (.invokevirtual 45, 3) := by decide +kernel
theorem dX3_addLetter_10 : decode cX3_addLetter 10 = .ok (.ifCond .eq 26, 3) := by decide +kernel
theorem dX3_addLetter_13 : decode cX3_addLetter 13 = .ok (.aload_n 0, 1) := by decide +kernel
theorem dX3_addLetter_14 : decode cX3_addLetter 14 = .ok (.getfield 14, 3) := by decide +kernel
theorem dX3_addLetter_17 : decode cX3_addLetter 17 = .ok (.iload_n 1, 1) := by decide +kernel
theorem dX3_addLetter_18 : decode cX3_addLetter 18 = .ok (.invokevirtual 49, 3) := by decide +kernel
theorem dX3_addLetter_21 : decode cX3_addLetter 21 = .ok (.aload_n 0, 1) := by decide +kernel
theorem dX3_addLetter_22 : decode cX3_addLetter 22 = .ok (.getfield 27, 3) := by decide +kernel
theorem dX3_addLetter_25 : decode cX3_addLetter 25 = .ok (.aload_n 0, 1) := by decide +kernel
theorem dX3_addLetter_26 : decode cX3_addLetter 26 = .ok (.getfield 33, 3) := by decide +kernel
theorem dX3_addLetter_29 : decode cX3_addLetter 29 = .ok (.iconst 1, 1) := by decide +kernel
theorem dX3_addLetter_30 : decode cX3_addLetter 30 = .ok (.isub, 1) := by decide +kernel
theorem dX3_addLetter_31 : decode cX3_addLetter 31 = .ok (.dup2, 1) := by decide +kernel
theorem dX3_addLetter_32 : decode cX3_addLetter 32 = .ok (.iaload, 1) := by decide +kernel
theorem dX3_addLetter_33 : decode cX3_addLetter 33 = .ok (.iconst 1, 1) := by decide +kernel
theorem dX3_addLetter_34 : decode cX3_addLetter 34 = .ok (.iadd, 1) := by decide +kernel
theorem dX3_addLetter_35 : decode cX3_addLetter 35 = .ok (.iastore, 1) := by decide +kernel
theorem dX3_addLetter_36 : decode cX3_addLetter 36 = .ok (.return_, 1) := by decide +kernel
theorem dX3_addQuality_0 : decode cX3_addQuality 0 = .ok (.aload_n 0, 1) := by decide +kernel
theorem dX3_addQuality_1 : decode cX3_addQuality 1 = .ok (.getfield 14, 3) := by decide +kernel
theorem dX3_addQuality_4 : decode cX3_addQuality 4 = .ok (.iload_n 1, 1) := by decide +kernel
theorem dX3_addQuality_5 : decode cX3_addQuality 5 = .ok (.invokevirtual 49, 3) := by decide +kernel
theorem dX3_addQuality_8 : decode cX3_addQuality 8 = .ok (.return_, 1) := by decide +kernel
theorem dX3_count_0 : decode cX3_count 0 = .ok (.aload_n 0, 1) := by decide +kernel
theorem dX3_count_1 : decode cX3_count 1 = .ok (.getfield 33, 3) := by decide +kernel
theorem dX3_count_4 : decode cX3_count 4 = .ok (.ireturn, 1) := by decide +kernel
theorem dX3_has_0 : decode cX3_has 0 = .ok (.iload_n 1, 1) := by decide +kernel
theorem dX3_has_1 : decode cX3_has 1 = .ok (.ifCond .lt 21, 3) := by decide +kernel
theorem dX3_has_4 : decode cX3_has 4 = .ok (.iload_n 1, 1) := by decide +kernel
theorem dX3_has_5 : decode cX3_has 5 = .ok (.aload_n 0, 1) := by decide +kernel
theorem dX3_has_6 : decode cX3_has 6 = .ok (.getfield 33, 3) := by decide +kernel
theorem dX3_has_9 : decode cX3_has 9 = .ok (.if_icmp .ge 13, 3) := by decide +kernel
theorem dX3_has_12 : decode cX3_has 12 = .ok (.iload_n 1, 1) := by decide +kernel
theorem dX3_has_13 : decode cX3_has 13 = .ok (.bipush 60, 2) := by decide +kernel
theorem dX3_has_15 : decode cX3_has 15 = .ok (.if_icmp .ge 7, 3) := by decide +kernel
theorem dX3_has_18 : decode cX3_has 18 = .ok (.iconst 1, 1) := by decide +kernel
theorem dX3_has_19 : decode cX3_has 19 = .ok (.goto 4, 3) := by decide +kernel
theorem dX3_has_22 : decode cX3_has 22 = .ok (.iconst 0, 1) := by decide +kernel
theorem dX3_has_23 : decode cX3_has 23 = .ok (.ireturn, 1) := by decide +kernel
theorem dX3_nameSize_0 : decode cX3_nameSize 0 = .ok (.aload_n 0, 1) := by decide +kernel
theorem dX3_nameSize_1 : decode cX3_nameSize 1 = .ok (.iload_n 1, 1) := by decide +kernel
theorem dX3_nameSize_2 : decode cX3_nameSize 2 = .ok (.invokevirtual 45, 3) := by decide +kernel
theorem dX3_nameSize_5 : decode cX3_nameSize 5 = .ok (.ifCond .eq 12, 3) := by decide +kernel
theorem dX3_nameSize_8 : decode cX3_nameSize 8 = .ok (.aload_n 0, 1) := by decide +kernel
theorem dX3_nameSize_9 : decode cX3_nameSize 9 = .ok (.getfield 24, 3) := by decide +kernel
theorem dX3_nameSize_12 : decode cX3_nameSize 12 = .ok (.iload_n 1, 1) := by decide +kernel
theorem dX3_nameSize_13 : decode cX3_nameSize 13 = .ok (.iaload, 1) := by decide +kernel
theorem dX3_nameSize_14 : decode cX3_nameSize 14 = .ok (.goto 4, 3) := by decide +kernel
theorem dX3_nameSize_17 : decode cX3_nameSize 17 = .ok (.iconst 0, 1) := by decide +kernel
theorem dX3_nameSize_18 : decode cX3_nameSize 18 = .ok (.ireturn, 1) := by decide +kernel
theorem dX3_letterCount_0 : decode cX3_letterCount 0 = .ok (.aload_n 0, 1) := by decide +kernel
theorem dX3_letterCount_1 : decode cX3_letterCount 1 = .ok (.iload_n 1, 1) := by decide +kernel
theorem dX3_letterCount_2 : decode cX3_letterCount 2 = .ok (.invokevirtual 45, 3) := by decide +kernel
theorem dX3_letterCount_5 : decode cX3_letterCount 5 = .ok (.ifCond .eq 12, 3) := by decide +kernel
theorem dX3_letterCount_8 : decode cX3_letterCount 8 = .ok (.aload_n 0, 1) := by decide +kernel
theorem dX3_letterCount_9 : decode cX3_letterCount 9 = .ok (.getfield 27, 3) := by decide +kernel
theorem dX3_letterCount_12 : decode cX3_letterCount 12 = .ok (.iload_n 1, 1) := by decide +kernel
theorem dX3_letterCount_13 : decode cX3_letterCount 13 = .ok (.iaload, 1) := by decide +kernel
theorem dX3_letterCount_14 : decode cX3_letterCount 14 = .ok (.goto 4, 3) := by decide +kernel
theorem dX3_letterCount_17 : decode cX3_letterCount 17 = .ok (.iconst 0, 1) := by decide +kernel
theorem dX3_letterCount_18 : decode cX3_letterCount 18 = .ok (.ireturn, 1) := by decide +kernel
theorem dX3_nameOctet_0 : decode cX3_nameOctet 0 = .ok (.aload_n 0, 1) := by decide +kernel
theorem dX3_nameOctet_1 : decode cX3_nameOctet 1 = .ok (.iload_n 1, 1) := by decide +kernel
theorem dX3_nameOctet_2 : decode cX3_nameOctet 2 = .ok (.invokevirtual 45, 3) := by decide +kernel
theorem dX3_nameOctet_5 : decode cX3_nameOctet 5 = .ok (.ifCond .eq 35, 3) := by decide +kernel
theorem dX3_nameOctet_8 : decode cX3_nameOctet 8 = .ok (.iload_n 2, 1) := by decide +kernel
theorem dX3_nameOctet_9 : decode cX3_nameOctet 9 = .ok (.ifCond .lt 31, 3) := by decide +kernel
theorem dX3_nameOctet_12 : decode cX3_nameOctet 12 = .ok (.iload_n 2, 1) := by decide +kernel
theorem dX3_nameOctet_13 : decode cX3_nameOctet 13 = .ok (.aload_n 0, 1) := by decide +kernel
theorem dX3_nameOctet_14 : decode cX3_nameOctet 14 = .ok (.getfield 24, 3) := by decide +kernel
theorem dX3_nameOctet_17 : decode cX3_nameOctet 17 = .ok (.iload_n 1, 1) := by decide +kernel
theorem dX3_nameOctet_18 : decode cX3_nameOctet 18 = .ok (.iaload, 1) := by decide +kernel
theorem dX3_nameOctet_19 : decode cX3_nameOctet 19 = .ok (.if_icmp .ge 21, 3) := by decide +kernel
theorem dX3_nameOctet_22 : decode cX3_nameOctet 22 = .ok (.aload_n 0, 1) := by decide +kernel
theorem dX3_nameOctet_23 : decode cX3_nameOctet 23 = .ok (.getfield 14, 3) := by decide +kernel
theorem dX3_nameOctet_26 : decode cX3_nameOctet 26 = .ok (.aload_n 0, 1) := by decide +kernel
theorem dX3_nameOctet_27 : decode cX3_nameOctet 27 = .ok (.getfield 20, 3) := by decide +kernel
theorem dX3_nameOctet_30 : decode cX3_nameOctet 30 = .ok (.iload_n 1, 1) := by decide +kernel
theorem dX3_nameOctet_31 : decode cX3_nameOctet 31 = .ok (.iaload, 1) := by decide +kernel
theorem dX3_nameOctet_32 : decode cX3_nameOctet 32 = .ok (.iload_n 2, 1) := by decide +kernel
theorem dX3_nameOctet_33 : decode cX3_nameOctet 33 = .ok (.iadd, 1) := by decide +kernel
theorem dX3_nameOctet_34 : decode cX3_nameOctet 34 = .ok (.invokevirtual 52, 3) := by decide +kernel
theorem dX3_nameOctet_37 : decode cX3_nameOctet 37 = .ok (.goto 4, 3) := by decide +kernel
theorem dX3_nameOctet_40 : decode cX3_nameOctet 40 = .ok (.iconst (-1), 1) := by decide +kernel
theorem dX3_nameOctet_41 : decode cX3_nameOctet 41 = .ok (.ireturn, 1) := by decide +kernel
theorem dX3_letterOctet_0 : decode cX3_letterOctet 0 = .ok (.aload_n 0, 1) := by decide +kernel
theorem dX3_letterOctet_1 : decode cX3_letterOctet 1 = .ok (.iload_n 1, 1) := by decide +kernel
theorem dX3_letterOctet_2 : decode cX3_letterOctet 2 = .ok (.iload_n 2, 1) := by decide +kernel
theorem dX3_letterOctet_3 : decode cX3_letterOctet 3 = .ok (.invokevirtual 56, 3) := by decide +kernel
theorem dX3_letterOctet_6 : decode cX3_letterOctet 6 = .ok (.ifCond .eq 28, 3) := by decide +kernel
theorem dX3_letterOctet_9 : decode cX3_letterOctet 9 = .ok (.aload_n 0, 1) := by decide +kernel
theorem dX3_letterOctet_10 : decode cX3_letterOctet 10 = .ok (.getfield 14, 3) := by decide +kernel
theorem dX3_letterOctet_13 : decode cX3_letterOctet 13 = .ok (.aload_n 0, 1) := by decide +kernel
theorem dX3_letterOctet_14 : decode cX3_letterOctet 14 = .ok (.getfield 20, 3) := by decide +kernel
theorem dX3_letterOctet_17 : decode cX3_letterOctet 17 = .ok (.iload_n 1, 1) := by decide +kernel
theorem dX3_letterOctet_18 : decode cX3_letterOctet 18 = .ok (.iaload, 1) := by decide +kernel
theorem dX3_letterOctet_19 : decode cX3_letterOctet 19 = .ok (.aload_n 0, 1) := by decide +kernel
theorem dX3_letterOctet_20 : decode cX3_letterOctet 20 = .ok (.getfield 24, 3) := by decide +kernel
theorem dX3_letterOctet_23 : decode cX3_letterOctet 23 = .ok (.iload_n 1, 1) := by decide +kernel
theorem dX3_letterOctet_24 : decode cX3_letterOctet 24 = .ok (.iaload, 1) := by decide +kernel
theorem dX3_letterOctet_25 : decode cX3_letterOctet 25 = .ok (.iadd, 1) := by decide +kernel
theorem dX3_letterOctet_26 : decode cX3_letterOctet 26 = .ok (.iload_n 2, 1) := by decide +kernel
theorem dX3_letterOctet_27 : decode cX3_letterOctet 27 = .ok (.iadd, 1) := by decide +kernel
theorem dX3_letterOctet_28 : decode cX3_letterOctet 28 = .ok (.invokevirtual 52, 3) := by decide +kernel
theorem dX3_letterOctet_31 : decode cX3_letterOctet 31 = .ok (.goto 4, 3) := by decide +kernel
theorem dX3_letterOctet_34 : decode cX3_letterOctet 34 = .ok (.iconst (-1), 1) := by decide +kernel
theorem dX3_letterOctet_35 : decode cX3_letterOctet 35 = .ok (.ireturn, 1) := by decide +kernel
theorem dX3_quality_0 : decode cX3_quality 0 = .ok (.aload_n 0, 1) := by decide +kernel
theorem dX3_quality_1 : decode cX3_quality 1 = .ok (.iload_n 1, 1) := by decide +kernel
theorem dX3_quality_2 : decode cX3_quality 2 = .ok (.iload_n 2, 1) := by decide +kernel
theorem dX3_quality_3 : decode cX3_quality 3 = .ok (.invokevirtual 56, 3) := by decide +kernel
theorem dX3_quality_6 : decode cX3_quality 6 = .ok (.ifCond .ne 5, 3) := by decide +kernel
theorem dX3_quality_9 : decode cX3_quality 9 = .ok (.iconst (-1), 1) := by decide +kernel
theorem dX3_quality_10 : decode cX3_quality 10 = .ok (.ireturn, 1) := by decide +kernel
theorem dX3_quality_11 : decode cX3_quality 11 = .ok (.aload_n 0, 1) := by decide +kernel
theorem dX3_quality_12 : decode cX3_quality 12 = .ok (.getfield 37, 3) := by decide +kernel
theorem dX3_quality_15 : decode cX3_quality 15 = .ok (.ifCond .ne 6, 3) := by decide +kernel
theorem dX3_quality_18 : decode cX3_quality 18 = .ok (.bipush 40, 2) := by decide +kernel
theorem dX3_quality_20 : decode cX3_quality 20 = .ok (.ireturn, 1) := by decide +kernel
theorem dX3_quality_21 : decode cX3_quality 21 = .ok (.aload_n 0, 1) := by decide +kernel
theorem dX3_quality_22 : decode cX3_quality 22 = .ok (.getfield 14, 3) := by decide +kernel
theorem dX3_quality_25 : decode cX3_quality 25 = .ok (.aload_n 0, 1) := by decide +kernel
theorem dX3_quality_26 : decode cX3_quality 26 = .ok (.getfield 20, 3) := by decide +kernel
theorem dX3_quality_29 : decode cX3_quality 29 = .ok (.iload_n 1, 1) := by decide +kernel
theorem dX3_quality_30 : decode cX3_quality 30 = .ok (.iaload, 1) := by decide +kernel
theorem dX3_quality_31 : decode cX3_quality 31 = .ok (.aload_n 0, 1) := by decide +kernel
theorem dX3_quality_32 : decode cX3_quality 32 = .ok (.getfield 24, 3) := by decide +kernel
theorem dX3_quality_35 : decode cX3_quality 35 = .ok (.iload_n 1, 1) := by decide +kernel
theorem dX3_quality_36 : decode cX3_quality 36 = .ok (.iaload, 1) := by decide +kernel
theorem dX3_quality_37 : decode cX3_quality 37 = .ok (.iadd, 1) := by decide +kernel
theorem dX3_quality_38 : decode cX3_quality 38 = .ok (.aload_n 0, 1) := by decide +kernel
theorem dX3_quality_39 : decode cX3_quality 39 = .ok (.getfield 27, 3) := by decide +kernel
theorem dX3_quality_42 : decode cX3_quality 42 = .ok (.iload_n 1, 1) := by decide +kernel
theorem dX3_quality_43 : decode cX3_quality 43 = .ok (.iaload, 1) := by decide +kernel
theorem dX3_quality_44 : decode cX3_quality 44 = .ok (.iadd, 1) := by decide +kernel
theorem dX3_quality_45 : decode cX3_quality 45 = .ok (.iload_n 2, 1) := by decide +kernel
theorem dX3_quality_46 : decode cX3_quality 46 = .ok (.iadd, 1) := by decide +kernel
theorem dX3_quality_47 : decode cX3_quality 47 = .ok (.invokevirtual 52, 3) := by decide +kernel
theorem dX3_quality_50 : decode cX3_quality 50 = .ok (.bipush 33, 2) := by decide +kernel
theorem dX3_quality_52 : decode cX3_quality 52 = .ok (.isub, 1) := by decide +kernel
theorem dX3_quality_53 : decode cX3_quality 53 = .ok (.ireturn, 1) := by decide +kernel
theorem dX3_hasLetter_0 : decode cX3_hasLetter 0 = .ok (.iload_n 1, 1) := by decide +kernel
theorem dX3_hasLetter_1 : decode cX3_hasLetter 1 = .ok (.ifCond .lt 35, 3) := by decide +kernel
theorem dX3_hasLetter_4 : decode cX3_hasLetter 4 = .ok (.iload_n 1, 1) := by decide +kernel
theorem dX3_hasLetter_5 : decode cX3_hasLetter 5 = .ok (.aload_n 0, 1) := by decide +kernel
theorem dX3_hasLetter_6 : decode cX3_hasLetter 6 = .ok (.getfield 33, 3) := by decide +kernel
theorem dX3_hasLetter_9 : decode cX3_hasLetter 9 = .ok (.if_icmp .ge 27, 3) := by decide +kernel
theorem dX3_hasLetter_12 : decode cX3_hasLetter 12 = .ok (.iload_n 1, 1) := by decide +kernel
theorem dX3_hasLetter_13 : decode cX3_hasLetter 13 = .ok (.bipush 60, 2) := by decide +kernel
theorem dX3_hasLetter_15 : decode cX3_hasLetter 15 = .ok (.if_icmp .ge 21, 3) := by decide +kernel
theorem dX3_hasLetter_18 : decode cX3_hasLetter 18 = .ok (.iload_n 2, 1) := by decide +kernel
theorem dX3_hasLetter_19 : decode cX3_hasLetter 19 = .ok (.ifCond .lt 17, 3) := by decide +kernel
theorem dX3_hasLetter_22 : decode cX3_hasLetter 22 = .ok (.iload_n 2, 1) := by decide +kernel
theorem dX3_hasLetter_23 : decode cX3_hasLetter 23 = .ok (.aload_n 0, 1) := by decide +kernel
theorem dX3_hasLetter_24 : decode cX3_hasLetter 24 = .ok (.getfield 27, 3) := by decide +kernel
theorem dX3_hasLetter_27 : decode cX3_hasLetter 27 = .ok (.iload_n 1, 1) := by decide +kernel
theorem dX3_hasLetter_28 : decode cX3_hasLetter 28 = .ok (.iaload, 1) := by decide +kernel
theorem dX3_hasLetter_29 : decode cX3_hasLetter 29 = .ok (.if_icmp .ge 7, 3) := by decide +kernel
theorem dX3_hasLetter_32 : decode cX3_hasLetter 32 = .ok (.iconst 1, 1) := by decide +kernel
theorem dX3_hasLetter_33 : decode cX3_hasLetter 33 = .ok (.goto 4, 3) := by decide +kernel
theorem dX3_hasLetter_36 : decode cX3_hasLetter 36 = .ok (.iconst 0, 1) := by decide +kernel
theorem dX3_hasLetter_37 : decode cX3_hasLetter 37 = .ok (.ireturn, 1) := by decide +kernel
theorem dX4_init_0 : decode cX4_init 0 = .ok (.aload_n 0, 1) := by decide +kernel
theorem dX4_init_1 : decode cX4_init 1 = .ok (.invokespecial 3, 3) := by decide +kernel
theorem dX4_init_4 : decode cX4_init 4 = .ok (.aload_n 0, 1) := by decide +kernel
theorem dX4_init_5 : decode cX4_init 5 = .ok (.iload_n 1, 1) := by decide +kernel
theorem dX4_init_6 : decode cX4_init 6 = .ok (.iconst 0, 1) := by decide +kernel
theorem dX4_init_7 : decode cX4_init 7 = .ok (.invokestatic 9, 3) := by decide +kernel
theorem dX4_init_10 : decode cX4_init 10 = .ok (.newarray .int, 2) := by decide +kernel
theorem dX4_init_12 : decode cX4_init 12 = .ok (.putfield 15, 3) := by decide +kernel
theorem dX4_init_15 : decode cX4_init 15 = .ok (.return_, 1) := by decide +kernel
theorem dX4_size_0 : decode cX4_size 0 = .ok (.aload_n 0, 1) := by decide +kernel
theorem dX4_size_1 : decode cX4_size 1 = .ok (.getfield 21, 3) := by decide +kernel
theorem dX4_size_4 : decode cX4_size 4 = .ok (.ireturn, 1) := by decide +kernel
theorem dX4_room_0 : decode cX4_room 0 = .ok (.aload_n 0, 1) := by decide +kernel
theorem dX4_room_1 : decode cX4_room 1 = .ok (.getfield 15, 3) := by decide +kernel
theorem dX4_room_4 : decode cX4_room 4 = .ok (.arraylength, 1) := by decide +kernel
theorem dX4_room_5 : decode cX4_room 5 = .ok (.aload_n 0, 1) := by decide +kernel
theorem dX4_room_6 : decode cX4_room 6 = .ok (.getfield 21, 3) := by decide +kernel
theorem dX4_room_9 : decode cX4_room 9 = .ok (.isub, 1) := by decide +kernel
theorem dX4_room_10 : decode cX4_room 10 = .ok (.ireturn, 1) := by decide +kernel
theorem dX4_at_0 : decode cX4_at 0 = .ok (.iload_n 1, 1) := by decide +kernel
theorem dX4_at_1 : decode cX4_at 1 = .ok (.ifCond .lt 29, 3) := by decide +kernel
theorem dX4_at_4 : decode cX4_at 4 = .ok (.iload_n 1, 1) := by decide +kernel
theorem dX4_at_5 : decode cX4_at 5 = .ok (.aload_n 0, 1) := by decide +kernel
theorem dX4_at_6 : decode cX4_at 6 = .ok (.getfield 21, 3) := by decide +kernel
theorem dX4_at_9 : decode cX4_at 9 = .ok (.if_icmp .ge 21, 3) := by decide +kernel
theorem dX4_at_12 : decode cX4_at 12 = .ok (.iload_n 1, 1) := by decide +kernel
theorem dX4_at_13 : decode cX4_at 13 = .ok (.aload_n 0, 1) := by decide +kernel
theorem dX4_at_14 : decode cX4_at 14 = .ok (.getfield 15, 3) := by decide +kernel
theorem dX4_at_17 : decode cX4_at 17 = .ok (.arraylength, 1) := by decide +kernel
theorem dX4_at_18 : decode cX4_at 18 = .ok (.if_icmp .ge 12, 3) := by decide +kernel
theorem dX4_at_21 : decode cX4_at 21 = .ok (.aload_n 0, 1) := by decide +kernel
theorem dX4_at_22 : decode cX4_at 22 = .ok (.getfield 15, 3) := by decide +kernel
theorem dX4_at_25 : decode cX4_at 25 = .ok (.iload_n 1, 1) := by decide +kernel
theorem dX4_at_26 : decode cX4_at 26 = .ok (.iaload, 1) := by decide +kernel
theorem dX4_at_27 : decode cX4_at 27 = .ok (.goto 4, 3) := by decide +kernel
theorem dX4_at_30 : decode cX4_at 30 = .ok (.iconst (-1), 1) := by decide +kernel
theorem dX4_at_31 : decode cX4_at 31 = .ok (.ireturn, 1) := by decide +kernel
theorem dX4_add_0 : decode cX4_add 0 = .ok (.aload_n 0, 1) := by decide +kernel
theorem dX4_add_1 : decode cX4_add 1 = .ok (.getfield 21, 3) := by decide +kernel
theorem dX4_add_4 : decode cX4_add 4 = .ok (.ifCond .lt 35, 3) := by decide +kernel
theorem dX4_add_7 : decode cX4_add 7 = .ok (.aload_n 0, 1) := by decide +kernel
theorem dX4_add_8 : decode cX4_add 8 = .ok (.getfield 21, 3) := by decide +kernel
theorem dX4_add_11 : decode cX4_add 11 = .ok (.aload_n 0, 1) := by decide +kernel
theorem dX4_add_12 : decode cX4_add 12 = .ok (.getfield 15, 3) := by decide +kernel
theorem dX4_add_15 : decode cX4_add 15 = .ok (.arraylength, 1) := by decide +kernel
theorem dX4_add_16 : decode cX4_add 16 = .ok (.if_icmp .ge 23, 3) := by decide +kernel
theorem dX4_add_19 : decode cX4_add 19 = .ok (.aload_n 0, 1) := by decide +kernel
theorem dX4_add_20 : decode cX4_add 20 = .ok (.getfield 15, 3) := by decide +kernel
theorem dX4_add_23 : decode cX4_add 23 = .ok (.aload_n 0, 1) := by decide +kernel
theorem dX4_add_24 : decode cX4_add 24 = .ok (.getfield 21, 3) := by decide +kernel
theorem dX4_add_27 : decode cX4_add 27 = .ok (.iload_n 1, 1) := by decide +kernel
theorem dX4_add_28 : decode cX4_add 28 = .ok (.iastore, 1) := by decide +kernel
theorem dX4_add_29 : decode cX4_add 29 = .ok (.aload_n 0, 1) := by decide +kernel
theorem dX4_add_30 : decode cX4_add 30 = .ok (.dup, 1) := by decide +kernel
theorem dX4_add_31 : decode cX4_add 31 = .ok (.getfield 21, 3) := by decide +kernel
theorem dX4_add_34 : decode cX4_add 34 = .ok (.iconst 1, 1) := by decide +kernel
theorem dX4_add_35 : decode cX4_add 35 = .ok (.iadd, 1) := by decide +kernel
theorem dX4_add_36 : decode cX4_add 36 = .ok (.putfield 21, 3) := by decide +kernel
theorem dX4_add_39 : decode cX4_add 39 = .ok (.return_, 1) := by decide +kernel
theorem dX4_clear_0 : decode cX4_clear 0 = .ok (.aload_n 0, 1) := by decide +kernel
theorem dX4_clear_1 : decode cX4_clear 1 = .ok (.iconst 0, 1) := by decide +kernel
theorem dX4_clear_2 : decode cX4_clear 2 = .ok (.putfield 21, 3) := by decide +kernel
theorem dX4_clear_5 : decode cX4_clear 5 = .ok (.return_, 1) := by decide +kernel
theorem dX4_copy_0 : decode cX4_copy 0 = .ok (.aload_n 0, 1) := by decide +kernel
theorem dX4_copy_1 : decode cX4_copy 1 = .ok (.invokevirtual 25, 3) := by decide +kernel
theorem dX4_copy_4 : decode cX4_copy 4 = .ok (.iconst 0, 1) := by decide +kernel
theorem dX4_copy_5 : decode cX4_copy 5 = .ok (.istore_n 2, 1) := by decide +kernel
theorem dX4_copy_6 : decode cX4_copy 6 = .ok (.iload_n 2, 1) := by decide +kernel
theorem dX4_copy_7 : decode cX4_copy 7 = .ok (.aload_n 1, 1) := by decide +kernel
theorem dX4_copy_8 : decode cX4_copy 8 = .ok (.invokevirtual 28, 3) := by decide +kernel
theorem dX4_copy_11 : decode cX4_copy 11 = .ok (.if_icmp .ge 18, 3) := by decide +kernel
theorem dX4_copy_14 : decode cX4_copy 14 = .ok (.aload_n 0, 1) := by decide +kernel
theorem dX4_copy_15 : decode cX4_copy 15 = .ok (.aload_n 1, 1) := by decide +kernel
theorem dX4_copy_16 : decode cX4_copy 16 = .ok (.iload_n 2, 1) := by decide +kernel
theorem dX4_copy_17 : decode cX4_copy 17 = .ok (.invokevirtual 31, 3) := by decide +kernel
theorem dX4_copy_20 : decode cX4_copy 20 = .ok (.invokevirtual 35, 3) := by decide +kernel
theorem dX4_copy_23 : decode cX4_copy 23 = .ok (.iinc 2 1, 3) := by decide +kernel
theorem dX4_copy_26 : decode cX4_copy 26 = .ok (.goto (-20), 3) := by decide +kernel
theorem dX4_copy_29 : decode cX4_copy 29 = .ok (.return_, 1) := by decide +kernel
theorem dX4_isOfBases_0 : decode cX4_isOfBases 0 = .ok (.aload_n 0, 1) := by decide +kernel
theorem dX4_isOfBases_1 : decode cX4_isOfBases 1 = .ok (.getfield 21, 3) := by decide +kernel
theorem dX4_isOfBases_4 : decode cX4_isOfBases 4 = .ok (.iload_n 1, 1) := by decide +kernel
theorem dX4_isOfBases_5 : decode cX4_isOfBases 5 = .ok (.if_icmp .lt 11, 3) := by decide +kernel
theorem dX4_isOfBases_8 : decode cX4_isOfBases 8 = .ok (.aload_n 0, 1) := by decide +kernel
theorem dX4_isOfBases_9 : decode cX4_isOfBases 9 = .ok (.getfield 21, 3) := by decide +kernel
theorem dX4_isOfBases_12 : decode cX4_isOfBases 12 = .ok (.iload_n 2, 1) := by decide +kernel
theorem dX4_isOfBases_13 : decode cX4_isOfBases 13 = .ok (.if_icmp .le 5, 3) := by decide +kernel
theorem dX4_isOfBases_16 : decode cX4_isOfBases 16 = .ok (.iconst 0, 1) := by decide +kernel
theorem dX4_isOfBases_17 : decode cX4_isOfBases 17 = .ok (.ireturn, 1) := by decide +kernel
theorem dX4_isOfBases_18 : decode cX4_isOfBases 18 = .ok (.iconst 0, 1) := by decide +kernel
theorem dX4_isOfBases_19 : decode cX4_isOfBases 19 = .ok (.istore_n 3, 1) := by decide +kernel
theorem dX4_isOfBases_20 : decode cX4_isOfBases 20 = .ok (.iload_n 3, 1) := by decide +kernel
theorem dX4_isOfBases_21 : decode cX4_isOfBases 21 = .ok (.aload_n 0, 1) := by decide +kernel
theorem dX4_isOfBases_22 : decode cX4_isOfBases 22 = .ok (.getfield 21, 3) := by decide +kernel
theorem dX4_isOfBases_25 : decode cX4_isOfBases 25 = .ok (.if_icmp .ge 22, 3) := by decide +kernel
theorem dX4_isOfBases_28 : decode cX4_isOfBases 28 = .ok (.aload_n 0, 1) := by decide +kernel
theorem dX4_isOfBases_29 : decode cX4_isOfBases 29 = .ok (.iload_n 3, 1) := by decide +kernel
theorem dX4_isOfBases_30 : decode cX4_isOfBases 30 = .ok (.invokevirtual 31, 3) := by decide +kernel
theorem dX4_isOfBases_33 : decode cX4_isOfBases 33 = .ok (.invokestatic 39, 3) := by decide +kernel
theorem dX4_isOfBases_36 : decode cX4_isOfBases 36 = .ok (.ifCond .ne 5, 3) := by decide +kernel
theorem dX4_isOfBases_39 : decode cX4_isOfBases 39 = .ok (.iconst 0, 1) := by decide +kernel
theorem dX4_isOfBases_40 : decode cX4_isOfBases 40 = .ok (.ireturn, 1) := by decide +kernel
theorem dX4_isOfBases_41 : decode cX4_isOfBases 41 = .ok (.iinc 3 1, 3) := by decide +kernel
theorem dX4_isOfBases_44 : decode cX4_isOfBases 44 = .ok (.goto (-24), 3) := by decide +kernel
theorem dX4_isOfBases_47 : decode cX4_isOfBases 47 = .ok (.iconst 1, 1) := by decide +kernel
theorem dX4_isOfBases_48 : decode cX4_isOfBases 48 = .ok (.ireturn, 1) := by decide +kernel
theorem dX5_init_0 : decode cX5_init 0 = .ok (.aload_n 0, 1) := by decide +kernel
theorem dX5_init_1 : decode cX5_init 1 = .ok (.invokespecial 3, 3) := by decide +kernel
theorem dX5_init_4 : decode cX5_init 4 = .ok (.aload_n 0, 1) := by decide +kernel
theorem dX5_init_5 : decode cX5_init 5 = .ok (.bipush 60, 2) := by decide +kernel
theorem dX5_init_7 : decode cX5_init 7 = .ok (.newarray .int, 2) := by decide +kernel
theorem dX5_init_9 : decode cX5_init 9 = .ok (.putfield 9, 3) := by decide +kernel
theorem dX5_init_12 : decode cX5_init 12 = .ok (.aload_n 0, 1) := by decide +kernel
theorem dX5_init_13 : decode cX5_init 13 = .ok (.bipush 60, 2) := by decide +kernel
theorem dX5_init_15 : decode cX5_init 15 = .ok (.newarray .int, 2) := by decide +kernel
theorem dX5_init_17 : decode cX5_init 17 = .ok (.putfield 15, 3) := by decide +kernel
theorem dX5_init_20 : decode cX5_init 20 = .ok (.aload_n 0, 1) := by decide +kernel
theorem dX5_init_21 : decode cX5_init 21 = .ok (.bipush 60, 2) := by decide +kernel
theorem dX5_init_23 : decode cX5_init 23 = .ok (.newarray .int, 2) := by decide +kernel
theorem dX5_init_25 : decode cX5_init 25 = .ok (.putfield 18, 3) := by decide +kernel
theorem dX5_init_28 : decode cX5_init 28 = .ok (.aload_n 0, 1) := by decide +kernel
theorem dX5_init_29 : decode cX5_init 29 = .ok (.bipush 60, 2) := by decide +kernel
theorem dX5_init_31 : decode cX5_init 31 = .ok (.newarray .int, 2) := by decide +kernel
theorem dX5_init_33 : decode cX5_init 33 = .ok (.putfield 21, 3) := by decide +kernel
theorem dX5_init_36 : decode cX5_init 36 = .ok (.aload_n 0, 1) := by decide +kernel
theorem dX5_init_37 : decode cX5_init 37 = .ok (.bipush 60, 2) := by decide +kernel
theorem dX5_init_39 : decode cX5_init 39 = .ok (.newarray .boolean, 2) := by decide +kernel
theorem dX5_init_41 : decode cX5_init 41 = .ok (.putfield 24, 3) := by decide +kernel
theorem dX5_init_44 : decode cX5_init 44 = .ok (.aload_n 0, 1) := by decide +kernel
theorem dX5_init_45 : decode cX5_init 45 = .ok (.new 28, 3) := by decide +kernel
theorem dX5_init_48 : decode cX5_init 48 = .ok (.dup, 1) := by decide +kernel
theorem dX5_init_49 : decode cX5_init 49 = .ok (.invokespecial 30, 3) := by decide +kernel
theorem dX5_init_52 : decode cX5_init 52 = .ok (.putfield 31, 3) := by decide +kernel
theorem dX5_init_55 : decode cX5_init 55 = .ok (.return_, 1) := by decide +kernel
theorem dX5_forget_0 : decode cX5_forget 0 = .ok (.aload_n 0, 1) := by decide +kernel
theorem dX5_forget_1 : decode cX5_forget 1 = .ok (.iconst 0, 1) := by decide +kernel
theorem dX5_forget_2 : decode cX5_forget 2 = .ok (.putfield 35, 3) := by decide +kernel
theorem dX5_forget_5 : decode cX5_forget 5 = .ok (.return_, 1) := by decide +kernel
theorem dX5_isDone_0 : decode cX5_isDone 0 = .ok (.aload_n 0, 1) := by decide +kernel
theorem dX5_isDone_1 : decode cX5_isDone 1 = .ok (.getfield 35, 3) := by decide +kernel
theorem dX5_isDone_4 : decode cX5_isDone 4 = .ok (.ireturn, 1) := by decide +kernel
theorem dX5_binCount_0 : decode cX5_binCount 0 = .ok (.aload_n 0, 1) := by decide +kernel
theorem dX5_binCount_1 : decode cX5_binCount 1 = .ok (.getfield 39, 3) := by decide +kernel
theorem dX5_binCount_4 : decode cX5_binCount 4 = .ok (.ireturn, 1) := by decide +kernel
theorem dX5_grouping_0 : decode cX5_grouping 0 = .ok (.aload_n 0, 1) := by decide +kernel
theorem dX5_grouping_1 : decode cX5_grouping 1 = .ok (.getfield 31, 3) := by decide +kernel
theorem dX5_grouping_4 : decode cX5_grouping 4 = .ok (.areturn, 1) := by decide +kernel
theorem dX5_restart_0 : decode cX5_restart 0 = .ok (.aload_n 0, 1) := by decide +kernel
theorem dX5_restart_1 : decode cX5_restart 1 = .ok (.iconst 0, 1) := by decide +kernel
theorem dX5_restart_2 : decode cX5_restart 2 = .ok (.putfield 43, 3) := by decide +kernel
theorem dX5_restart_5 : decode cX5_restart 5 = .ok (.aload_n 0, 1) := by decide +kernel
theorem dX5_restart_6 : decode cX5_restart 6 = .ok (.iload_n 1, 1) := by decide +kernel
theorem dX5_restart_7 : decode cX5_restart 7 = .ok (.putfield 39, 3) := by decide +kernel
theorem dX5_restart_10 : decode cX5_restart 10 = .ok (.aload_n 0, 1) := by decide +kernel
theorem dX5_restart_11 : decode cX5_restart 11 = .ok (.getfield 31, 3) := by decide +kernel
theorem dX5_restart_14 : decode cX5_restart 14 = .ok (.iload_n 2, 1) := by decide +kernel
theorem dX5_restart_15 : decode cX5_restart 15 = .ok (.iload_n 3, 1) := by decide +kernel
theorem dX5_restart_16 : decode cX5_restart 16 = .ok (.invokevirtual 46, 3) := by decide +kernel
theorem dX5_restart_19 : decode cX5_restart 19 = .ok (.return_, 1) := by decide +kernel
theorem dX5_add_0 : decode cX5_add 0 = .ok (.aload_n 0, 1) := by decide +kernel
theorem dX5_add_1 : decode cX5_add 1 = .ok (.getfield 43, 3) := by decide +kernel
theorem dX5_add_4 : decode cX5_add 4 = .ok (.istore 4, 2) := by decide +kernel
theorem dX5_add_6 : decode cX5_add 6 = .ok (.iload 4, 2) := by decide +kernel
theorem dX5_add_8 : decode cX5_add 8 = .ok (.ifCond .lt 10, 3) := by decide +kernel
theorem dX5_add_11 : decode cX5_add 11 = .ok (.iload 4, 2) := by decide +kernel
theorem dX5_add_13 : decode cX5_add 13 = .ok (.bipush 60, 2) := by decide +kernel
theorem dX5_add_15 : decode cX5_add 15 = .ok (.if_icmp .lt 4, 3) := by decide +kernel
theorem dX5_add_18 : decode cX5_add 18 = .ok (.return_, 1) := by decide +kernel
theorem dX5_add_19 : decode cX5_add 19 = .ok (.aload_n 0, 1) := by decide +kernel
theorem dX5_add_20 : decode cX5_add 20 = .ok (.getfield 9, 3) := by decide +kernel
theorem dX5_add_23 : decode cX5_add 23 = .ok (.iload 4, 2) := by decide +kernel
theorem dX5_add_25 : decode cX5_add 25 = .ok (.iload_n 2, 1) := by decide +kernel
theorem dX5_add_26 : decode cX5_add 26 = .ok (.iastore, 1) := by decide +kernel
theorem dX5_add_27 : decode cX5_add 27 = .ok (.aload_n 0, 1) := by decide +kernel
theorem dX5_add_28 : decode cX5_add 28 = .ok (.getfield 15, 3) := by decide +kernel
theorem dX5_add_31 : decode cX5_add 31 = .ok (.iload 4, 2) := by decide +kernel
theorem dX5_add_33 : decode cX5_add 33 = .ok (.aload_n 3, 1) := by decide +kernel
theorem dX5_add_34 : decode cX5_add 34 = .ok (.invokevirtual 50, 3) := by decide +kernel
theorem dX5_add_37 : decode cX5_add 37 = .ok (.iastore, 1) := by decide +kernel
theorem dX5_add_38 : decode cX5_add 38 = .ok (.aload_n 0, 1) := by decide +kernel
theorem dX5_add_39 : decode cX5_add 39 = .ok (.getfield 18, 3) := by decide +kernel
theorem dX5_add_42 : decode cX5_add 42 = .ok (.iload 4, 2) := by decide +kernel
theorem dX5_add_44 : decode cX5_add 44 = .ok (.aload_n 3, 1) := by decide +kernel
theorem dX5_add_45 : decode cX5_add 45 = .ok (.invokevirtual 56, 3) := by decide +kernel
theorem dX5_add_48 : decode cX5_add 48 = .ok (.iastore, 1) := by decide +kernel
theorem dX5_add_49 : decode cX5_add 49 = .ok (.aload_n 0, 1) := by decide +kernel
theorem dX5_add_50 : decode cX5_add 50 = .ok (.getfield 24, 3) := by decide +kernel
theorem dX5_add_53 : decode cX5_add 53 = .ok (.iload 4, 2) := by decide +kernel
theorem dX5_add_55 : decode cX5_add 55 = .ok (.aload_n 3, 1) := by decide +kernel
theorem dX5_add_56 : decode cX5_add 56 = .ok (.invokevirtual 59, 3) := by decide +kernel
theorem dX5_add_59 : decode cX5_add 59 = .ok (.bastore, 1) := by decide +kernel
theorem dX5_add_60 : decode cX5_add 60 = .ok (.aload_n 0, 1) := by decide +kernel
theorem dX5_add_61 : decode cX5_add 61 = .ok (.getfield 21, 3) := by decide +kernel
theorem dX5_add_64 : decode cX5_add 64 = .ok (.iload 4, 2) := by decide +kernel
theorem dX5_add_66 : decode cX5_add 66 = .ok (.aload_n 0, 1) := by decide +kernel
theorem dX5_add_67 : decode cX5_add 67 = .ok (.aload_n 1, 1) := by decide +kernel
theorem dX5_add_68 : decode cX5_add 68 = .ok (.iload 4, 2) := by decide +kernel
theorem dX5_add_70 : decode cX5_add 70 = .ok (.invokevirtual 63, 3) := by decide +kernel
theorem dX5_add_73 : decode cX5_add 73 = .ok (.iastore, 1) := by decide +kernel
theorem dX5_add_74 : decode cX5_add 74 = .ok (.aload_n 0, 1) := by decide +kernel
theorem dX5_add_75 : decode cX5_add 75 = .ok (.dup, 1) := by decide +kernel
theorem dX5_add_76 : decode cX5_add 76 = .ok (.getfield 43, 3) := by decide +kernel
theorem dX5_add_79 : decode cX5_add 79 = .ok (.iconst 1, 1) := by decide +kernel
theorem dX5_add_80 : decode cX5_add 80 = .ok (.iadd, 1) := by decide +kernel
theorem dX5_add_81 : decode cX5_add 81 = .ok (.putfield 43, 3) := by decide +kernel
theorem dX5_add_84 : decode cX5_add 84 = .ok (.return_, 1) := by decide +kernel
theorem dX5_finish_0 : decode cX5_finish 0 = .ok (.iconst 0, 1) := by decide +kernel
theorem dX5_finish_1 : decode cX5_finish 1 = .ok (.istore_n 1, 1) := by decide +kernel
theorem dX5_finish_2 : decode cX5_finish 2 = .ok (.iload_n 1, 1) := by decide +kernel
theorem dX5_finish_3 : decode cX5_finish 3 = .ok (.aload_n 0, 1) := by decide +kernel
theorem dX5_finish_4 : decode cX5_finish 4 = .ok (.getfield 39, 3) := by decide +kernel
theorem dX5_finish_7 : decode cX5_finish 7 = .ok (.if_icmp .ge 17, 3) := by decide +kernel
theorem dX5_finish_10 : decode cX5_finish 10 = .ok (.aload_n 0, 1) := by decide +kernel
theorem dX5_finish_11 : decode cX5_finish 11 = .ok (.getfield 31, 3) := by decide +kernel
theorem dX5_finish_14 : decode cX5_finish 14 = .ok (.iload_n 1, 1) := by decide +kernel
theorem dX5_finish_15 : decode cX5_finish 15 = .ok (.invokevirtual 67, 3) := by decide +kernel
theorem dX5_finish_18 : decode cX5_finish 18 = .ok (.iinc 1 1, 3) := by decide +kernel
theorem dX5_finish_21 : decode cX5_finish 21 = .ok (.goto (-19), 3) := by decide +kernel
theorem dX5_finish_24 : decode cX5_finish 24 = .ok (.aload_n 0, 1) := by decide +kernel
theorem dX5_finish_25 : decode cX5_finish 25 = .ok (.iconst 1, 1) := by decide +kernel
theorem dX5_finish_26 : decode cX5_finish 26 = .ok (.putfield 35, 3) := by decide +kernel
theorem dX5_finish_29 : decode cX5_finish 29 = .ok (.return_, 1) := by decide +kernel
theorem dX5_binOf_0 : decode cX5_binOf 0 = .ok (.aload_n 0, 1) := by decide +kernel
theorem dX5_binOf_1 : decode cX5_binOf 1 = .ok (.iload_n 1, 1) := by decide +kernel
theorem dX5_binOf_2 : decode cX5_binOf 2 = .ok (.invokevirtual 71, 3) := by decide +kernel
theorem dX5_binOf_5 : decode cX5_binOf 5 = .ok (.ifCond .eq 12, 3) := by decide +kernel
theorem dX5_binOf_8 : decode cX5_binOf 8 = .ok (.aload_n 0, 1) := by decide +kernel
theorem dX5_binOf_9 : decode cX5_binOf 9 = .ok (.getfield 9, 3) := by decide +kernel
theorem dX5_binOf_12 : decode cX5_binOf 12 = .ok (.iload_n 1, 1) := by decide +kernel
theorem dX5_binOf_13 : decode cX5_binOf 13 = .ok (.iaload, 1) := by decide +kernel
theorem dX5_binOf_14 : decode cX5_binOf 14 = .ok (.goto 4, 3) := by decide +kernel
theorem dX5_binOf_17 : decode cX5_binOf 17 = .ok (.iconst (-1), 1) := by decide +kernel
theorem dX5_binOf_18 : decode cX5_binOf 18 = .ok (.ireturn, 1) := by decide +kernel
theorem dX5_beginOf_0 : decode cX5_beginOf 0 = .ok (.aload_n 0, 1) := by decide +kernel
theorem dX5_beginOf_1 : decode cX5_beginOf 1 = .ok (.iload_n 1, 1) := by decide +kernel
theorem dX5_beginOf_2 : decode cX5_beginOf 2 = .ok (.invokevirtual 71, 3) := by decide +kernel
theorem dX5_beginOf_5 : decode cX5_beginOf 5 = .ok (.ifCond .eq 12, 3) := by decide +kernel
theorem dX5_beginOf_8 : decode cX5_beginOf 8 = .ok (.aload_n 0, 1) := by decide +kernel
theorem dX5_beginOf_9 : decode cX5_beginOf 9 = .ok (.getfield 15, 3) := by decide +kernel
theorem dX5_beginOf_12 : decode cX5_beginOf 12 = .ok (.iload_n 1, 1) := by decide +kernel
theorem dX5_beginOf_13 : decode cX5_beginOf 13 = .ok (.iaload, 1) := by decide +kernel
theorem dX5_beginOf_14 : decode cX5_beginOf 14 = .ok (.goto 4, 3) := by decide +kernel
theorem dX5_beginOf_17 : decode cX5_beginOf 17 = .ok (.iconst 0, 1) := by decide +kernel
end
section
theorem dX5_beginOf_18 : decode cX5_beginOf 18 = .ok (.ireturn, 1) := by decide +kernel
theorem dX5_endOf_0 : decode cX5_endOf 0 = .ok (.aload_n 0, 1) := by decide +kernel
theorem dX5_endOf_1 : decode cX5_endOf 1 = .ok (.iload_n 1, 1) := by decide +kernel
theorem dX5_endOf_2 : decode cX5_endOf 2 = .ok (.invokevirtual 71, 3) := by decide +kernel
theorem dX5_endOf_5 : decode cX5_endOf 5 = .ok (.ifCond .eq 12, 3) := by decide +kernel
theorem dX5_endOf_8 : decode cX5_endOf 8 = .ok (.aload_n 0, 1) := by decide +kernel
theorem dX5_endOf_9 : decode cX5_endOf 9 = .ok (.getfield 18, 3) := by decide +kernel
theorem dX5_endOf_12 : decode cX5_endOf 12 = .ok (.iload_n 1, 1) := by decide +kernel
theorem dX5_endOf_13 : decode cX5_endOf 13 = .ok (.iaload, 1) := by decide +kernel
theorem dX5_endOf_14 : decode cX5_endOf 14 = .ok (.goto 4, 3) := by decide +kernel
theorem dX5_endOf_17 : decode cX5_endOf 17 = .ok (.iconst 0, 1) := by decide +kernel
theorem dX5_endOf_18 : decode cX5_endOf 18 = .ok (.ireturn, 1) := by decide +kernel
theorem dX5_isShort_0 : decode cX5_isShort 0 = .ok (.aload_n 0, 1) := by decide +kernel
theorem dX5_isShort_1 : decode cX5_isShort 1 = .ok (.iload_n 1, 1) := by decide +kernel
theorem dX5_isShort_2 : decode cX5_isShort 2 = .ok (.invokevirtual 71, 3) := by decide +kernel
theorem dX5_isShort_5 : decode cX5_isShort 5 = .ok (.ifCond .eq 16, 3) := by decide +kernel
theorem dX5_isShort_8 : decode cX5_isShort 8 = .ok (.aload_n 0, 1) := by decide +kernel
theorem dX5_isShort_9 : decode cX5_isShort 9 = .ok (.getfield 24, 3) := by decide +kernel
theorem dX5_isShort_12 : decode cX5_isShort 12 = .ok (.iload_n 1, 1) := by decide +kernel
theorem dX5_isShort_13 : decode cX5_isShort 13 = .ok (.baload, 1) := by decide +kernel
theorem dX5_isShort_14 : decode cX5_isShort 14 = .ok (.ifCond .eq 7, 3) := by decide +kernel
theorem dX5_isShort_17 : decode cX5_isShort 17 = .ok (.iconst 1, 1) := by decide +kernel
theorem dX5_isShort_18 : decode cX5_isShort 18 = .ok (.goto 4, 3) := by decide +kernel
theorem dX5_isShort_21 : decode cX5_isShort 21 = .ok (.iconst 0, 1) := by decide +kernel
theorem dX5_isShort_22 : decode cX5_isShort 22 = .ok (.ireturn, 1) := by decide +kernel
theorem dX5_readsIn_0 : decode cX5_readsIn 0 = .ok (.iconst 0, 1) := by decide +kernel
theorem dX5_readsIn_1 : decode cX5_readsIn 1 = .ok (.istore_n 2, 1) := by decide +kernel
theorem dX5_readsIn_2 : decode cX5_readsIn 2 = .ok (.iconst 0, 1) := by decide +kernel
theorem dX5_readsIn_3 : decode cX5_readsIn 3 = .ok (.istore_n 3, 1) := by decide +kernel
theorem dX5_readsIn_4 : decode cX5_readsIn 4 = .ok (.iload_n 3, 1) := by decide +kernel
theorem dX5_readsIn_5 : decode cX5_readsIn 5 = .ok (.aload_n 0, 1) := by decide +kernel
theorem dX5_readsIn_6 : decode cX5_readsIn 6 = .ok (.getfield 43, 3) := by decide +kernel
theorem dX5_readsIn_9 : decode cX5_readsIn 9 = .ok (.if_icmp .ge 21, 3) := by decide +kernel
theorem dX5_readsIn_12 : decode cX5_readsIn 12 = .ok (.aload_n 0, 1) := by decide +kernel
theorem dX5_readsIn_13 : decode cX5_readsIn 13 = .ok (.iload_n 3, 1) := by decide +kernel
theorem dX5_readsIn_14 : decode cX5_readsIn 14 = .ok (.invokevirtual 75, 3) := by decide +kernel
theorem dX5_readsIn_17 : decode cX5_readsIn 17 = .ok (.iload_n 1, 1) := by decide +kernel
theorem dX5_readsIn_18 : decode cX5_readsIn 18 = .ok (.if_icmp .ne 6, 3) := by decide +kernel
theorem dX5_readsIn_21 : decode cX5_readsIn 21 = .ok (.iinc 2 1, 3) := by decide +kernel
theorem dX5_readsIn_24 : decode cX5_readsIn 24 = .ok (.iinc 3 1, 3) := by decide +kernel
theorem dX5_readsIn_27 : decode cX5_readsIn 27 = .ok (.goto (-23), 3) := by decide +kernel
theorem dX5_readsIn_30 : decode cX5_readsIn 30 = .ok (.iload_n 2, 1) := by decide +kernel
theorem dX5_readsIn_31 : decode cX5_readsIn 31 = .ok (.ireturn, 1) := by decide +kernel
theorem dX5_shortReadsIn_0 : decode cX5_shortReadsIn 0 = .ok (.iconst 0, 1) := by decide +kernel
theorem dX5_shortReadsIn_1 : decode cX5_shortReadsIn 1 = .ok (.istore_n 2, 1) := by decide +kernel
theorem dX5_shortReadsIn_2 : decode cX5_shortReadsIn 2 = .ok (.iconst 0, 1) := by decide +kernel
theorem dX5_shortReadsIn_3 : decode cX5_shortReadsIn 3 = .ok (.istore_n 3, 1) := by decide +kernel
theorem dX5_shortReadsIn_4 : decode cX5_shortReadsIn 4 = .ok (.iload_n 3, 1) := by decide +kernel
theorem dX5_shortReadsIn_5 : decode cX5_shortReadsIn 5 = .ok (.aload_n 0, 1) := by decide +kernel
theorem dX5_shortReadsIn_6 : decode cX5_shortReadsIn 6 = .ok (.getfield 43, 3) := by decide +kernel
theorem dX5_shortReadsIn_9 : decode cX5_shortReadsIn 9 = .ok (.if_icmp .ge 29, 3) := by decide +kernel
theorem dX5_shortReadsIn_12 : decode cX5_shortReadsIn 12 = .ok (.aload_n 0, 1) := by decide +kernel
theorem dX5_shortReadsIn_13 : decode cX5_shortReadsIn 13 = .ok (.iload_n 3, 1) := by decide +kernel
theorem dX5_shortReadsIn_14 : decode cX5_shortReadsIn 14 = .ok (.invokevirtual 75, 3) := by decide +kernel
theorem dX5_shortReadsIn_17 : decode cX5_shortReadsIn 17 = .ok (.iload_n 1, 1) := by decide +kernel
theorem dX5_shortReadsIn_18 : decode cX5_shortReadsIn 18 = .ok (.if_icmp .ne 14, 3) := by decide +kernel
theorem dX5_shortReadsIn_21 : decode cX5_shortReadsIn 21 = .ok (.aload_n 0, 1) := by decide +kernel
theorem dX5_shortReadsIn_22 : decode cX5_shortReadsIn 22 = .ok (.iload_n 3, 1) := by decide +kernel
theorem dX5_shortReadsIn_23 : decode cX5_shortReadsIn 23 = .ok (.invokevirtual 79, 3) := by decide +kernel
theorem dX5_shortReadsIn_26 : decode cX5_shortReadsIn 26 = .ok (.ifCond .eq 6, 3) := by decide +kernel
theorem dX5_shortReadsIn_29 : decode cX5_shortReadsIn 29 = .ok (.iinc 2 1, 3) := by decide +kernel
theorem dX5_shortReadsIn_32 : decode cX5_shortReadsIn 32 = .ok (.iinc 3 1, 3) := by decide +kernel
theorem dX5_shortReadsIn_35 : decode cX5_shortReadsIn 35 = .ok (.goto (-31), 3) := by decide +kernel
theorem dX5_shortReadsIn_38 : decode cX5_shortReadsIn 38 = .ok (.iload_n 2, 1) := by decide +kernel
theorem dX5_shortReadsIn_39 : decode cX5_shortReadsIn 39 = .ok (.ireturn, 1) := by decide +kernel
theorem dX5_bestOf_0 : decode cX5_bestOf 0 = .ok (.iconst (-1), 1) := by decide +kernel
theorem dX5_bestOf_1 : decode cX5_bestOf 1 = .ok (.istore_n 3, 1) := by decide +kernel
theorem dX5_bestOf_2 : decode cX5_bestOf 2 = .ok (.iconst 0, 1) := by decide +kernel
theorem dX5_bestOf_3 : decode cX5_bestOf 3 = .ok (.istore 4, 2) := by decide +kernel
theorem dX5_bestOf_5 : decode cX5_bestOf 5 = .ok (.iload 4, 2) := by decide +kernel
theorem dX5_bestOf_7 : decode cX5_bestOf 7 = .ok (.aload_n 0, 1) := by decide +kernel
theorem dX5_bestOf_8 : decode cX5_bestOf 8 = .ok (.getfield 43, 3) := by decide +kernel
theorem dX5_bestOf_11 : decode cX5_bestOf 11 = .ok (.if_icmp .ge 45, 3) := by decide +kernel
theorem dX5_bestOf_14 : decode cX5_bestOf 14 = .ok (.aload_n 0, 1) := by decide +kernel
theorem dX5_bestOf_15 : decode cX5_bestOf 15 = .ok (.getfield 31, 3) := by decide +kernel
theorem dX5_bestOf_18 : decode cX5_bestOf 18 = .ok (.iload 4, 2) := by decide +kernel
theorem dX5_bestOf_20 : decode cX5_bestOf 20 = .ok (.iload_n 1, 1) := by decide +kernel
theorem dX5_bestOf_21 : decode cX5_bestOf 21 = .ok (.iload_n 2, 1) := by decide +kernel
theorem dX5_bestOf_22 : decode cX5_bestOf 22 = .ok (.invokevirtual 82, 3) := by decide +kernel
theorem dX5_bestOf_25 : decode cX5_bestOf 25 = .ok (.ifCond .eq 25, 3) := by decide +kernel
theorem dX5_bestOf_28 : decode cX5_bestOf 28 = .ok (.iload_n 3, 1) := by decide +kernel
theorem dX5_bestOf_29 : decode cX5_bestOf 29 = .ok (.iconst (-1), 1) := by decide +kernel
theorem dX5_bestOf_30 : decode cX5_bestOf 30 = .ok (.if_icmp .eq 17, 3) := by decide +kernel
theorem dX5_bestOf_33 : decode cX5_bestOf 33 = .ok (.aload_n 0, 1) := by decide +kernel
theorem dX5_bestOf_34 : decode cX5_bestOf 34 = .ok (.iload 4, 2) := by decide +kernel
theorem dX5_bestOf_36 : decode cX5_bestOf 36 = .ok (.invokevirtual 86, 3) := by decide +kernel
theorem dX5_bestOf_39 : decode cX5_bestOf 39 = .ok (.aload_n 0, 1) := by decide +kernel
theorem dX5_bestOf_40 : decode cX5_bestOf 40 = .ok (.iload_n 3, 1) := by decide +kernel
theorem dX5_bestOf_41 : decode cX5_bestOf 41 = .ok (.invokevirtual 86, 3) := by decide +kernel
theorem dX5_bestOf_44 : decode cX5_bestOf 44 = .ok (.if_icmp .le 6, 3) := by decide +kernel
theorem dX5_bestOf_47 : decode cX5_bestOf 47 = .ok (.iload 4, 2) := by decide +kernel
theorem dX5_bestOf_49 : decode cX5_bestOf 49 = .ok (.istore_n 3, 1) := by decide +kernel
theorem dX5_bestOf_50 : decode cX5_bestOf 50 = .ok (.iinc 4 1, 3) := by decide +kernel
theorem dX5_bestOf_53 : decode cX5_bestOf 53 = .ok (.goto (-48), 3) := by decide +kernel
theorem dX5_bestOf_56 : decode cX5_bestOf 56 = .ok (.iload_n 3, 1) := by decide +kernel
theorem dX5_bestOf_57 : decode cX5_bestOf 57 = .ok (.ireturn, 1) := by decide +kernel
theorem dX5_isBest_0 : decode cX5_isBest 0 = .ok (.aload_n 0, 1) := by decide +kernel
theorem dX5_isBest_1 : decode cX5_isBest 1 = .ok (.getfield 31, 3) := by decide +kernel
theorem dX5_isBest_4 : decode cX5_isBest 4 = .ok (.iload_n 1, 1) := by decide +kernel
theorem dX5_isBest_5 : decode cX5_isBest 5 = .ok (.invokevirtual 89, 3) := by decide +kernel
theorem dX5_isBest_8 : decode cX5_isBest 8 = .ok (.istore_n 2, 1) := by decide +kernel
theorem dX5_isBest_9 : decode cX5_isBest 9 = .ok (.iload_n 2, 1) := by decide +kernel
theorem dX5_isBest_10 : decode cX5_isBest 10 = .ok (.iconst (-1), 1) := by decide +kernel
theorem dX5_isBest_11 : decode cX5_isBest 11 = .ok (.if_icmp .eq 21, 3) := by decide +kernel
theorem dX5_isBest_14 : decode cX5_isBest 14 = .ok (.aload_n 0, 1) := by decide +kernel
theorem dX5_isBest_15 : decode cX5_isBest 15 = .ok (.aload_n 0, 1) := by decide +kernel
theorem dX5_isBest_16 : decode cX5_isBest 16 = .ok (.iload_n 1, 1) := by decide +kernel
theorem dX5_isBest_17 : decode cX5_isBest 17 = .ok (.invokevirtual 75, 3) := by decide +kernel
theorem dX5_isBest_20 : decode cX5_isBest 20 = .ok (.iload_n 2, 1) := by decide +kernel
theorem dX5_isBest_21 : decode cX5_isBest 21 = .ok (.invokevirtual 92, 3) := by decide +kernel
theorem dX5_isBest_24 : decode cX5_isBest 24 = .ok (.iload_n 1, 1) := by decide +kernel
theorem dX5_isBest_25 : decode cX5_isBest 25 = .ok (.if_icmp .ne 7, 3) := by decide +kernel
theorem dX5_isBest_28 : decode cX5_isBest 28 = .ok (.iconst 1, 1) := by decide +kernel
theorem dX5_isBest_29 : decode cX5_isBest 29 = .ok (.goto 4, 3) := by decide +kernel
theorem dX5_isBest_32 : decode cX5_isBest 32 = .ok (.iconst 0, 1) := by decide +kernel
theorem dX5_isBest_33 : decode cX5_isBest 33 = .ok (.ireturn, 1) := by decide +kernel
theorem dX5_has_0 : decode cX5_has 0 = .ok (.iload_n 1, 1) := by decide +kernel
theorem dX5_has_1 : decode cX5_has 1 = .ok (.ifCond .lt 21, 3) := by decide +kernel
theorem dX5_has_4 : decode cX5_has 4 = .ok (.iload_n 1, 1) := by decide +kernel
theorem dX5_has_5 : decode cX5_has 5 = .ok (.aload_n 0, 1) := by decide +kernel
theorem dX5_has_6 : decode cX5_has 6 = .ok (.getfield 43, 3) := by decide +kernel
theorem dX5_has_9 : decode cX5_has 9 = .ok (.if_icmp .ge 13, 3) := by decide +kernel
theorem dX5_has_12 : decode cX5_has 12 = .ok (.iload_n 1, 1) := by decide +kernel
theorem dX5_has_13 : decode cX5_has 13 = .ok (.bipush 60, 2) := by decide +kernel
theorem dX5_has_15 : decode cX5_has 15 = .ok (.if_icmp .ge 7, 3) := by decide +kernel
theorem dX5_has_18 : decode cX5_has 18 = .ok (.iconst 1, 1) := by decide +kernel
theorem dX5_has_19 : decode cX5_has 19 = .ok (.goto 4, 3) := by decide +kernel
theorem dX5_has_22 : decode cX5_has 22 = .ok (.iconst 0, 1) := by decide +kernel
theorem dX5_has_23 : decode cX5_has 23 = .ok (.ireturn, 1) := by decide +kernel
theorem dX5_worthOf_0 : decode cX5_worthOf 0 = .ok (.aload_n 0, 1) := by decide +kernel
theorem dX5_worthOf_1 : decode cX5_worthOf 1 = .ok (.iload_n 1, 1) := by decide +kernel
theorem dX5_worthOf_2 : decode cX5_worthOf 2 = .ok (.invokevirtual 71, 3) := by decide +kernel
theorem dX5_worthOf_5 : decode cX5_worthOf 5 = .ok (.ifCond .eq 12, 3) := by decide +kernel
theorem dX5_worthOf_8 : decode cX5_worthOf 8 = .ok (.aload_n 0, 1) := by decide +kernel
theorem dX5_worthOf_9 : decode cX5_worthOf 9 = .ok (.getfield 21, 3) := by decide +kernel
theorem dX5_worthOf_12 : decode cX5_worthOf 12 = .ok (.iload_n 1, 1) := by decide +kernel
theorem dX5_worthOf_13 : decode cX5_worthOf 13 = .ok (.iaload, 1) := by decide +kernel
theorem dX5_worthOf_14 : decode cX5_worthOf 14 = .ok (.goto 4, 3) := by decide +kernel
theorem dX5_worthOf_17 : decode cX5_worthOf 17 = .ok (.iconst 0, 1) := by decide +kernel
theorem dX5_worthOf_18 : decode cX5_worthOf 18 = .ok (.ireturn, 1) := by decide +kernel
theorem dX5_sumOfQualities_0 : decode cX5_sumOfQualities 0 = .ok (.iconst 0, 1) := by decide +kernel
theorem dX5_sumOfQualities_1 : decode cX5_sumOfQualities 1 = .ok (.istore_n 3, 1) := by decide +kernel
theorem dX5_sumOfQualities_2 : decode cX5_sumOfQualities 2 = .ok (.aload_n 0, 1) := by decide +kernel
theorem dX5_sumOfQualities_3 : decode cX5_sumOfQualities 3 = .ok (.getfield 15, 3) := by decide +kernel
theorem dX5_sumOfQualities_6 : decode cX5_sumOfQualities 6 = .ok (.iload_n 2, 1) := by decide +kernel
theorem dX5_sumOfQualities_7 : decode cX5_sumOfQualities 7 = .ok (.iaload, 1) := by decide +kernel
theorem dX5_sumOfQualities_8 : decode cX5_sumOfQualities 8 = .ok (.istore 4, 2) := by decide +kernel
theorem dX5_sumOfQualities_10 : decode cX5_sumOfQualities 10 = .ok (.iload 4, 2) := by decide +kernel
theorem dX5_sumOfQualities_12 : decode cX5_sumOfQualities 12 = .ok (.aload_n 0, 1) := by decide +kernel
theorem dX5_sumOfQualities_13 : decode cX5_sumOfQualities 13 = .ok (.getfield 18, 3) := by decide +kernel
theorem dX5_sumOfQualities_16 : decode cX5_sumOfQualities 16 = .ok (.iload_n 2, 1) := by decide +kernel
theorem dX5_sumOfQualities_17 : decode cX5_sumOfQualities 17 = .ok (.iaload, 1) := by decide +kernel
theorem dX5_sumOfQualities_18 : decode cX5_sumOfQualities 18 = .ok (.if_icmp .ge 19, 3) := by decide +kernel
theorem dX5_sumOfQualities_21 : decode cX5_sumOfQualities 21 = .ok (.iload_n 3, 1) := by decide +kernel
theorem dX5_sumOfQualities_22 : decode cX5_sumOfQualities 22 = .ok (.aload_n 1, 1) := by decide +kernel
theorem dX5_sumOfQualities_23 : decode cX5_sumOfQualities 23 = .ok (.iload_n 2, 1) := by decide +kernel
theorem dX5_sumOfQualities_24 : decode cX5_sumOfQualities 24 = .ok (.iload 4, 2) := by decide +kernel
theorem dX5_sumOfQualities_26 : decode cX5_sumOfQualities 26 = .ok (.invokevirtual 96, 3) := by decide +kernel
theorem dX5_sumOfQualities_29 : decode cX5_sumOfQualities 29 = .ok (.iadd, 1) := by decide +kernel
theorem dX5_sumOfQualities_30 : decode cX5_sumOfQualities 30 = .ok (.istore_n 3, 1) := by decide +kernel
theorem dX5_sumOfQualities_31 : decode cX5_sumOfQualities 31 = .ok (.iinc 4 1, 3) := by decide +kernel
theorem dX5_sumOfQualities_34 : decode cX5_sumOfQualities 34 = .ok (.goto (-24), 3) := by decide +kernel
theorem dX5_sumOfQualities_37 : decode cX5_sumOfQualities 37 = .ok (.iload_n 3, 1) := by decide +kernel
theorem dX5_sumOfQualities_38 : decode cX5_sumOfQualities 38 = .ok (.ireturn, 1) := by decide +kernel
theorem dX6_init_0 : decode cX6_init 0 = .ok (.aload_n 0, 1) := by decide +kernel
theorem dX6_init_1 : decode cX6_init 1 = .ok (.invokespecial 3, 3) := by decide +kernel
theorem dX6_init_4 : decode cX6_init 4 = .ok (.aload_n 0, 1) := by decide +kernel
theorem dX6_init_5 : decode cX6_init 5 = .ok (.new 9, 3) := by decide +kernel
theorem dX6_init_8 : decode cX6_init 8 = .ok (.dup, 1) := by decide +kernel
theorem dX6_init_9 : decode cX6_init 9 = .ok (.bipush 30, 2) := by decide +kernel
theorem dX6_init_11 : decode cX6_init 11 = .ok (.invokespecial 11, 3) := by decide +kernel
theorem dX6_init_14 : decode cX6_init 14 = .ok (.putfield 14, 3) := by decide +kernel
theorem dX6_init_17 : decode cX6_init 17 = .ok (.aload_n 0, 1) := by decide +kernel
theorem dX6_init_18 : decode cX6_init 18 = .ok (.iconst 1, 1) := by decide +kernel
theorem dX6_init_19 : decode cX6_init 19 = .ok (.putfield 20, 3) := by decide +kernel
theorem dX6_init_22 : decode cX6_init 22 = .ok (.return_, 1) := by decide +kernel
theorem dX6_takeAdapter_0 : decode cX6_takeAdapter 0 = .ok (.aload_n 1, 1) := by decide +kernel
theorem dX6_takeAdapter_1 : decode cX6_takeAdapter 1 = .ok (.invokevirtual 24, 3) := by decide +kernel
theorem dX6_takeAdapter_4 : decode cX6_takeAdapter 4 = .ok (.ifCond .eq 15, 3) := by decide +kernel
theorem dX6_takeAdapter_7 : decode cX6_takeAdapter 7 = .ok (.aload_n 1, 1) := by decide +kernel
theorem dX6_takeAdapter_8 : decode cX6_takeAdapter 8 = .ok (.iconst 3, 1) := by decide +kernel
theorem dX6_takeAdapter_9 : decode cX6_takeAdapter 9 = .ok (.bipush 30, 2) := by decide +kernel
theorem dX6_takeAdapter_11 : decode cX6_takeAdapter 11 = .ok (.invokevirtual 28, 3) := by decide +kernel
theorem dX6_takeAdapter_14 : decode cX6_takeAdapter 14 = .ok (.ifCond .ne 5, 3) := by decide +kernel
theorem dX6_takeAdapter_17 : decode cX6_takeAdapter 17 = .ok (.iconst (-1), 1) := by decide +kernel
theorem dX6_takeAdapter_18 : decode cX6_takeAdapter 18 = .ok (.ireturn, 1) := by decide +kernel
theorem dX6_takeAdapter_19 : decode cX6_takeAdapter 19 = .ok (.aload_n 0, 1) := by decide +kernel
theorem dX6_takeAdapter_20 : decode cX6_takeAdapter 20 = .ok (.getfield 14, 3) := by decide +kernel
theorem dX6_takeAdapter_23 : decode cX6_takeAdapter 23 = .ok (.aload_n 1, 1) := by decide +kernel
theorem dX6_takeAdapter_24 : decode cX6_takeAdapter 24 = .ok (.invokevirtual 32, 3) := by decide +kernel
theorem dX6_takeAdapter_27 : decode cX6_takeAdapter 27 = .ok (.aload_n 0, 1) := by decide +kernel
theorem dX6_takeAdapter_28 : decode cX6_takeAdapter 28 = .ok (.getfield 14, 3) := by decide +kernel
theorem dX6_takeAdapter_31 : decode cX6_takeAdapter 31 = .ok (.invokevirtual 24, 3) := by decide +kernel
theorem dX6_takeAdapter_34 : decode cX6_takeAdapter 34 = .ok (.ireturn, 1) := by decide +kernel
theorem dX6_setLimits_0 : decode cX6_setLimits 0 = .ok (.aload_n 0, 1) := by decide +kernel
theorem dX6_setLimits_1 : decode cX6_setLimits 1 = .ok (.iload_n 1, 1) := by decide +kernel
theorem dX6_setLimits_2 : decode cX6_setLimits 2 = .ok (.putfield 36, 3) := by decide +kernel
theorem dX6_setLimits_5 : decode cX6_setLimits 5 = .ok (.aload_n 0, 1) := by decide +kernel
theorem dX6_setLimits_6 : decode cX6_setLimits 6 = .ok (.iload_n 2, 1) := by decide +kernel
theorem dX6_setLimits_7 : decode cX6_setLimits 7 = .ok (.putfield 39, 3) := by decide +kernel
theorem dX6_setLimits_10 : decode cX6_setLimits 10 = .ok (.aload_n 0, 1) := by decide +kernel
theorem dX6_setLimits_11 : decode cX6_setLimits 11 = .ok (.iload_n 3, 1) := by decide +kernel
theorem dX6_setLimits_12 : decode cX6_setLimits 12 = .ok (.putfield 20, 3) := by decide +kernel
theorem dX6_setLimits_15 : decode cX6_setLimits 15 = .ok (.return_, 1) := by decide +kernel
theorem dX6_begin_0 : decode cX6_begin 0 = .ok (.aload_n 0, 1) := by decide +kernel
theorem dX6_begin_1 : decode cX6_begin 1 = .ok (.getfield 42, 3) := by decide +kernel
theorem dX6_begin_4 : decode cX6_begin 4 = .ok (.ireturn, 1) := by decide +kernel
theorem dX6_end_0 : decode cX6_end 0 = .ok (.aload_n 0, 1) := by decide +kernel
theorem dX6_end_1 : decode cX6_end 1 = .ok (.getfield 45, 3) := by decide +kernel
theorem dX6_end_4 : decode cX6_end 4 = .ok (.ireturn, 1) := by decide +kernel
theorem dX6_isTooShort_0 : decode cX6_isTooShort 0 = .ok (.aload_n 0, 1) := by decide +kernel
theorem dX6_isTooShort_1 : decode cX6_isTooShort 1 = .ok (.getfield 45, 3) := by decide +kernel
theorem dX6_isTooShort_4 : decode cX6_isTooShort 4 = .ok (.aload_n 0, 1) := by decide +kernel
theorem dX6_isTooShort_5 : decode cX6_isTooShort 5 = .ok (.getfield 42, 3) := by decide +kernel
theorem dX6_isTooShort_8 : decode cX6_isTooShort 8 = .ok (.isub, 1) := by decide +kernel
theorem dX6_isTooShort_9 : decode cX6_isTooShort 9 = .ok (.aload_n 0, 1) := by decide +kernel
theorem dX6_isTooShort_10 : decode cX6_isTooShort 10 = .ok (.getfield 20, 3) := by decide +kernel
theorem dX6_isTooShort_13 : decode cX6_isTooShort 13 = .ok (.if_icmp .ge 7, 3) := by decide +kernel
theorem dX6_isTooShort_16 : decode cX6_isTooShort 16 = .ok (.iconst 1, 1) := by decide +kernel
theorem dX6_isTooShort_17 : decode cX6_isTooShort 17 = .ok (.goto 4, 3) := by decide +kernel
theorem dX6_isTooShort_20 : decode cX6_isTooShort 20 = .ok (.iconst 0, 1) := by decide +kernel
theorem dX6_isTooShort_21 : decode cX6_isTooShort 21 = .ok (.ireturn, 1) := by decide +kernel
theorem dX6_cut_0 : decode cX6_cut 0 = .ok (.aload_n 0, 1) := by decide +kernel
theorem dX6_cut_1 : decode cX6_cut 1 = .ok (.iload_n 3, 1) := by decide +kernel
theorem dX6_cut_2 : decode cX6_cut 2 = .ok (.putfield 42, 3) := by decide +kernel
theorem dX6_cut_5 : decode cX6_cut 5 = .ok (.aload_n 0, 1) := by decide +kernel
theorem dX6_cut_6 : decode cX6_cut 6 = .ok (.aload_n 1, 1) := by decide +kernel
theorem dX6_cut_7 : decode cX6_cut 7 = .ok (.iload_n 2, 1) := by decide +kernel
theorem dX6_cut_8 : decode cX6_cut 8 = .ok (.invokevirtual 48, 3) := by decide +kernel
theorem dX6_cut_11 : decode cX6_cut 11 = .ok (.putfield 45, 3) := by decide +kernel
theorem dX6_cut_14 : decode cX6_cut 14 = .ok (.aload_n 0, 1) := by decide +kernel
theorem dX6_cut_15 : decode cX6_cut 15 = .ok (.aload_n 1, 1) := by decide +kernel
theorem dX6_cut_16 : decode cX6_cut 16 = .ok (.iload_n 2, 1) := by decide +kernel
theorem dX6_cut_17 : decode cX6_cut 17 = .ok (.invokevirtual 54, 3) := by decide +kernel
theorem dX6_cut_20 : decode cX6_cut 20 = .ok (.aload_n 0, 1) := by decide +kernel
theorem dX6_cut_21 : decode cX6_cut 21 = .ok (.aload_n 1, 1) := by decide +kernel
theorem dX6_cut_22 : decode cX6_cut 22 = .ok (.iload_n 2, 1) := by decide +kernel
theorem dX6_cut_23 : decode cX6_cut 23 = .ok (.invokevirtual 58, 3) := by decide +kernel
theorem dX6_cut_26 : decode cX6_cut 26 = .ok (.aload_n 0, 1) := by decide +kernel
theorem dX6_cut_27 : decode cX6_cut 27 = .ok (.aload_n 1, 1) := by decide +kernel
theorem dX6_cut_28 : decode cX6_cut 28 = .ok (.iload_n 2, 1) := by decide +kernel
theorem dX6_cut_29 : decode cX6_cut 29 = .ok (.invokevirtual 61, 3) := by decide +kernel
theorem dX6_cut_32 : decode cX6_cut 32 = .ok (.aload_n 0, 1) := by decide +kernel
theorem dX6_cut_33 : decode cX6_cut 33 = .ok (.aload_n 1, 1) := by decide +kernel
theorem dX6_cut_34 : decode cX6_cut 34 = .ok (.iload_n 2, 1) := by decide +kernel
theorem dX6_cut_35 : decode cX6_cut 35 = .ok (.invokevirtual 64, 3) := by decide +kernel
theorem dX6_cut_38 : decode cX6_cut 38 = .ok (.return_, 1) := by decide +kernel
theorem dX6_cutAdapter_0 : decode cX6_cutAdapter 0 = .ok (.aload_n 0, 1) := by decide +kernel
theorem dX6_cutAdapter_1 : decode cX6_cutAdapter 1 = .ok (.getfield 14, 3) := by decide +kernel
theorem dX6_cutAdapter_4 : decode cX6_cutAdapter 4 = .ok (.invokevirtual 24, 3) := by decide +kernel
theorem dX6_cutAdapter_7 : decode cX6_cutAdapter 7 = .ok (.ifCond .ne 4, 3) := by decide +kernel
theorem dX6_cutAdapter_10 : decode cX6_cutAdapter 10 = .ok (.return_, 1) := by decide +kernel
theorem dX6_cutAdapter_11 : decode cX6_cutAdapter 11 = .ok (.aload_n 0, 1) := by decide +kernel
theorem dX6_cutAdapter_12 : decode cX6_cutAdapter 12 = .ok (.getfield 42, 3) := by decide +kernel
theorem dX6_cutAdapter_15 : decode cX6_cutAdapter 15 = .ok (.istore_n 3, 1) := by decide +kernel
theorem dX6_cutAdapter_16 : decode cX6_cutAdapter 16 = .ok (.iload_n 3, 1) := by decide +kernel
theorem dX6_cutAdapter_17 : decode cX6_cutAdapter 17 = .ok (.aload_n 0, 1) := by decide +kernel
theorem dX6_cutAdapter_18 : decode cX6_cutAdapter 18 = .ok (.getfield 45, 3) := by decide +kernel
theorem dX6_cutAdapter_21 : decode cX6_cutAdapter 21 = .ok (.iconst 3, 1) := by decide +kernel
theorem dX6_cutAdapter_22 : decode cX6_cutAdapter 22 = .ok (.isub, 1) := by decide +kernel
theorem dX6_cutAdapter_23 : decode cX6_cutAdapter 23 = .ok (.if_icmp .gt 25, 3) := by decide +kernel
theorem dX6_cutAdapter_26 : decode cX6_cutAdapter 26 = .ok (.aload_n 0, 1) := by decide +kernel
theorem dX6_cutAdapter_27 : decode cX6_cutAdapter 27 = .ok (.aload_n 1, 1) := by decide +kernel
theorem dX6_cutAdapter_28 : decode cX6_cutAdapter 28 = .ok (.iload_n 2, 1) := by decide +kernel
theorem dX6_cutAdapter_29 : decode cX6_cutAdapter 29 = .ok (.iload_n 3, 1) := by decide +kernel
theorem dX6_cutAdapter_30 : decode cX6_cutAdapter 30 = .ok (.invokevirtual 67, 3) := by decide +kernel
theorem dX6_cutAdapter_33 : decode cX6_cutAdapter 33 = .ok (.ifCond .eq 9, 3) := by decide +kernel
theorem dX6_cutAdapter_36 : decode cX6_cutAdapter 36 = .ok (.aload_n 0, 1) := by decide +kernel
theorem dX6_cutAdapter_37 : decode cX6_cutAdapter 37 = .ok (.iload_n 3, 1) := by decide +kernel
theorem dX6_cutAdapter_38 : decode cX6_cutAdapter 38 = .ok (.putfield 45, 3) := by decide +kernel
theorem dX6_cutAdapter_41 : decode cX6_cutAdapter 41 = .ok (.return_, 1) := by decide +kernel
theorem dX6_cutAdapter_42 : decode cX6_cutAdapter 42 = .ok (.iinc 3 1, 3) := by decide +kernel
theorem dX6_cutAdapter_45 : decode cX6_cutAdapter 45 = .ok (.goto (-29), 3) := by decide +kernel
theorem dX6_cutAdapter_48 : decode cX6_cutAdapter 48 = .ok (.return_, 1) := by decide +kernel
theorem dX6_adapterBegins_0 : decode cX6_adapterBegins 0 = .ok (.aload_n 0, 1) := by decide +kernel
theorem dX6_adapterBegins_1 : decode cX6_adapterBegins 1 = .ok (.getfield 14, 3) := by decide +kernel
theorem dX6_adapterBegins_4 : decode cX6_adapterBegins 4 = .ok (.invokevirtual 24, 3) := by decide +kernel
theorem dX6_adapterBegins_7 : decode cX6_adapterBegins 7 = .ok (.aload_n 0, 1) := by decide +kernel
theorem dX6_adapterBegins_8 : decode cX6_adapterBegins 8 = .ok (.getfield 45, 3) := by decide +kernel
theorem dX6_adapterBegins_11 : decode cX6_adapterBegins 11 = .ok (.iload_n 3, 1) := by decide +kernel
theorem dX6_adapterBegins_12 : decode cX6_adapterBegins 12 = .ok (.isub, 1) := by decide +kernel
theorem dX6_adapterBegins_13 : decode cX6_adapterBegins 13 = .ok (.invokestatic 71, 3) := by decide +kernel
theorem dX6_adapterBegins_16 : decode cX6_adapterBegins 16 = .ok (.istore 4, 2) := by decide +kernel
theorem dX6_adapterBegins_18 : decode cX6_adapterBegins 18 = .ok (.iload 4, 2) := by decide +kernel
theorem dX6_adapterBegins_20 : decode cX6_adapterBegins 20 = .ok (.iconst 5, 1) := by decide +kernel
theorem dX6_adapterBegins_21 : decode cX6_adapterBegins 21 = .ok (.idiv, 1) := by decide +kernel
theorem dX6_adapterBegins_22 : decode cX6_adapterBegins 22 = .ok (.istore 5, 2) := by decide +kernel
theorem dX6_adapterBegins_24 : decode cX6_adapterBegins 24 = .ok (.iconst 0, 1) := by decide +kernel
theorem dX6_adapterBegins_25 : decode cX6_adapterBegins 25 = .ok (.istore 6, 2) := by decide +kernel
theorem dX6_adapterBegins_27 : decode cX6_adapterBegins 27 = .ok (.iconst 0, 1) := by decide +kernel
theorem dX6_adapterBegins_28 : decode cX6_adapterBegins 28 = .ok (.istore 7, 2) := by decide +kernel
theorem dX6_adapterBegins_30 : decode cX6_adapterBegins 30 = .ok (.iload 7, 2) := by decide +kernel
theorem dX6_adapterBegins_32 : decode cX6_adapterBegins 32 = .ok (.iload 4, 2) := by decide +kernel
theorem dX6_adapterBegins_34 : decode cX6_adapterBegins 34 = .ok (.if_icmp .ge 40, 3) := by decide +kernel
theorem dX6_adapterBegins_37 : decode cX6_adapterBegins 37 = .ok (.iload 6, 2) := by decide +kernel
theorem dX6_adapterBegins_39 : decode cX6_adapterBegins 39 = .ok (.iload 5, 2) := by decide +kernel
theorem dX6_adapterBegins_41 : decode cX6_adapterBegins 41 = .ok (.if_icmp .gt 33, 3) := by decide +kernel
theorem dX6_adapterBegins_44 : decode cX6_adapterBegins 44 = .ok (.aload_n 0, 1) := by decide +kernel
theorem dX6_adapterBegins_45 : decode cX6_adapterBegins 45 = .ok (.getfield 14, 3) := by decide +kernel
theorem dX6_adapterBegins_48 : decode cX6_adapterBegins 48 = .ok (.iload 7, 2) := by decide +kernel
theorem dX6_adapterBegins_50 : decode cX6_adapterBegins 50 = .ok (.invokevirtual 77, 3) := by decide +kernel
theorem dX6_adapterBegins_53 : decode cX6_adapterBegins 53 = .ok (.aload_n 1, 1) := by decide +kernel
theorem dX6_adapterBegins_54 : decode cX6_adapterBegins 54 = .ok (.iload_n 2, 1) := by decide +kernel
theorem dX6_adapterBegins_55 : decode cX6_adapterBegins 55 = .ok (.iload_n 3, 1) := by decide +kernel
theorem dX6_adapterBegins_56 : decode cX6_adapterBegins 56 = .ok (.iload 7, 2) := by decide +kernel
theorem dX6_adapterBegins_58 : decode cX6_adapterBegins 58 = .ok (.iadd, 1) := by decide +kernel
theorem dX6_adapterBegins_59 : decode cX6_adapterBegins 59 = .ok (.invokevirtual 80, 3) := by decide +kernel
theorem dX6_adapterBegins_62 : decode cX6_adapterBegins 62 = .ok (.if_icmp .eq 6, 3) := by decide +kernel
theorem dX6_adapterBegins_65 : decode cX6_adapterBegins 65 = .ok (.iinc 6 1, 3) := by decide +kernel
theorem dX6_adapterBegins_68 : decode cX6_adapterBegins 68 = .ok (.iinc 7 1, 3) := by decide +kernel
theorem dX6_adapterBegins_71 : decode cX6_adapterBegins 71 = .ok (.goto (-41), 3) := by decide +kernel
theorem dX6_adapterBegins_74 : decode cX6_adapterBegins 74 = .ok (.iload 6, 2) := by decide +kernel
theorem dX6_adapterBegins_76 : decode cX6_adapterBegins 76 = .ok (.iload 5, 2) := by decide +kernel
theorem dX6_adapterBegins_78 : decode cX6_adapterBegins 78 = .ok (.if_icmp .gt 7, 3) := by decide +kernel
theorem dX6_adapterBegins_81 : decode cX6_adapterBegins 81 = .ok (.iconst 1, 1) := by decide +kernel
theorem dX6_adapterBegins_82 : decode cX6_adapterBegins 82 = .ok (.goto 4, 3) := by decide +kernel
theorem dX6_adapterBegins_85 : decode cX6_adapterBegins 85 = .ok (.iconst 0, 1) := by decide +kernel
theorem dX6_adapterBegins_86 : decode cX6_adapterBegins 86 = .ok (.ireturn, 1) := by decide +kernel
theorem dX6_cutWorstEnd_0 : decode cX6_cutWorstEnd 0 = .ok (.iconst 0, 1) := by decide +kernel
theorem dX6_cutWorstEnd_1 : decode cX6_cutWorstEnd 1 = .ok (.istore_n 3, 1) := by decide +kernel
theorem dX6_cutWorstEnd_2 : decode cX6_cutWorstEnd 2 = .ok (.iconst 0, 1) := by decide +kernel
theorem dX6_cutWorstEnd_3 : decode cX6_cutWorstEnd 3 = .ok (.istore 4, 2) := by decide +kernel
theorem dX6_cutWorstEnd_5 : decode cX6_cutWorstEnd 5 = .ok (.aload_n 0, 1) := by decide +kernel
theorem dX6_cutWorstEnd_6 : decode cX6_cutWorstEnd 6 = .ok (.getfield 45, 3) := by decide +kernel
theorem dX6_cutWorstEnd_9 : decode cX6_cutWorstEnd 9 = .ok (.istore 5, 2) := by decide +kernel
theorem dX6_cutWorstEnd_11 : decode cX6_cutWorstEnd 11 = .ok (.aload_n 0, 1) := by decide +kernel
theorem dX6_cutWorstEnd_12 : decode cX6_cutWorstEnd 12 = .ok (.getfield 45, 3) := by decide +kernel
theorem dX6_cutWorstEnd_15 : decode cX6_cutWorstEnd 15 = .ok (.iconst 1, 1) := by decide +kernel
theorem dX6_cutWorstEnd_16 : decode cX6_cutWorstEnd 16 = .ok (.isub, 1) := by decide +kernel
theorem dX6_cutWorstEnd_17 : decode cX6_cutWorstEnd 17 = .ok (.istore 6, 2) := by decide +kernel
theorem dX6_cutWorstEnd_19 : decode cX6_cutWorstEnd 19 = .ok (.iload 6, 2) := by decide +kernel
theorem dX6_cutWorstEnd_21 : decode cX6_cutWorstEnd 21 = .ok (.aload_n 0, 1) := by decide +kernel
theorem dX6_cutWorstEnd_22 : decode cX6_cutWorstEnd 22 = .ok (.getfield 42, 3) := by decide +kernel
theorem dX6_cutWorstEnd_25 : decode cX6_cutWorstEnd 25 = .ok (.if_icmp .lt 41, 3) := by decide +kernel
theorem dX6_cutWorstEnd_28 : decode cX6_cutWorstEnd 28 = .ok (.iload_n 3, 1) := by decide +kernel
theorem dX6_cutWorstEnd_29 : decode cX6_cutWorstEnd 29 = .ok (.ifCond .lt 37, 3) := by decide +kernel
theorem dX6_cutWorstEnd_32 : decode cX6_cutWorstEnd 32 = .ok (.iload_n 3, 1) := by decide +kernel
theorem dX6_cutWorstEnd_33 : decode cX6_cutWorstEnd 33 = .ok (.aload_n 0, 1) := by decide +kernel
theorem dX6_cutWorstEnd_34 : decode cX6_cutWorstEnd 34 = .ok (.getfield 39, 3) := by decide +kernel
theorem dX6_cutWorstEnd_37 : decode cX6_cutWorstEnd 37 = .ok (.aload_n 1, 1) := by decide +kernel
theorem dX6_cutWorstEnd_38 : decode cX6_cutWorstEnd 38 = .ok (.iload_n 2, 1) := by decide +kernel
theorem dX6_cutWorstEnd_39 : decode cX6_cutWorstEnd 39 = .ok (.iload 6, 2) := by decide +kernel
theorem dX6_cutWorstEnd_41 : decode cX6_cutWorstEnd 41 = .ok (.invokevirtual 83, 3) := by decide +kernel
theorem dX6_cutWorstEnd_44 : decode cX6_cutWorstEnd 44 = .ok (.isub, 1) := by decide +kernel
theorem dX6_cutWorstEnd_45 : decode cX6_cutWorstEnd 45 = .ok (.iadd, 1) := by decide +kernel
theorem dX6_cutWorstEnd_46 : decode cX6_cutWorstEnd 46 = .ok (.istore_n 3, 1) := by decide +kernel
theorem dX6_cutWorstEnd_47 : decode cX6_cutWorstEnd 47 = .ok (.iload_n 3, 1) := by decide +kernel
theorem dX6_cutWorstEnd_48 : decode cX6_cutWorstEnd 48 = .ok (.iload 4, 2) := by decide +kernel
theorem dX6_cutWorstEnd_50 : decode cX6_cutWorstEnd 50 = .ok (.if_icmp .le 10, 3) := by decide +kernel
theorem dX6_cutWorstEnd_53 : decode cX6_cutWorstEnd 53 = .ok (.iload_n 3, 1) := by decide +kernel
theorem dX6_cutWorstEnd_54 : decode cX6_cutWorstEnd 54 = .ok (.istore 4, 2) := by decide +kernel
theorem dX6_cutWorstEnd_56 : decode cX6_cutWorstEnd 56 = .ok (.iload 6, 2) := by decide +kernel
theorem dX6_cutWorstEnd_58 : decode cX6_cutWorstEnd 58 = .ok (.istore 5, 2) := by decide +kernel
theorem dX6_cutWorstEnd_60 : decode cX6_cutWorstEnd 60 = .ok (.iinc 6 (-1), 3) := by decide +kernel
theorem dX6_cutWorstEnd_63 : decode cX6_cutWorstEnd 63 = .ok (.goto (-44), 3) := by decide +kernel
theorem dX6_cutWorstEnd_66 : decode cX6_cutWorstEnd 66 = .ok (.aload_n 0, 1) := by decide +kernel
theorem dX6_cutWorstEnd_67 : decode cX6_cutWorstEnd 67 = .ok (.iload 5, 2) := by decide +kernel
theorem dX6_cutWorstEnd_69 : decode cX6_cutWorstEnd 69 = .ok (.putfield 45, 3) := by decide +kernel
theorem dX6_cutWorstEnd_72 : decode cX6_cutWorstEnd 72 = .ok (.return_, 1) := by decide +kernel
theorem dX6_cutWorstBegin_0 : decode cX6_cutWorstBegin 0 = .ok (.iconst 0, 1) := by decide +kernel
theorem dX6_cutWorstBegin_1 : decode cX6_cutWorstBegin 1 = .ok (.istore_n 3, 1) := by decide +kernel
theorem dX6_cutWorstBegin_2 : decode cX6_cutWorstBegin 2 = .ok (.iconst 0, 1) := by decide +kernel
theorem dX6_cutWorstBegin_3 : decode cX6_cutWorstBegin 3 = .ok (.istore 4, 2) := by decide +kernel
theorem dX6_cutWorstBegin_5 : decode cX6_cutWorstBegin 5 = .ok (.aload_n 0, 1) := by decide +kernel
theorem dX6_cutWorstBegin_6 : decode cX6_cutWorstBegin 6 = .ok (.getfield 42, 3) := by decide +kernel
theorem dX6_cutWorstBegin_9 : decode cX6_cutWorstBegin 9 = .ok (.istore 5, 2) := by decide +kernel
theorem dX6_cutWorstBegin_11 : decode cX6_cutWorstBegin 11 = .ok (.aload_n 0, 1) := by decide +kernel
theorem dX6_cutWorstBegin_12 : decode cX6_cutWorstBegin 12 = .ok (.getfield 42, 3) := by decide +kernel
theorem dX6_cutWorstBegin_15 : decode cX6_cutWorstBegin 15 = .ok (.istore 6, 2) := by decide +kernel
theorem dX6_cutWorstBegin_17 : decode cX6_cutWorstBegin 17 = .ok (.iload 6, 2) := by decide +kernel
theorem dX6_cutWorstBegin_19 : decode cX6_cutWorstBegin 19 = .ok (.aload_n 0, 1) := by decide +kernel
theorem dX6_cutWorstBegin_20 : decode cX6_cutWorstBegin 20 = .ok (.getfield 45, 3) := by decide +kernel
theorem dX6_cutWorstBegin_23 : decode cX6_cutWorstBegin 23 = .ok (.if_icmp .ge 43, 3) := by decide +kernel
theorem dX6_cutWorstBegin_26 : decode cX6_cutWorstBegin 26 = .ok (.iload_n 3, 1) := by decide +kernel
theorem dX6_cutWorstBegin_27 : decode cX6_cutWorstBegin 27 = .ok (.ifCond .lt 39, 3) := by decide +kernel
theorem dX6_cutWorstBegin_30 : decode cX6_cutWorstBegin 30 = .ok (.iload_n 3, 1) := by decide +kernel
theorem dX6_cutWorstBegin_31 : decode cX6_cutWorstBegin 31 = .ok (.aload_n 0, 1) := by decide +kernel
theorem dX6_cutWorstBegin_32 : decode cX6_cutWorstBegin 32 = .ok (.getfield 36, 3) := by decide +kernel
theorem dX6_cutWorstBegin_35 : decode cX6_cutWorstBegin 35 = .ok (.aload_n 1, 1) := by decide +kernel
theorem dX6_cutWorstBegin_36 : decode cX6_cutWorstBegin 36 = .ok (.iload_n 2, 1) := by decide +kernel
theorem dX6_cutWorstBegin_37 : decode cX6_cutWorstBegin 37 = .ok (.iload 6, 2) := by decide +kernel
theorem dX6_cutWorstBegin_39 : decode cX6_cutWorstBegin 39 = .ok (.invokevirtual 83, 3) := by decide +kernel
theorem dX6_cutWorstBegin_42 : decode cX6_cutWorstBegin 42 = .ok (.isub, 1) := by decide +kernel
theorem dX6_cutWorstBegin_43 : decode cX6_cutWorstBegin 43 = .ok (.iadd, 1) := by decide +kernel
theorem dX6_cutWorstBegin_44 : decode cX6_cutWorstBegin 44 = .ok (.istore_n 3, 1) := by decide +kernel
theorem dX6_cutWorstBegin_45 : decode cX6_cutWorstBegin 45 = .ok (.iload_n 3, 1) := by decide +kernel
theorem dX6_cutWorstBegin_46 : decode cX6_cutWorstBegin 46 = .ok (.iload 4, 2) := by decide +kernel
theorem dX6_cutWorstBegin_48 : decode cX6_cutWorstBegin 48 = .ok (.if_icmp .le 12, 3) := by decide +kernel
theorem dX6_cutWorstBegin_51 : decode cX6_cutWorstBegin 51 = .ok (.iload_n 3, 1) := by decide +kernel
theorem dX6_cutWorstBegin_52 : decode cX6_cutWorstBegin 52 = .ok (.istore 4, 2) := by decide +kernel
theorem dX6_cutWorstBegin_54 : decode cX6_cutWorstBegin 54 = .ok (.iload 6, 2) := by decide +kernel
theorem dX6_cutWorstBegin_56 : decode cX6_cutWorstBegin 56 = .ok (.iconst 1, 1) := by decide +kernel
theorem dX6_cutWorstBegin_57 : decode cX6_cutWorstBegin 57 = .ok (.iadd, 1) := by decide +kernel
theorem dX6_cutWorstBegin_58 : decode cX6_cutWorstBegin 58 = .ok (.istore 5, 2) := by decide +kernel
theorem dX6_cutWorstBegin_60 : decode cX6_cutWorstBegin 60 = .ok (.iinc 6 1, 3) := by decide +kernel
theorem dX6_cutWorstBegin_63 : decode cX6_cutWorstBegin 63 = .ok (.goto (-46), 3) := by decide +kernel
theorem dX6_cutWorstBegin_66 : decode cX6_cutWorstBegin 66 = .ok (.aload_n 0, 1) := by decide +kernel
theorem dX6_cutWorstBegin_67 : decode cX6_cutWorstBegin 67 = .ok (.iload 5, 2) := by decide +kernel
theorem dX6_cutWorstBegin_69 : decode cX6_cutWorstBegin 69 = .ok (.putfield 42, 3) := by decide +kernel
theorem dX6_cutWorstBegin_72 : decode cX6_cutWorstBegin 72 = .ok (.return_, 1) := by decide +kernel
theorem dX6_cutUnknown_0 : decode cX6_cutUnknown 0 = .ok (.aload_n 0, 1) := by decide +kernel
theorem dX6_cutUnknown_1 : decode cX6_cutUnknown 1 = .ok (.getfield 42, 3) := by decide +kernel
theorem dX6_cutUnknown_4 : decode cX6_cutUnknown 4 = .ok (.aload_n 0, 1) := by decide +kernel
theorem dX6_cutUnknown_5 : decode cX6_cutUnknown 5 = .ok (.getfield 45, 3) := by decide +kernel
theorem dX6_cutUnknown_8 : decode cX6_cutUnknown 8 = .ok (.if_icmp .ge 30, 3) := by decide +kernel
theorem dX6_cutUnknown_11 : decode cX6_cutUnknown 11 = .ok (.aload_n 1, 1) := by decide +kernel
theorem dX6_cutUnknown_12 : decode cX6_cutUnknown 12 = .ok (.iload_n 2, 1) := by decide +kernel
theorem dX6_cutUnknown_13 : decode cX6_cutUnknown 13 = .ok (.aload_n 0, 1) := by decide +kernel
theorem dX6_cutUnknown_14 : decode cX6_cutUnknown 14 = .ok (.getfield 42, 3) := by decide +kernel
theorem dX6_cutUnknown_17 : decode cX6_cutUnknown 17 = .ok (.invokevirtual 80, 3) := by decide +kernel
theorem dX6_cutUnknown_20 : decode cX6_cutUnknown 20 = .ok (.bipush 78, 2) := by decide +kernel
theorem dX6_cutUnknown_22 : decode cX6_cutUnknown 22 = .ok (.if_icmp .ne 16, 3) := by decide +kernel
theorem dX6_cutUnknown_25 : decode cX6_cutUnknown 25 = .ok (.aload_n 0, 1) := by decide +kernel
theorem dX6_cutUnknown_26 : decode cX6_cutUnknown 26 = .ok (.dup, 1) := by decide +kernel
theorem dX6_cutUnknown_27 : decode cX6_cutUnknown 27 = .ok (.getfield 42, 3) := by decide +kernel
theorem dX6_cutUnknown_30 : decode cX6_cutUnknown 30 = .ok (.iconst 1, 1) := by decide +kernel
theorem dX6_cutUnknown_31 : decode cX6_cutUnknown 31 = .ok (.iadd, 1) := by decide +kernel
theorem dX6_cutUnknown_32 : decode cX6_cutUnknown 32 = .ok (.putfield 42, 3) := by decide +kernel
theorem dX6_cutUnknown_35 : decode cX6_cutUnknown 35 = .ok (.goto (-35), 3) := by decide +kernel
theorem dX6_cutUnknown_38 : decode cX6_cutUnknown 38 = .ok (.aload_n 0, 1) := by decide +kernel
theorem dX6_cutUnknown_39 : decode cX6_cutUnknown 39 = .ok (.getfield 42, 3) := by decide +kernel
theorem dX6_cutUnknown_42 : decode cX6_cutUnknown 42 = .ok (.aload_n 0, 1) := by decide +kernel
theorem dX6_cutUnknown_43 : decode cX6_cutUnknown 43 = .ok (.getfield 45, 3) := by decide +kernel
theorem dX6_cutUnknown_46 : decode cX6_cutUnknown 46 = .ok (.if_icmp .ge 32, 3) := by decide +kernel
theorem dX6_cutUnknown_49 : decode cX6_cutUnknown 49 = .ok (.aload_n 1, 1) := by decide +kernel
theorem dX6_cutUnknown_50 : decode cX6_cutUnknown 50 = .ok (.iload_n 2, 1) := by decide +kernel
theorem dX6_cutUnknown_51 : decode cX6_cutUnknown 51 = .ok (.aload_n 0, 1) := by decide +kernel
theorem dX6_cutUnknown_52 : decode cX6_cutUnknown 52 = .ok (.getfield 45, 3) := by decide +kernel
theorem dX6_cutUnknown_55 : decode cX6_cutUnknown 55 = .ok (.iconst 1, 1) := by decide +kernel
theorem dX6_cutUnknown_56 : decode cX6_cutUnknown 56 = .ok (.isub, 1) := by decide +kernel
theorem dX6_cutUnknown_57 : decode cX6_cutUnknown 57 = .ok (.invokevirtual 80, 3) := by decide +kernel
theorem dX6_cutUnknown_60 : decode cX6_cutUnknown 60 = .ok (.bipush 78, 2) := by decide +kernel
theorem dX6_cutUnknown_62 : decode cX6_cutUnknown 62 = .ok (.if_icmp .ne 16, 3) := by decide +kernel
theorem dX6_cutUnknown_65 : decode cX6_cutUnknown 65 = .ok (.aload_n 0, 1) := by decide +kernel
theorem dX6_cutUnknown_66 : decode cX6_cutUnknown 66 = .ok (.dup, 1) := by decide +kernel
theorem dX6_cutUnknown_67 : decode cX6_cutUnknown 67 = .ok (.getfield 45, 3) := by decide +kernel
theorem dX6_cutUnknown_70 : decode cX6_cutUnknown 70 = .ok (.iconst 1, 1) := by decide +kernel
theorem dX6_cutUnknown_71 : decode cX6_cutUnknown 71 = .ok (.isub, 1) := by decide +kernel
theorem dX6_cutUnknown_72 : decode cX6_cutUnknown 72 = .ok (.putfield 45, 3) := by decide +kernel
theorem dX6_cutUnknown_75 : decode cX6_cutUnknown 75 = .ok (.goto (-37), 3) := by decide +kernel
theorem dX6_cutUnknown_78 : decode cX6_cutUnknown 78 = .ok (.return_, 1) := by decide +kernel
theorem dX7_sizeOfRead_0 : decode cX7_sizeOfRead 0 = .ok (.iload_n 2, 1) := by decide +kernel
theorem dX7_sizeOfRead_1 : decode cX7_sizeOfRead 1 = .ok (.ifCond .ne 12, 3) := by decide +kernel
theorem dX7_sizeOfRead_4 : decode cX7_sizeOfRead 4 = .ok (.iload_n 0, 1) := by decide +kernel
theorem dX7_sizeOfRead_5 : decode cX7_sizeOfRead 5 = .ok (.iconst 2, 1) := by decide +kernel
theorem dX7_sizeOfRead_6 : decode cX7_sizeOfRead 6 = .ok (.iload_n 1, 1) := by decide +kernel
theorem dX7_sizeOfRead_7 : decode cX7_sizeOfRead 7 = .ok (.imul, 1) := by decide +kernel
theorem dX7_sizeOfRead_8 : decode cX7_sizeOfRead 8 = .ok (.iadd, 1) := by decide +kernel
theorem dX7_sizeOfRead_9 : decode cX7_sizeOfRead 9 = .ok (.bipush 6, 2) := by decide +kernel
theorem dX7_sizeOfRead_11 : decode cX7_sizeOfRead 11 = .ok (.iadd, 1) := by decide +kernel
theorem dX7_sizeOfRead_12 : decode cX7_sizeOfRead 12 = .ok (.ireturn, 1) := by decide +kernel
theorem dX7_sizeOfRead_13 : decode cX7_sizeOfRead 13 = .ok (.iload_n 1, 1) := by decide +kernel
theorem dX7_sizeOfRead_14 : decode cX7_sizeOfRead 14 = .ok (.bipush 60, 2) := by decide +kernel
theorem dX7_sizeOfRead_16 : decode cX7_sizeOfRead 16 = .ok (.iadd, 1) := by decide +kernel
theorem dX7_sizeOfRead_17 : decode cX7_sizeOfRead 17 = .ok (.iconst 1, 1) := by decide +kernel
theorem dX7_sizeOfRead_18 : decode cX7_sizeOfRead 18 = .ok (.isub, 1) := by decide +kernel
theorem dX7_sizeOfRead_19 : decode cX7_sizeOfRead 19 = .ok (.bipush 60, 2) := by decide +kernel
theorem dX7_sizeOfRead_21 : decode cX7_sizeOfRead 21 = .ok (.idiv, 1) := by decide +kernel
theorem dX7_sizeOfRead_22 : decode cX7_sizeOfRead 22 = .ok (.istore_n 3, 1) := by decide +kernel
theorem dX7_sizeOfRead_23 : decode cX7_sizeOfRead 23 = .ok (.iload_n 0, 1) := by decide +kernel
theorem dX7_sizeOfRead_24 : decode cX7_sizeOfRead 24 = .ok (.iload_n 1, 1) := by decide +kernel
theorem dX7_sizeOfRead_25 : decode cX7_sizeOfRead 25 = .ok (.iadd, 1) := by decide +kernel
theorem dX7_sizeOfRead_26 : decode cX7_sizeOfRead 26 = .ok (.iload_n 3, 1) := by decide +kernel
theorem dX7_sizeOfRead_27 : decode cX7_sizeOfRead 27 = .ok (.iadd, 1) := by decide +kernel
theorem dX7_sizeOfRead_28 : decode cX7_sizeOfRead 28 = .ok (.iconst 2, 1) := by decide +kernel
theorem dX7_sizeOfRead_29 : decode cX7_sizeOfRead 29 = .ok (.iadd, 1) := by decide +kernel
theorem dX7_sizeOfRead_30 : decode cX7_sizeOfRead 30 = .ok (.ireturn, 1) := by decide +kernel
theorem dX7_putRead_0 : decode cX7_putRead 0 = .ok (.aload_n 0, 1) := by decide +kernel
theorem dX7_putRead_1 : decode cX7_putRead 1 = .ok (.iload_n 3, 1) := by decide +kernel
theorem dX7_putRead_2 : decode cX7_putRead 2 = .ok (.ifCond .ne 8, 3) := by decide +kernel
theorem dX7_putRead_5 : decode cX7_putRead 5 = .ok (.bipush 64, 2) := by decide +kernel
theorem dX7_putRead_7 : decode cX7_putRead 7 = .ok (.goto 5, 3) := by decide +kernel
theorem dX7_putRead_10 : decode cX7_putRead 10 = .ok (.bipush 62, 2) := by decide +kernel
theorem dX7_putRead_12 : decode cX7_putRead 12 = .ok (.invokevirtual 9, 3) := by decide +kernel
theorem dX7_putRead_15 : decode cX7_putRead 15 = .ok (.aload_n 0, 1) := by decide +kernel
theorem dX7_putRead_16 : decode cX7_putRead 16 = .ok (.aload_n 1, 1) := by decide +kernel
theorem dX7_putRead_17 : decode cX7_putRead 17 = .ok (.iload_n 2, 1) := by decide +kernel
theorem dX7_putRead_18 : decode cX7_putRead 18 = .ok (.invokestatic 15, 3) := by decide +kernel
theorem dX7_putRead_21 : decode cX7_putRead 21 = .ok (.iload_n 3, 1) := by decide +kernel
theorem dX7_putRead_22 : decode cX7_putRead 22 = .ok (.ifCond .ne 38, 3) := by decide +kernel
theorem dX7_putRead_25 : decode cX7_putRead 25 = .ok (.aload_n 0, 1) := by decide +kernel
theorem dX7_putRead_26 : decode cX7_putRead 26 = .ok (.aload_n 1, 1) := by decide +kernel
theorem dX7_putRead_27 : decode cX7_putRead 27 = .ok (.iload_n 2, 1) := by decide +kernel
theorem dX7_putRead_28 : decode cX7_putRead 28 = .ok (.iload 4, 2) := by decide +kernel
theorem dX7_putRead_30 : decode cX7_putRead 30 = .ok (.iload 5, 2) := by decide +kernel
theorem dX7_putRead_32 : decode cX7_putRead 32 = .ok (.invokestatic 21, 3) := by decide +kernel
theorem dX7_putRead_35 : decode cX7_putRead 35 = .ok (.aload_n 0, 1) := by decide +kernel
theorem dX7_putRead_36 : decode cX7_putRead 36 = .ok (.bipush 43, 2) := by decide +kernel
theorem dX7_putRead_38 : decode cX7_putRead 38 = .ok (.invokevirtual 9, 3) := by decide +kernel
theorem dX7_putRead_41 : decode cX7_putRead 41 = .ok (.aload_n 0, 1) := by decide +kernel
theorem dX7_putRead_42 : decode cX7_putRead 42 = .ok (.bipush 10, 2) := by decide +kernel
theorem dX7_putRead_44 : decode cX7_putRead 44 = .ok (.invokevirtual 9, 3) := by decide +kernel
theorem dX7_putRead_47 : decode cX7_putRead 47 = .ok (.aload_n 0, 1) := by decide +kernel
theorem dX7_putRead_48 : decode cX7_putRead 48 = .ok (.aload_n 1, 1) := by decide +kernel
theorem dX7_putRead_49 : decode cX7_putRead 49 = .ok (.iload_n 2, 1) := by decide +kernel
theorem dX7_putRead_50 : decode cX7_putRead 50 = .ok (.iload 4, 2) := by decide +kernel
theorem dX7_putRead_52 : decode cX7_putRead 52 = .ok (.iload 5, 2) := by decide +kernel
theorem dX7_putRead_54 : decode cX7_putRead 54 = .ok (.invokestatic 25, 3) := by decide +kernel
theorem dX7_putRead_57 : decode cX7_putRead 57 = .ok (.goto 38, 3) := by decide +kernel
theorem dX7_putRead_60 : decode cX7_putRead 60 = .ok (.iload 4, 2) := by decide +kernel
theorem dX7_putRead_62 : decode cX7_putRead 62 = .ok (.istore 6, 2) := by decide +kernel
theorem dX7_putRead_64 : decode cX7_putRead 64 = .ok (.iload 6, 2) := by decide +kernel
theorem dX7_putRead_66 : decode cX7_putRead 66 = .ok (.iload 5, 2) := by decide +kernel
theorem dX7_putRead_68 : decode cX7_putRead 68 = .ok (.if_icmp .ge 27, 3) := by decide +kernel
theorem dX7_putRead_71 : decode cX7_putRead 71 = .ok (.aload_n 0, 1) := by decide +kernel
theorem dX7_putRead_72 : decode cX7_putRead 72 = .ok (.aload_n 1, 1) := by decide +kernel
theorem dX7_putRead_73 : decode cX7_putRead 73 = .ok (.iload_n 2, 1) := by decide +kernel
theorem dX7_putRead_74 : decode cX7_putRead 74 = .ok (.iload 6, 2) := by decide +kernel
theorem dX7_putRead_76 : decode cX7_putRead 76 = .ok (.iload 6, 2) := by decide +kernel
theorem dX7_putRead_78 : decode cX7_putRead 78 = .ok (.bipush 60, 2) := by decide +kernel
theorem dX7_putRead_80 : decode cX7_putRead 80 = .ok (.iadd, 1) := by decide +kernel
theorem dX7_putRead_81 : decode cX7_putRead 81 = .ok (.iload 5, 2) := by decide +kernel
theorem dX7_putRead_83 : decode cX7_putRead 83 = .ok (.invokestatic 28, 3) := by decide +kernel
theorem dX7_putRead_86 : decode cX7_putRead 86 = .ok (.invokestatic 21, 3) := by decide +kernel
theorem dX7_putRead_89 : decode cX7_putRead 89 = .ok (.iinc 6 60, 3) := by decide +kernel
theorem dX7_putRead_92 : decode cX7_putRead 92 = .ok (.goto (-28), 3) := by decide +kernel
theorem dX7_putRead_95 : decode cX7_putRead 95 = .ok (.return_, 1) := by decide +kernel
theorem dX7_putName_0 : decode cX7_putName 0 = .ok (.iconst 0, 1) := by decide +kernel
theorem dX7_putName_1 : decode cX7_putName 1 = .ok (.istore_n 3, 1) := by decide +kernel
theorem dX7_putName_2 : decode cX7_putName 2 = .ok (.iload_n 3, 1) := by decide +kernel
theorem dX7_putName_3 : decode cX7_putName 3 = .ok (.aload_n 1, 1) := by decide +kernel
theorem dX7_putName_4 : decode cX7_putName 4 = .ok (.iload_n 2, 1) := by decide +kernel
theorem dX7_putName_5 : decode cX7_putName 5 = .ok (.invokevirtual 34, 3) := by decide +kernel
theorem dX7_putName_8 : decode cX7_putName 8 = .ok (.if_icmp .ge 19, 3) := by decide +kernel
theorem dX7_putName_11 : decode cX7_putName 11 = .ok (.aload_n 0, 1) := by decide +kernel
theorem dX7_putName_12 : decode cX7_putName 12 = .ok (.aload_n 1, 1) := by decide +kernel
theorem dX7_putName_13 : decode cX7_putName 13 = .ok (.iload_n 2, 1) := by decide +kernel
theorem dX7_putName_14 : decode cX7_putName 14 = .ok (.iload_n 3, 1) := by decide +kernel
theorem dX7_putName_15 : decode cX7_putName 15 = .ok (.invokevirtual 40, 3) := by decide +kernel
theorem dX7_putName_18 : decode cX7_putName 18 = .ok (.invokevirtual 9, 3) := by decide +kernel
theorem dX7_putName_21 : decode cX7_putName 21 = .ok (.iinc 3 1, 3) := by decide +kernel
theorem dX7_putName_24 : decode cX7_putName 24 = .ok (.goto (-22), 3) := by decide +kernel
theorem dX7_putName_27 : decode cX7_putName 27 = .ok (.aload_n 0, 1) := by decide +kernel
theorem dX7_putName_28 : decode cX7_putName 28 = .ok (.bipush 10, 2) := by decide +kernel
theorem dX7_putName_30 : decode cX7_putName 30 = .ok (.invokevirtual 9, 3) := by decide +kernel
theorem dX7_putName_33 : decode cX7_putName 33 = .ok (.return_, 1) := by decide +kernel
theorem dX7_putLetters_0 : decode cX7_putLetters 0 = .ok (.iload_n 3, 1) := by decide +kernel
theorem dX7_putLetters_1 : decode cX7_putLetters 1 = .ok (.istore 5, 2) := by decide +kernel
theorem dX7_putLetters_3 : decode cX7_putLetters 3 = .ok (.iload 5, 2) := by decide +kernel
theorem dX7_putLetters_5 : decode cX7_putLetters 5 = .ok (.iload 4, 2) := by decide +kernel
theorem dX7_putLetters_7 : decode cX7_putLetters 7 = .ok (.if_icmp .ge 20, 3) := by decide +kernel
theorem dX7_putLetters_10 : decode cX7_putLetters 10 = .ok (.aload_n 0, 1) := by decide +kernel
theorem dX7_putLetters_11 : decode cX7_putLetters 11 = .ok (.aload_n 1, 1) := by decide +kernel
theorem dX7_putLetters_12 : decode cX7_putLetters 12 = .ok (.iload_n 2, 1) := by decide +kernel
theorem dX7_putLetters_13 : decode cX7_putLetters 13 = .ok (.iload 5, 2) := by decide +kernel
theorem dX7_putLetters_15 : decode cX7_putLetters 15 = .ok (.invokevirtual 43, 3) := by decide +kernel
theorem dX7_putLetters_18 : decode cX7_putLetters 18 = .ok (.invokevirtual 9, 3) := by decide +kernel
theorem dX7_putLetters_21 : decode cX7_putLetters 21 = .ok (.iinc 5 1, 3) := by decide +kernel
theorem dX7_putLetters_24 : decode cX7_putLetters 24 = .ok (.goto (-21), 3) := by decide +kernel
theorem dX7_putLetters_27 : decode cX7_putLetters 27 = .ok (.aload_n 0, 1) := by decide +kernel
theorem dX7_putLetters_28 : decode cX7_putLetters 28 = .ok (.bipush 10, 2) := by decide +kernel
theorem dX7_putLetters_30 : decode cX7_putLetters 30 = .ok (.invokevirtual 9, 3) := by decide +kernel
theorem dX7_putLetters_33 : decode cX7_putLetters 33 = .ok (.return_, 1) := by decide +kernel
theorem dX7_putQualities_0 : decode cX7_putQualities 0 = .ok (.iload_n 3, 1) := by decide +kernel
theorem dX7_putQualities_1 : decode cX7_putQualities 1 = .ok (.istore 5, 2) := by decide +kernel
theorem dX7_putQualities_3 : decode cX7_putQualities 3 = .ok (.iload 5, 2) := by decide +kernel
theorem dX7_putQualities_5 : decode cX7_putQualities 5 = .ok (.iload 4, 2) := by decide +kernel
theorem dX7_putQualities_7 : decode cX7_putQualities 7 = .ok (.if_icmp .ge 23, 3) := by decide +kernel
theorem dX7_putQualities_10 : decode cX7_putQualities 10 = .ok (.aload_n 0, 1) := by decide +kernel
theorem dX7_putQualities_11 : decode cX7_putQualities 11 = .ok (.bipush 33, 2) := by decide +kernel
theorem dX7_putQualities_13 : decode cX7_putQualities 13 = .ok (.aload_n 1, 1) := by decide +kernel
theorem dX7_putQualities_14 : decode cX7_putQualities 14 = .ok (.iload_n 2, 1) := by decide +kernel
theorem dX7_putQualities_15 : decode cX7_putQualities 15 = .ok (.iload 5, 2) := by decide +kernel
theorem dX7_putQualities_17 : decode cX7_putQualities 17 = .ok (.invokevirtual 46, 3) := by decide +kernel
theorem dX7_putQualities_20 : decode cX7_putQualities 20 = .ok (.iadd, 1) := by decide +kernel
theorem dX7_putQualities_21 : decode cX7_putQualities 21 = .ok (.invokevirtual 9, 3) := by decide +kernel
theorem dX7_putQualities_24 : decode cX7_putQualities 24 = .ok (.iinc 5 1, 3) := by decide +kernel
theorem dX7_putQualities_27 : decode cX7_putQualities 27 = .ok (.goto (-24), 3) := by decide +kernel
theorem dX7_putQualities_30 : decode cX7_putQualities 30 = .ok (.aload_n 0, 1) := by decide +kernel
theorem dX7_putQualities_31 : decode cX7_putQualities 31 = .ok (.bipush 10, 2) := by decide +kernel
theorem dX7_putQualities_33 : decode cX7_putQualities 33 = .ok (.invokevirtual 9, 3) := by decide +kernel
theorem dX7_putQualities_36 : decode cX7_putQualities 36 = .ok (.return_, 1) := by decide +kernel
theorem dX8_init_0 : decode cX8_init 0 = .ok (.aload_n 0, 1) := by decide +kernel
theorem dX8_init_1 : decode cX8_init 1 = .ok (.invokespecial 1, 3) := by decide +kernel
theorem dX8_init_4 : decode cX8_init 4 = .ok (.aload_n 0, 1) := by decide +kernel
theorem dX8_init_5 : decode cX8_init 5 = .ok (.new 7, 3) := by decide +kernel
theorem dX8_init_8 : decode cX8_init 8 = .ok (.dup, 1) := by decide +kernel
theorem dX8_init_9 : decode cX8_init 9 = .ok (.sipush 6000, 3) := by decide +kernel
theorem dX8_init_12 : decode cX8_init 12 = .ok (.invokespecial 11, 3) := by decide +kernel
theorem dX8_init_15 : decode cX8_init 15 = .ok (.putfield 14, 3) := by decide +kernel
theorem dX8_init_18 : decode cX8_init 18 = .ok (.aload_n 0, 1) := by decide +kernel
theorem dX8_init_19 : decode cX8_init 19 = .ok (.new 7, 3) := by decide +kernel
theorem dX8_init_22 : decode cX8_init 22 = .ok (.dup, 1) := by decide +kernel
theorem dX8_init_23 : decode cX8_init 23 = .ok (.sipush 12000, 3) := by decide +kernel
theorem dX8_init_26 : decode cX8_init 26 = .ok (.invokespecial 11, 3) := by decide +kernel
theorem dX8_init_29 : decode cX8_init 29 = .ok (.putfield 18, 3) := by decide +kernel
theorem dX8_init_32 : decode cX8_init 32 = .ok (.aload_n 0, 1) := by decide +kernel
theorem dX8_init_33 : decode cX8_init 33 = .ok (.new 21, 3) := by decide +kernel
theorem dX8_init_36 : decode cX8_init 36 = .ok (.dup, 1) := by decide +kernel
theorem dX8_init_37 : decode cX8_init 37 = .ok (.invokespecial 23, 3) := by decide +kernel
theorem dX8_init_40 : decode cX8_init 40 = .ok (.putfield 24, 3) := by decide +kernel
theorem dX8_init_43 : decode cX8_init 43 = .ok (.aload_n 0, 1) := by decide +kernel
theorem dX8_init_44 : decode cX8_init 44 = .ok (.new 28, 3) := by decide +kernel
theorem dX8_init_47 : decode cX8_init 47 = .ok (.dup, 1) := by decide +kernel
theorem dX8_init_48 : decode cX8_init 48 = .ok (.invokespecial 30, 3) := by decide +kernel
theorem dX8_init_51 : decode cX8_init 51 = .ok (.putfield 31, 3) := by decide +kernel
theorem dX8_init_54 : decode cX8_init 54 = .ok (.aload_n 0, 1) := by decide +kernel
theorem dX8_init_55 : decode cX8_init 55 = .ok (.new 35, 3) := by decide +kernel
theorem dX8_init_58 : decode cX8_init 58 = .ok (.dup, 1) := by decide +kernel
theorem dX8_init_59 : decode cX8_init 59 = .ok (.invokespecial 37, 3) := by decide +kernel
theorem dX8_init_62 : decode cX8_init 62 = .ok (.putfield 38, 3) := by decide +kernel
theorem dX8_init_65 : decode cX8_init 65 = .ok (.aload_n 0, 1) := by decide +kernel
theorem dX8_init_66 : decode cX8_init 66 = .ok (.new 42, 3) := by decide +kernel
theorem dX8_init_69 : decode cX8_init 69 = .ok (.dup, 1) := by decide +kernel
theorem dX8_init_70 : decode cX8_init 70 = .ok (.invokespecial 44, 3) := by decide +kernel
theorem dX8_init_73 : decode cX8_init 73 = .ok (.putfield 45, 3) := by decide +kernel
theorem dX8_init_76 : decode cX8_init 76 = .ok (.aload_n 0, 1) := by decide +kernel
theorem dX8_init_77 : decode cX8_init 77 = .ok (.new 49, 3) := by decide +kernel
theorem dX8_init_80 : decode cX8_init 80 = .ok (.dup, 1) := by decide +kernel
theorem dX8_init_81 : decode cX8_init 81 = .ok (.invokespecial 51, 3) := by decide +kernel
theorem dX8_init_84 : decode cX8_init 84 = .ok (.putfield 52, 3) := by decide +kernel
theorem dX8_init_87 : decode cX8_init 87 = .ok (.aload_n 0, 1) := by decide +kernel
theorem dX8_init_88 : decode cX8_init 88 = .ok (.iconst (-1), 1) := by decide +kernel
theorem dX8_init_89 : decode cX8_init 89 = .ok (.putfield 56, 3) := by decide +kernel
theorem dX8_init_92 : decode cX8_init 92 = .ok (.return_, 1) := by decide +kernel
theorem dX8_feed_0 : decode cX8_feed 0 = .ok (.iload_n 1, 1) := by decide +kernel
theorem dX8_feed_1 : decode cX8_feed 1 = .ok (.iconst 1, 1) := by decide +kernel
theorem dX8_feed_2 : decode cX8_feed 2 = .ok (.if_icmp .lt 20, 3) := by decide +kernel
theorem dX8_feed_5 : decode cX8_feed 5 = .ok (.iload_n 1, 1) := by decide +kernel
theorem dX8_feed_6 : decode cX8_feed 6 = .ok (.bipush 8, 2) := by decide +kernel
theorem dX8_feed_8 : decode cX8_feed 8 = .ok (.if_icmp .gt 14, 3) := by decide +kernel
theorem dX8_feed_11 : decode cX8_feed 11 = .ok (.iload_n 1, 1) := by decide +kernel
theorem dX8_feed_12 : decode cX8_feed 12 = .ok (.aload_n 0, 1) := by decide +kernel
theorem dX8_feed_13 : decode cX8_feed 13 = .ok (.getfield 14, 3) := by decide +kernel
theorem dX8_feed_16 : decode cX8_feed 16 = .ok (.invokevirtual 60, 3) := by decide +kernel
theorem dX8_feed_19 : decode cX8_feed 19 = .ok (.if_icmp .le 13, 3) := by decide +kernel
theorem dX8_feed_22 : decode cX8_feed 22 = .ok (.new 64, 3) := by decide +kernel
theorem dX8_feed_25 : decode cX8_feed 25 = .ok (.dup, 1) := by decide +kernel
theorem dX8_feed_26 : decode cX8_feed 26 = .ok (.ldc 66, 2) := by decide +kernel
theorem dX8_feed_28 : decode cX8_feed 28 = .ok (.invokespecial 68, 3) := by decide +kernel
theorem dX8_feed_31 : decode cX8_feed 31 = .ok (.athrow, 1) := by decide +kernel
theorem dX8_feed_32 : decode cX8_feed 32 = .ok (.iconst 0, 1) := by decide +kernel
theorem dX8_feed_33 : decode cX8_feed 33 = .ok (.istore 4, 2) := by decide +kernel
theorem dX8_feed_35 : decode cX8_feed 35 = .ok (.iload 4, 2) := by decide +kernel
theorem dX8_feed_37 : decode cX8_feed 37 = .ok (.iload_n 1, 1) := by decide +kernel
theorem dX8_feed_38 : decode cX8_feed 38 = .ok (.if_icmp .ge 28, 3) := by decide +kernel
theorem dX8_feed_41 : decode cX8_feed 41 = .ok (.aload_n 0, 1) := by decide +kernel
theorem dX8_feed_42 : decode cX8_feed 42 = .ok (.getfield 14, 3) := by decide +kernel
theorem dX8_feed_45 : decode cX8_feed 45 = .ok (.lload_n 2, 1) := by decide +kernel
theorem dX8_feed_46 : decode cX8_feed 46 = .ok (.bipush 8, 2) := by decide +kernel
theorem dX8_feed_48 : decode cX8_feed 48 = .ok (.iload 4, 2) := by decide +kernel
theorem dX8_feed_50 : decode cX8_feed 50 = .ok (.imul, 1) := by decide +kernel
theorem dX8_feed_51 : decode cX8_feed 51 = .ok (.lushr, 1) := by decide +kernel
theorem dX8_feed_52 : decode cX8_feed 52 = .ok (.l2i, 1) := by decide +kernel
theorem dX8_feed_53 : decode cX8_feed 53 = .ok (.sipush 255, 3) := by decide +kernel
theorem dX8_feed_56 : decode cX8_feed 56 = .ok (.iand, 1) := by decide +kernel
theorem dX8_feed_57 : decode cX8_feed 57 = .ok (.invokevirtual 71, 3) := by decide +kernel
theorem dX8_feed_60 : decode cX8_feed 60 = .ok (.iinc 4 1, 3) := by decide +kernel
theorem dX8_feed_63 : decode cX8_feed 63 = .ok (.goto (-28), 3) := by decide +kernel
theorem dX8_feed_66 : decode cX8_feed 66 = .ok (.aload_n 0, 1) := by decide +kernel
theorem dX8_feed_67 : decode cX8_feed 67 = .ok (.getfield 14, 3) := by decide +kernel
theorem dX8_feed_70 : decode cX8_feed 70 = .ok (.invokevirtual 74, 3) := by decide +kernel
theorem dX8_feed_73 : decode cX8_feed 73 = .ok (.ireturn, 1) := by decide +kernel
theorem dX8_read_0 : decode cX8_read 0 = .ok (.iload_n 1, 1) := by decide +kernel
theorem dX8_read_1 : decode cX8_read 1 = .ok (.invokestatic 77, 3) := by decide +kernel
theorem dX8_read_4 : decode cX8_read 4 = .ok (.ifCond .ne 13, 3) := by decide +kernel
theorem dX8_read_7 : decode cX8_read 7 = .ok (.new 64, 3) := by decide +kernel
theorem dX8_read_10 : decode cX8_read 10 = .ok (.dup, 1) := by decide +kernel
theorem dX8_read_11 : decode cX8_read 11 = .ok (.ldc 81, 2) := by decide +kernel
theorem dX8_read_13 : decode cX8_read 13 = .ok (.invokespecial 68, 3) := by decide +kernel
theorem dX8_read_16 : decode cX8_read 16 = .ok (.athrow, 1) := by decide +kernel
theorem dX8_read_17 : decode cX8_read 17 = .ok (.aload_n 0, 1) := by decide +kernel
theorem dX8_read_18 : decode cX8_read 18 = .ok (.getfield 24, 3) := by decide +kernel
theorem dX8_read_21 : decode cX8_read 21 = .ok (.aload_n 0, 1) := by decide +kernel
theorem dX8_read_22 : decode cX8_read 22 = .ok (.getfield 14, 3) := by decide +kernel
theorem dX8_read_25 : decode cX8_read 25 = .ok (.iload_n 1, 1) := by decide +kernel
theorem dX8_read_26 : decode cX8_read 26 = .ok (.invokevirtual 83, 3) := by decide +kernel
theorem dX8_read_29 : decode cX8_read 29 = .ok (.istore_n 2, 1) := by decide +kernel
theorem dX8_read_30 : decode cX8_read 30 = .ok (.aload_n 0, 1) := by decide +kernel
theorem dX8_read_31 : decode cX8_read 31 = .ok (.getfield 14, 3) := by decide +kernel
theorem dX8_read_34 : decode cX8_read 34 = .ok (.invokevirtual 87, 3) := by decide +kernel
theorem dX8_read_37 : decode cX8_read 37 = .ok (.iload_n 2, 1) := by decide +kernel
theorem dX8_read_38 : decode cX8_read 38 = .ok (.ifCond .eq 17, 3) := by decide +kernel
theorem dX8_read_41 : decode cX8_read 41 = .ok (.aload_n 0, 1) := by decide +kernel
theorem dX8_read_42 : decode cX8_read 42 = .ok (.aload_n 0, 1) := by decide +kernel
theorem dX8_read_43 : decode cX8_read 43 = .ok (.getfield 24, 3) := by decide +kernel
theorem dX8_read_46 : decode cX8_read 46 = .ok (.invokevirtual 90, 3) := by decide +kernel
theorem dX8_read_49 : decode cX8_read 49 = .ok (.putfield 56, 3) := by decide +kernel
theorem dX8_read_52 : decode cX8_read 52 = .ok (.iload_n 2, 1) := by decide +kernel
theorem dX8_read_53 : decode cX8_read 53 = .ok (.ineg, 1) := by decide +kernel
theorem dX8_read_54 : decode cX8_read 54 = .ok (.ireturn, 1) := by decide +kernel
theorem dX8_read_55 : decode cX8_read 55 = .ok (.aload_n 0, 1) := by decide +kernel
theorem dX8_read_56 : decode cX8_read 56 = .ok (.aload_n 0, 1) := by decide +kernel
theorem dX8_read_57 : decode cX8_read 57 = .ok (.getfield 24, 3) := by decide +kernel
theorem dX8_read_60 : decode cX8_read 60 = .ok (.aload_n 0, 1) := by decide +kernel
theorem dX8_read_61 : decode cX8_read 61 = .ok (.getfield 52, 3) := by decide +kernel
theorem dX8_read_64 : decode cX8_read 64 = .ok (.invokevirtual 93, 3) := by decide +kernel
theorem dX8_read_67 : decode cX8_read 67 = .ok (.putfield 52, 3) := by decide +kernel
theorem dX8_read_70 : decode cX8_read 70 = .ok (.aload_n 0, 1) := by decide +kernel
theorem dX8_read_71 : decode cX8_read 71 = .ok (.getfield 45, 3) := by decide +kernel
theorem dX8_read_74 : decode cX8_read 74 = .ok (.invokevirtual 97, 3) := by decide +kernel
theorem dX8_read_77 : decode cX8_read 77 = .ok (.aload_n 0, 1) := by decide +kernel
theorem dX8_read_78 : decode cX8_read 78 = .ok (.getfield 52, 3) := by decide +kernel
theorem dX8_read_81 : decode cX8_read 81 = .ok (.invokevirtual 100, 3) := by decide +kernel
theorem dX8_read_84 : decode cX8_read 84 = .ok (.ireturn, 1) := by decide +kernel
theorem dX8_place_0 : decode cX8_place 0 = .ok (.aload_n 0, 1) := by decide +kernel
theorem dX8_place_1 : decode cX8_place 1 = .ok (.getfield 56, 3) := by decide +kernel
theorem dX8_place_4 : decode cX8_place 4 = .ok (.ireturn, 1) := by decide +kernel
theorem dX8_barcode_0 : decode cX8_barcode 0 = .ok (.aload_n 0, 1) := by decide +kernel
theorem dX8_barcode_1 : decode cX8_barcode 1 = .ok (.getfield 31, 3) := by decide +kernel
theorem dX8_barcode_4 : decode cX8_barcode 4 = .ok (.aload_n 0, 1) := by decide +kernel
theorem dX8_barcode_5 : decode cX8_barcode 5 = .ok (.getfield 14, 3) := by decide +kernel
theorem dX8_barcode_8 : decode cX8_barcode 8 = .ok (.invokevirtual 103, 3) := by decide +kernel
theorem dX8_barcode_11 : decode cX8_barcode 11 = .ok (.istore_n 1, 1) := by decide +kernel
theorem dX8_barcode_12 : decode cX8_barcode 12 = .ok (.aload_n 0, 1) := by decide +kernel
theorem dX8_barcode_13 : decode cX8_barcode 13 = .ok (.getfield 14, 3) := by decide +kernel
theorem dX8_barcode_16 : decode cX8_barcode 16 = .ok (.invokevirtual 87, 3) := by decide +kernel
theorem dX8_barcode_19 : decode cX8_barcode 19 = .ok (.iload_n 1, 1) := by decide +kernel
theorem dX8_barcode_20 : decode cX8_barcode 20 = .ok (.ireturn, 1) := by decide +kernel
theorem dX8_adapter_0 : decode cX8_adapter 0 = .ok (.aload_n 0, 1) := by decide +kernel
theorem dX8_adapter_1 : decode cX8_adapter 1 = .ok (.getfield 38, 3) := by decide +kernel
theorem dX8_adapter_4 : decode cX8_adapter 4 = .ok (.aload_n 0, 1) := by decide +kernel
theorem dX8_adapter_5 : decode cX8_adapter 5 = .ok (.getfield 14, 3) := by decide +kernel
theorem dX8_adapter_8 : decode cX8_adapter 8 = .ok (.invokevirtual 107, 3) := by decide +kernel
theorem dX8_adapter_11 : decode cX8_adapter 11 = .ok (.istore_n 1, 1) := by decide +kernel
theorem dX8_adapter_12 : decode cX8_adapter 12 = .ok (.aload_n 0, 1) := by decide +kernel
theorem dX8_adapter_13 : decode cX8_adapter 13 = .ok (.getfield 14, 3) := by decide +kernel
theorem dX8_adapter_16 : decode cX8_adapter 16 = .ok (.invokevirtual 87, 3) := by decide +kernel
theorem dX8_adapter_19 : decode cX8_adapter 19 = .ok (.iload_n 1, 1) := by decide +kernel
theorem dX8_adapter_20 : decode cX8_adapter 20 = .ok (.ireturn, 1) := by decide +kernel
theorem dX8_limits_0 : decode cX8_limits 0 = .ok (.iload_n 1, 1) := by decide +kernel
theorem dX8_limits_1 : decode cX8_limits 1 = .ok (.bipush 93, 2) := by decide +kernel
theorem dX8_limits_3 : decode cX8_limits 3 = .ok (.invokestatic 110, 3) := by decide +kernel
theorem dX8_limits_6 : decode cX8_limits 6 = .ok (.ifCond .eq 21, 3) := by decide +kernel
theorem dX8_limits_9 : decode cX8_limits 9 = .ok (.iload_n 2, 1) := by decide +kernel
theorem dX8_limits_10 : decode cX8_limits 10 = .ok (.bipush 93, 2) := by decide +kernel
theorem dX8_limits_12 : decode cX8_limits 12 = .ok (.invokestatic 110, 3) := by decide +kernel
theorem dX8_limits_15 : decode cX8_limits 15 = .ok (.ifCond .eq 12, 3) := by decide +kernel
theorem dX8_limits_18 : decode cX8_limits 18 = .ok (.iload_n 3, 1) := by decide +kernel
theorem dX8_limits_19 : decode cX8_limits 19 = .ok (.bipush 120, 2) := by decide +kernel
theorem dX8_limits_21 : decode cX8_limits 21 = .ok (.invokestatic 110, 3) := by decide +kernel
theorem dX8_limits_24 : decode cX8_limits 24 = .ok (.ifCond .ne 5, 3) := by decide +kernel
theorem dX8_limits_27 : decode cX8_limits 27 = .ok (.iconst 0, 1) := by decide +kernel
theorem dX8_limits_28 : decode cX8_limits 28 = .ok (.ireturn, 1) := by decide +kernel
theorem dX8_limits_29 : decode cX8_limits 29 = .ok (.aload_n 0, 1) := by decide +kernel
theorem dX8_limits_30 : decode cX8_limits 30 = .ok (.getfield 38, 3) := by decide +kernel
theorem dX8_limits_33 : decode cX8_limits 33 = .ok (.iload_n 1, 1) := by decide +kernel
theorem dX8_limits_34 : decode cX8_limits 34 = .ok (.iload_n 2, 1) := by decide +kernel
theorem dX8_limits_35 : decode cX8_limits 35 = .ok (.iload_n 3, 1) := by decide +kernel
theorem dX8_limits_36 : decode cX8_limits 36 = .ok (.invokevirtual 114, 3) := by decide +kernel
theorem dX8_limits_39 : decode cX8_limits 39 = .ok (.iconst 1, 1) := by decide +kernel
theorem dX8_limits_40 : decode cX8_limits 40 = .ok (.ireturn, 1) := by decide +kernel
theorem dX8_told_0 : decode cX8_told 0 = .ok (.iload_n 1, 1) := by decide +kernel
theorem dX8_told_1 : decode cX8_told 1 = .ok (.tableswitch 63 0 3 #[31, 39, 47, 55], 31) := by decide +kernel
theorem dX8_told_32 : decode cX8_told 32 = .ok (.aload_n 0, 1) := by decide +kernel
theorem dX8_told_33 : decode cX8_told 33 = .ok (.getfield 31, 3) := by decide +kernel
theorem dX8_told_36 : decode cX8_told 36 = .ok (.invokevirtual 118, 3) := by decide +kernel
theorem dX8_told_39 : decode cX8_told 39 = .ok (.ireturn, 1) := by decide +kernel
theorem dX8_told_40 : decode cX8_told 40 = .ok (.aload_n 0, 1) := by decide +kernel
theorem dX8_told_41 : decode cX8_told 41 = .ok (.getfield 31, 3) := by decide +kernel
theorem dX8_told_44 : decode cX8_told 44 = .ok (.invokevirtual 121, 3) := by decide +kernel
theorem dX8_told_47 : decode cX8_told 47 = .ok (.ireturn, 1) := by decide +kernel
theorem dX8_told_48 : decode cX8_told 48 = .ok (.aload_n 0, 1) := by decide +kernel
theorem dX8_told_49 : decode cX8_told 49 = .ok (.getfield 31, 3) := by decide +kernel
theorem dX8_told_52 : decode cX8_told 52 = .ok (.invokevirtual 122, 3) := by decide +kernel
theorem dX8_told_55 : decode cX8_told 55 = .ok (.ireturn, 1) := by decide +kernel
theorem dX8_told_56 : decode cX8_told 56 = .ok (.aload_n 0, 1) := by decide +kernel
theorem dX8_told_57 : decode cX8_told 57 = .ok (.getfield 52, 3) := by decide +kernel
theorem dX8_told_60 : decode cX8_told 60 = .ok (.invokevirtual 100, 3) := by decide +kernel
theorem dX8_told_63 : decode cX8_told 63 = .ok (.ireturn, 1) := by decide +kernel
theorem dX8_told_64 : decode cX8_told 64 = .ok (.new 125, 3) := by decide +kernel
theorem dX8_told_67 : decode cX8_told 67 = .ok (.dup, 1) := by decide +kernel
theorem dX8_told_68 : decode cX8_told 68 = .ok (.ldc 127, 2) := by decide +kernel
theorem dX8_told_70 : decode cX8_told 70 = .ok (.invokespecial 129, 3) := by decide +kernel
theorem dX8_told_73 : decode cX8_told 73 = .ok (.athrow, 1) := by decide +kernel
theorem dX8_sort_0 : decode cX8_sort 0 = .ok (.iload_n 1, 1) := by decide +kernel
theorem dX8_sort_1 : decode cX8_sort 1 = .ok (.bipush 12, 2) := by decide +kernel
theorem dX8_sort_3 : decode cX8_sort 3 = .ok (.invokestatic 110, 3) := by decide +kernel
theorem dX8_sort_6 : decode cX8_sort 6 = .ok (.ifCond .eq 11, 3) := by decide +kernel
theorem dX8_sort_9 : decode cX8_sort 9 = .ok (.iload_n 2, 1) := by decide +kernel
theorem dX8_sort_10 : decode cX8_sort 10 = .ok (.iconst 1, 1) := by decide +kernel
theorem dX8_sort_11 : decode cX8_sort 11 = .ok (.invokestatic 110, 3) := by decide +kernel
theorem dX8_sort_14 : decode cX8_sort 14 = .ok (.ifCond .ne 13, 3) := by decide +kernel
theorem dX8_sort_17 : decode cX8_sort 17 = .ok (.new 64, 3) := by decide +kernel
theorem dX8_sort_20 : decode cX8_sort 20 = .ok (.dup, 1) := by decide +kernel
theorem dX8_sort_21 : decode cX8_sort 21 = .ok (.ldc 130, 2) := by decide +kernel
theorem dX8_sort_23 : decode cX8_sort 23 = .ok (.invokespecial 68, 3) := by decide +kernel
theorem dX8_sort_26 : decode cX8_sort 26 = .ok (.athrow, 1) := by decide +kernel
theorem dX8_sort_27 : decode cX8_sort 27 = .ok (.aload_n 0, 1) := by decide +kernel
theorem dX8_sort_28 : decode cX8_sort 28 = .ok (.getfield 45, 3) := by decide +kernel
theorem dX8_sort_31 : decode cX8_sort 31 = .ok (.aload_n 0, 1) := by decide +kernel
theorem dX8_sort_32 : decode cX8_sort 32 = .ok (.getfield 31, 3) := by decide +kernel
theorem dX8_sort_35 : decode cX8_sort 35 = .ok (.invokevirtual 121, 3) := by decide +kernel
theorem dX8_sort_38 : decode cX8_sort 38 = .ok (.iload_n 1, 1) := by decide +kernel
theorem dX8_sort_39 : decode cX8_sort 39 = .ok (.iload_n 2, 1) := by decide +kernel
theorem dX8_sort_40 : decode cX8_sort 40 = .ok (.invokevirtual 132, 3) := by decide +kernel
theorem dX8_sort_43 : decode cX8_sort 43 = .ok (.iconst 0, 1) := by decide +kernel
theorem dX8_sort_44 : decode cX8_sort 44 = .ok (.istore_n 3, 1) := by decide +kernel
theorem dX8_sort_45 : decode cX8_sort 45 = .ok (.iload_n 3, 1) := by decide +kernel
theorem dX8_sort_46 : decode cX8_sort 46 = .ok (.aload_n 0, 1) := by decide +kernel
theorem dX8_sort_47 : decode cX8_sort 47 = .ok (.getfield 52, 3) := by decide +kernel
theorem dX8_sort_50 : decode cX8_sort 50 = .ok (.invokevirtual 100, 3) := by decide +kernel
theorem dX8_sort_53 : decode cX8_sort 53 = .ok (.if_icmp .ge 15, 3) := by decide +kernel
theorem dX8_sort_56 : decode cX8_sort 56 = .ok (.aload_n 0, 1) := by decide +kernel
theorem dX8_sort_57 : decode cX8_sort 57 = .ok (.iload_n 3, 1) := by decide +kernel
theorem dX8_sort_58 : decode cX8_sort 58 = .ok (.iload_n 1, 1) := by decide +kernel
theorem dX8_sort_59 : decode cX8_sort 59 = .ok (.invokevirtual 135, 3) := by decide +kernel
theorem dX8_sort_62 : decode cX8_sort 62 = .ok (.iinc 3 1, 3) := by decide +kernel
theorem dX8_sort_65 : decode cX8_sort 65 = .ok (.goto (-20), 3) := by decide +kernel
theorem dX8_sort_68 : decode cX8_sort 68 = .ok (.aload_n 0, 1) := by decide +kernel
theorem dX8_sort_69 : decode cX8_sort 69 = .ok (.getfield 45, 3) := by decide +kernel
theorem dX8_sort_72 : decode cX8_sort 72 = .ok (.invokevirtual 139, 3) := by decide +kernel
theorem dX8_sort_75 : decode cX8_sort 75 = .ok (.aload_n 0, 1) := by decide +kernel
theorem dX8_sort_76 : decode cX8_sort 76 = .ok (.getfield 45, 3) := by decide +kernel
theorem dX8_sort_79 : decode cX8_sort 79 = .ok (.iconst (-1), 1) := by decide +kernel
theorem dX8_sort_80 : decode cX8_sort 80 = .ok (.invokevirtual 142, 3) := by decide +kernel
theorem dX8_sort_83 : decode cX8_sort 83 = .ok (.ireturn, 1) := by decide +kernel
theorem dX8_sortRead_0 : decode cX8_sortRead 0 = .ok (.aload_n 0, 1) := by decide +kernel
theorem dX8_sortRead_1 : decode cX8_sortRead 1 = .ok (.getfield 31, 3) := by decide +kernel
theorem dX8_sortRead_4 : decode cX8_sortRead 4 = .ok (.invokevirtual 122, 3) := by decide +kernel
theorem dX8_sortRead_7 : decode cX8_sortRead 7 = .ok (.iload_n 2, 1) := by decide +kernel
theorem dX8_sortRead_8 : decode cX8_sortRead 8 = .ok (.iadd, 1) := by decide +kernel
theorem dX8_sortRead_9 : decode cX8_sortRead 9 = .ok (.istore_n 3, 1) := by decide +kernel
theorem dX8_sortRead_10 : decode cX8_sortRead 10 = .ok (.aload_n 0, 1) := by decide +kernel
theorem dX8_sortRead_11 : decode cX8_sortRead 11 = .ok (.getfield 52, 3) := by decide +kernel
theorem dX8_sortRead_14 : decode cX8_sortRead 14 = .ok (.iload_n 1, 1) := by decide +kernel
theorem dX8_sortRead_15 : decode cX8_sortRead 15 = .ok (.invokevirtual 146, 3) := by decide +kernel
theorem dX8_sortRead_18 : decode cX8_sortRead 18 = .ok (.iload_n 3, 1) := by decide +kernel
theorem dX8_sortRead_19 : decode cX8_sortRead 19 = .ok (.if_icmp .ge 7, 3) := by decide +kernel
theorem dX8_sortRead_22 : decode cX8_sortRead 22 = .ok (.iconst (-1), 1) := by decide +kernel
theorem dX8_sortRead_23 : decode cX8_sortRead 23 = .ok (.goto 15, 3) := by decide +kernel
theorem dX8_sortRead_26 : decode cX8_sortRead 26 = .ok (.aload_n 0, 1) := by decide +kernel
theorem dX8_sortRead_27 : decode cX8_sortRead 27 = .ok (.getfield 31, 3) := by decide +kernel
theorem dX8_sortRead_30 : decode cX8_sortRead 30 = .ok (.aload_n 0, 1) := by decide +kernel
theorem dX8_sortRead_31 : decode cX8_sortRead 31 = .ok (.getfield 52, 3) := by decide +kernel
theorem dX8_sortRead_34 : decode cX8_sortRead 34 = .ok (.iload_n 1, 1) := by decide +kernel
theorem dX8_sortRead_35 : decode cX8_sortRead 35 = .ok (.invokevirtual 149, 3) := by decide +kernel
theorem dX8_sortRead_38 : decode cX8_sortRead 38 = .ok (.istore 4, 2) := by decide +kernel
theorem dX8_sortRead_40 : decode cX8_sortRead 40 = .ok (.aload_n 0, 1) := by decide +kernel
theorem dX8_sortRead_41 : decode cX8_sortRead 41 = .ok (.getfield 38, 3) := by decide +kernel
theorem dX8_sortRead_44 : decode cX8_sortRead 44 = .ok (.aload_n 0, 1) := by decide +kernel
theorem dX8_sortRead_45 : decode cX8_sortRead 45 = .ok (.getfield 52, 3) := by decide +kernel
theorem dX8_sortRead_48 : decode cX8_sortRead 48 = .ok (.iload_n 1, 1) := by decide +kernel
theorem dX8_sortRead_49 : decode cX8_sortRead 49 = .ok (.iload 4, 2) := by decide +kernel
theorem dX8_sortRead_51 : decode cX8_sortRead 51 = .ok (.iconst (-1), 1) := by decide +kernel
theorem dX8_sortRead_52 : decode cX8_sortRead 52 = .ok (.if_icmp .ne 7, 3) := by decide +kernel
theorem dX8_sortRead_55 : decode cX8_sortRead 55 = .ok (.iconst 0, 1) := by decide +kernel
theorem dX8_sortRead_56 : decode cX8_sortRead 56 = .ok (.goto 4, 3) := by decide +kernel
theorem dX8_sortRead_59 : decode cX8_sortRead 59 = .ok (.iload_n 3, 1) := by decide +kernel
theorem dX8_sortRead_60 : decode cX8_sortRead 60 = .ok (.invokevirtual 153, 3) := by decide +kernel
theorem dX8_sortRead_63 : decode cX8_sortRead 63 = .ok (.aload_n 0, 1) := by decide +kernel
theorem dX8_sortRead_64 : decode cX8_sortRead 64 = .ok (.getfield 45, 3) := by decide +kernel
theorem dX8_sortRead_67 : decode cX8_sortRead 67 = .ok (.aload_n 0, 1) := by decide +kernel
theorem dX8_sortRead_68 : decode cX8_sortRead 68 = .ok (.getfield 52, 3) := by decide +kernel
theorem dX8_sortRead_71 : decode cX8_sortRead 71 = .ok (.iload 4, 2) := by decide +kernel
theorem dX8_sortRead_73 : decode cX8_sortRead 73 = .ok (.aload_n 0, 1) := by decide +kernel
theorem dX8_sortRead_74 : decode cX8_sortRead 74 = .ok (.getfield 38, 3) := by decide +kernel
theorem dX8_sortRead_77 : decode cX8_sortRead 77 = .ok (.invokevirtual 157, 3) := by decide +kernel
theorem dX8_sortRead_80 : decode cX8_sortRead 80 = .ok (.iload 4, 2) := by decide +kernel
theorem dX8_sortRead_82 : decode cX8_sortRead 82 = .ok (.iconst (-1), 1) := by decide +kernel
theorem dX8_sortRead_83 : decode cX8_sortRead 83 = .ok (.if_icmp .eq 37, 3) := by decide +kernel
theorem dX8_sortRead_86 : decode cX8_sortRead 86 = .ok (.aload_n 0, 1) := by decide +kernel
theorem dX8_sortRead_87 : decode cX8_sortRead 87 = .ok (.getfield 38, 3) := by decide +kernel
theorem dX8_sortRead_90 : decode cX8_sortRead 90 = .ok (.invokevirtual 160, 3) := by decide +kernel
theorem dX8_sortRead_93 : decode cX8_sortRead 93 = .ok (.ifCond .ne 27, 3) := by decide +kernel
theorem dX8_sortRead_96 : decode cX8_sortRead 96 = .ok (.aload_n 0, 1) := by decide +kernel
theorem dX8_sortRead_97 : decode cX8_sortRead 97 = .ok (.getfield 45, 3) := by decide +kernel
theorem dX8_sortRead_100 : decode cX8_sortRead 100 = .ok (.invokevirtual 164, 3) := by decide +kernel
theorem dX8_sortRead_103 : decode cX8_sortRead 103 = .ok (.aload_n 0, 1) := by decide +kernel
theorem dX8_sortRead_104 : decode cX8_sortRead 104 = .ok (.getfield 52, 3) := by decide +kernel
theorem dX8_sortRead_107 : decode cX8_sortRead 107 = .ok (.iload_n 1, 1) := by decide +kernel
theorem dX8_sortRead_108 : decode cX8_sortRead 108 = .ok (.iload 4, 2) := by decide +kernel
theorem dX8_sortRead_110 : decode cX8_sortRead 110 = .ok (.aload_n 0, 1) := by decide +kernel
theorem dX8_sortRead_111 : decode cX8_sortRead 111 = .ok (.getfield 31, 3) := by decide +kernel
theorem dX8_sortRead_114 : decode cX8_sortRead 114 = .ok (.invokevirtual 122, 3) := by decide +kernel
theorem dX8_sortRead_117 : decode cX8_sortRead 117 = .ok (.invokevirtual 168, 3) := by decide +kernel
theorem dX8_sortRead_120 : decode cX8_sortRead 120 = .ok (.return_, 1) := by decide +kernel
theorem dX8_about_0 : decode cX8_about 0 = .ok (.aload_n 0, 1) := by decide +kernel
theorem dX8_about_1 : decode cX8_about 1 = .ok (.getfield 52, 3) := by decide +kernel
theorem dX8_about_4 : decode cX8_about 4 = .ok (.iload_n 1, 1) := by decide +kernel
theorem dX8_about_5 : decode cX8_about 5 = .ok (.invokevirtual 174, 3) := by decide +kernel
theorem dX8_about_8 : decode cX8_about 8 = .ok (.ifCond .eq 12, 3) := by decide +kernel
theorem dX8_about_11 : decode cX8_about 11 = .ok (.iload_n 2, 1) := by decide +kernel
theorem dX8_about_12 : decode cX8_about 12 = .ok (.bipush 6, 2) := by decide +kernel
theorem dX8_about_14 : decode cX8_about 14 = .ok (.invokestatic 110, 3) := by decide +kernel
theorem dX8_about_17 : decode cX8_about 17 = .ok (.ifCond .ne 13, 3) := by decide +kernel
theorem dX8_about_20 : decode cX8_about 20 = .ok (.new 125, 3) := by decide +kernel
theorem dX8_about_23 : decode cX8_about 23 = .ok (.dup, 1) := by decide +kernel
theorem dX8_about_24 : decode cX8_about 24 = .ok (.ldc 177, 2) := by decide +kernel
theorem dX8_about_26 : decode cX8_about 26 = .ok (.invokespecial 129, 3) := by decide +kernel
theorem dX8_about_29 : decode cX8_about 29 = .ok (.athrow, 1) := by decide +kernel
theorem dX8_about_30 : decode cX8_about 30 = .ok (.iload_n 2, 1) := by decide +kernel
theorem dX8_about_31 : decode cX8_about 31 = .ok (.ifCond .ne 12, 3) := by decide +kernel
theorem dX8_about_34 : decode cX8_about 34 = .ok (.aload_n 0, 1) := by decide +kernel
theorem dX8_about_35 : decode cX8_about 35 = .ok (.getfield 52, 3) := by decide +kernel
theorem dX8_about_38 : decode cX8_about 38 = .ok (.iload_n 1, 1) := by decide +kernel
theorem dX8_about_39 : decode cX8_about 39 = .ok (.invokevirtual 179, 3) := by decide +kernel
theorem dX8_about_42 : decode cX8_about 42 = .ok (.ireturn, 1) := by decide +kernel
theorem dX8_about_43 : decode cX8_about 43 = .ok (.iload_n 2, 1) := by decide +kernel
theorem dX8_about_44 : decode cX8_about 44 = .ok (.iconst 1, 1) := by decide +kernel
theorem dX8_about_45 : decode cX8_about 45 = .ok (.if_icmp .ne 12, 3) := by decide +kernel
theorem dX8_about_48 : decode cX8_about 48 = .ok (.aload_n 0, 1) := by decide +kernel
theorem dX8_about_49 : decode cX8_about 49 = .ok (.getfield 52, 3) := by decide +kernel
theorem dX8_about_52 : decode cX8_about 52 = .ok (.iload_n 1, 1) := by decide +kernel
theorem dX8_about_53 : decode cX8_about 53 = .ok (.invokevirtual 146, 3) := by decide +kernel
theorem dX8_about_56 : decode cX8_about 56 = .ok (.ireturn, 1) := by decide +kernel
theorem dX8_about_57 : decode cX8_about 57 = .ok (.aload_n 0, 1) := by decide +kernel
theorem dX8_about_58 : decode cX8_about 58 = .ok (.getfield 45, 3) := by decide +kernel
theorem dX8_about_61 : decode cX8_about 61 = .ok (.invokevirtual 182, 3) := by decide +kernel
theorem dX8_about_64 : decode cX8_about 64 = .ok (.ifCond .eq 12, 3) := by decide +kernel
theorem dX8_about_67 : decode cX8_about 67 = .ok (.aload_n 0, 1) := by decide +kernel
theorem dX8_about_68 : decode cX8_about 68 = .ok (.iload_n 1, 1) := by decide +kernel
theorem dX8_about_69 : decode cX8_about 69 = .ok (.iload_n 2, 1) := by decide +kernel
theorem dX8_about_70 : decode cX8_about 70 = .ok (.invokevirtual 185, 3) := by decide +kernel
theorem dX8_about_73 : decode cX8_about 73 = .ok (.goto 4, 3) := by decide +kernel
theorem dX8_about_76 : decode cX8_about 76 = .ok (.iconst (-1), 1) := by decide +kernel
theorem dX8_about_77 : decode cX8_about 77 = .ok (.ireturn, 1) := by decide +kernel
theorem dX8_aboutSorted_0 : decode cX8_aboutSorted 0 = .ok (.iload_n 2, 1) := by decide +kernel
theorem dX8_aboutSorted_1 : decode cX8_aboutSorted 1 = .ok (.tableswitch 75 2 5 #[31, 40, 49, 58], 31) := by decide +kernel
theorem dX8_aboutSorted_32 : decode cX8_aboutSorted 32 = .ok (.aload_n 0, 1) := by decide +kernel
theorem dX8_aboutSorted_33 : decode cX8_aboutSorted 33 = .ok (.getfield 45, 3) := by decide +kernel
theorem dX8_aboutSorted_36 : decode cX8_aboutSorted 36 = .ok (.iload_n 1, 1) := by decide +kernel
theorem dX8_aboutSorted_37 : decode cX8_aboutSorted 37 = .ok (.invokevirtual 189, 3) := by decide +kernel
theorem dX8_aboutSorted_40 : decode cX8_aboutSorted 40 = .ok (.ireturn, 1) := by decide +kernel
theorem dX8_aboutSorted_41 : decode cX8_aboutSorted 41 = .ok (.aload_n 0, 1) := by decide +kernel
theorem dX8_aboutSorted_42 : decode cX8_aboutSorted 42 = .ok (.getfield 45, 3) := by decide +kernel
theorem dX8_aboutSorted_45 : decode cX8_aboutSorted 45 = .ok (.iload_n 1, 1) := by decide +kernel
theorem dX8_aboutSorted_46 : decode cX8_aboutSorted 46 = .ok (.invokevirtual 192, 3) := by decide +kernel
theorem dX8_aboutSorted_49 : decode cX8_aboutSorted 49 = .ok (.ireturn, 1) := by decide +kernel
theorem dX8_aboutSorted_50 : decode cX8_aboutSorted 50 = .ok (.aload_n 0, 1) := by decide +kernel
theorem dX8_aboutSorted_51 : decode cX8_aboutSorted 51 = .ok (.getfield 45, 3) := by decide +kernel
theorem dX8_aboutSorted_54 : decode cX8_aboutSorted 54 = .ok (.iload_n 1, 1) := by decide +kernel
theorem dX8_aboutSorted_55 : decode cX8_aboutSorted 55 = .ok (.invokevirtual 195, 3) := by decide +kernel
theorem dX8_aboutSorted_58 : decode cX8_aboutSorted 58 = .ok (.ireturn, 1) := by decide +kernel
theorem dX8_aboutSorted_59 : decode cX8_aboutSorted 59 = .ok (.aload_n 0, 1) := by decide +kernel
theorem dX8_aboutSorted_60 : decode cX8_aboutSorted 60 = .ok (.getfield 45, 3) := by decide +kernel
theorem dX8_aboutSorted_63 : decode cX8_aboutSorted 63 = .ok (.iload_n 1, 1) := by decide +kernel
theorem dX8_aboutSorted_64 : decode cX8_aboutSorted 64 = .ok (.invokevirtual 198, 3) := by decide +kernel
theorem dX8_aboutSorted_67 : decode cX8_aboutSorted 67 = .ok (.ifCond .eq 7, 3) := by decide +kernel
theorem dX8_aboutSorted_70 : decode cX8_aboutSorted 70 = .ok (.iconst 1, 1) := by decide +kernel
theorem dX8_aboutSorted_71 : decode cX8_aboutSorted 71 = .ok (.goto 4, 3) := by decide +kernel
theorem dX8_aboutSorted_74 : decode cX8_aboutSorted 74 = .ok (.iconst 0, 1) := by decide +kernel
theorem dX8_aboutSorted_75 : decode cX8_aboutSorted 75 = .ok (.ireturn, 1) := by decide +kernel
theorem dX8_aboutSorted_76 : decode cX8_aboutSorted 76 = .ok (.aload_n 0, 1) := by decide +kernel
theorem dX8_aboutSorted_77 : decode cX8_aboutSorted 77 = .ok (.getfield 45, 3) := by decide +kernel
theorem dX8_aboutSorted_80 : decode cX8_aboutSorted 80 = .ok (.invokevirtual 164, 3) := by decide +kernel
theorem dX8_aboutSorted_83 : decode cX8_aboutSorted 83 = .ok (.iload_n 1, 1) := by decide +kernel
theorem dX8_aboutSorted_84 : decode cX8_aboutSorted 84 = .ok (.invokevirtual 201, 3) := by decide +kernel
theorem dX8_aboutSorted_87 : decode cX8_aboutSorted 87 = .ok (.ireturn, 1) := by decide +kernel
theorem dX8_letter_0 : decode cX8_letter 0 = .ok (.iconst (-1), 1) := by decide +kernel
theorem dX8_letter_1 : decode cX8_letter 1 = .ok (.istore 4, 2) := by decide +kernel
theorem dX8_letter_3 : decode cX8_letter 3 = .ok (.iload_n 2, 1) := by decide +kernel
theorem dX8_letter_4 : decode cX8_letter 4 = .ok (.ifCond .ne 17, 3) := by decide +kernel
theorem dX8_letter_7 : decode cX8_letter 7 = .ok (.aload_n 0, 1) := by decide +kernel
theorem dX8_letter_8 : decode cX8_letter 8 = .ok (.getfield 52, 3) := by decide +kernel
theorem dX8_letter_11 : decode cX8_letter 11 = .ok (.iload_n 1, 1) := by decide +kernel
theorem dX8_letter_12 : decode cX8_letter 12 = .ok (.iload_n 3, 1) := by decide +kernel
theorem dX8_letter_13 : decode cX8_letter 13 = .ok (.invokevirtual 204, 3) := by decide +kernel
theorem dX8_letter_16 : decode cX8_letter 16 = .ok (.istore 4, 2) := by decide +kernel
theorem dX8_letter_18 : decode cX8_letter 18 = .ok (.goto 38, 3) := by decide +kernel
theorem dX8_letter_21 : decode cX8_letter 21 = .ok (.iload_n 2, 1) := by decide +kernel
theorem dX8_letter_22 : decode cX8_letter 22 = .ok (.iconst 1, 1) := by decide +kernel
theorem dX8_letter_23 : decode cX8_letter 23 = .ok (.if_icmp .ne 17, 3) := by decide +kernel
theorem dX8_letter_26 : decode cX8_letter 26 = .ok (.aload_n 0, 1) := by decide +kernel
theorem dX8_letter_27 : decode cX8_letter 27 = .ok (.getfield 52, 3) := by decide +kernel
theorem dX8_letter_30 : decode cX8_letter 30 = .ok (.iload_n 1, 1) := by decide +kernel
theorem dX8_letter_31 : decode cX8_letter 31 = .ok (.iload_n 3, 1) := by decide +kernel
theorem dX8_letter_32 : decode cX8_letter 32 = .ok (.invokevirtual 207, 3) := by decide +kernel
theorem dX8_letter_35 : decode cX8_letter 35 = .ok (.istore 4, 2) := by decide +kernel
theorem dX8_letter_37 : decode cX8_letter 37 = .ok (.goto 19, 3) := by decide +kernel
theorem dX8_letter_40 : decode cX8_letter 40 = .ok (.iload_n 2, 1) := by decide +kernel
theorem dX8_letter_41 : decode cX8_letter 41 = .ok (.iconst 2, 1) := by decide +kernel
theorem dX8_letter_42 : decode cX8_letter 42 = .ok (.if_icmp .ne 14, 3) := by decide +kernel
theorem dX8_letter_45 : decode cX8_letter 45 = .ok (.aload_n 0, 1) := by decide +kernel
theorem dX8_letter_46 : decode cX8_letter 46 = .ok (.getfield 52, 3) := by decide +kernel
theorem dX8_letter_49 : decode cX8_letter 49 = .ok (.iload_n 1, 1) := by decide +kernel
theorem dX8_letter_50 : decode cX8_letter 50 = .ok (.iload_n 3, 1) := by decide +kernel
theorem dX8_letter_51 : decode cX8_letter 51 = .ok (.invokevirtual 210, 3) := by decide +kernel
theorem dX8_letter_54 : decode cX8_letter 54 = .ok (.istore 4, 2) := by decide +kernel
theorem dX8_letter_56 : decode cX8_letter 56 = .ok (.iload 4, 2) := by decide +kernel
theorem dX8_letter_58 : decode cX8_letter 58 = .ok (.iconst (-1), 1) := by decide +kernel
theorem dX8_letter_59 : decode cX8_letter 59 = .ok (.if_icmp .ne 13, 3) := by decide +kernel
theorem dX8_letter_62 : decode cX8_letter 62 = .ok (.new 125, 3) := by decide +kernel
theorem dX8_letter_65 : decode cX8_letter 65 = .ok (.dup, 1) := by decide +kernel
theorem dX8_letter_66 : decode cX8_letter 66 = .ok (.ldc 213, 2) := by decide +kernel
theorem dX8_letter_68 : decode cX8_letter 68 = .ok (.invokespecial 129, 3) := by decide +kernel
theorem dX8_letter_71 : decode cX8_letter 71 = .ok (.athrow, 1) := by decide +kernel
theorem dX8_letter_72 : decode cX8_letter 72 = .ok (.iload 4, 2) := by decide +kernel
theorem dX8_letter_74 : decode cX8_letter 74 = .ok (.ireturn, 1) := by decide +kernel
theorem dX8_bin_0 : decode cX8_bin 0 = .ok (.aload_n 0, 1) := by decide +kernel
theorem dX8_bin_1 : decode cX8_bin 1 = .ok (.iload_n 1, 1) := by decide +kernel
theorem dX8_bin_2 : decode cX8_bin 2 = .ok (.invokevirtual 215, 3) := by decide +kernel
theorem dX8_bin_5 : decode cX8_bin 5 = .ok (.ifCond .eq 11, 3) := by decide +kernel
theorem dX8_bin_8 : decode cX8_bin 8 = .ok (.iload_n 2, 1) := by decide +kernel
theorem dX8_bin_9 : decode cX8_bin 9 = .ok (.iconst 2, 1) := by decide +kernel
theorem dX8_bin_10 : decode cX8_bin 10 = .ok (.invokestatic 110, 3) := by decide +kernel
theorem dX8_bin_13 : decode cX8_bin 13 = .ok (.ifCond .ne 13, 3) := by decide +kernel
theorem dX8_bin_16 : decode cX8_bin 16 = .ok (.new 125, 3) := by decide +kernel
theorem dX8_bin_19 : decode cX8_bin 19 = .ok (.dup, 1) := by decide +kernel
theorem dX8_bin_20 : decode cX8_bin 20 = .ok (.ldc 218, 2) := by decide +kernel
theorem dX8_bin_22 : decode cX8_bin 22 = .ok (.invokespecial 129, 3) := by decide +kernel
theorem dX8_bin_25 : decode cX8_bin 25 = .ok (.athrow, 1) := by decide +kernel
theorem dX8_bin_26 : decode cX8_bin 26 = .ok (.aload_n 0, 1) := by decide +kernel
theorem dX8_bin_27 : decode cX8_bin 27 = .ok (.getfield 45, 3) := by decide +kernel
theorem dX8_bin_30 : decode cX8_bin 30 = .ok (.invokevirtual 182, 3) := by decide +kernel
theorem dX8_bin_33 : decode cX8_bin 33 = .ok (.ifCond .ne 13, 3) := by decide +kernel
theorem dX8_bin_36 : decode cX8_bin 36 = .ok (.new 220, 3) := by decide +kernel
theorem dX8_bin_39 : decode cX8_bin 39 = .ok (.dup, 1) := by decide +kernel
theorem dX8_bin_40 : decode cX8_bin 40 = .ok (.ldc 222, 2) := by decide +kernel
theorem dX8_bin_42 : decode cX8_bin 42 = .ok (.invokespecial 224, 3) := by decide +kernel
theorem dX8_bin_45 : decode cX8_bin 45 = .ok (.athrow, 1) := by decide +kernel
theorem dX8_bin_46 : decode cX8_bin 46 = .ok (.iload_n 2, 1) := by decide +kernel
theorem dX8_bin_47 : decode cX8_bin 47 = .ok (.ifCond .ne 12, 3) := by decide +kernel
theorem dX8_bin_50 : decode cX8_bin 50 = .ok (.aload_n 0, 1) := by decide +kernel
theorem dX8_bin_51 : decode cX8_bin 51 = .ok (.getfield 45, 3) := by decide +kernel
theorem dX8_bin_54 : decode cX8_bin 54 = .ok (.iload_n 1, 1) := by decide +kernel
theorem dX8_bin_55 : decode cX8_bin 55 = .ok (.invokevirtual 142, 3) := by decide +kernel
theorem dX8_bin_58 : decode cX8_bin 58 = .ok (.ireturn, 1) := by decide +kernel
theorem dX8_bin_59 : decode cX8_bin 59 = .ok (.iload_n 2, 1) := by decide +kernel
theorem dX8_bin_60 : decode cX8_bin 60 = .ok (.iconst 1, 1) := by decide +kernel
theorem dX8_bin_61 : decode cX8_bin 61 = .ok (.if_icmp .ne 14, 3) := by decide +kernel
theorem dX8_bin_64 : decode cX8_bin 64 = .ok (.aload_n 0, 1) := by decide +kernel
theorem dX8_bin_65 : decode cX8_bin 65 = .ok (.getfield 45, 3) := by decide +kernel
theorem dX8_bin_68 : decode cX8_bin 68 = .ok (.iload_n 1, 1) := by decide +kernel
theorem dX8_bin_69 : decode cX8_bin 69 = .ok (.invokevirtual 225, 3) := by decide +kernel
theorem dX8_bin_72 : decode cX8_bin 72 = .ok (.goto 14, 3) := by decide +kernel
theorem dX8_bin_75 : decode cX8_bin 75 = .ok (.aload_n 0, 1) := by decide +kernel
theorem dX8_bin_76 : decode cX8_bin 76 = .ok (.getfield 45, 3) := by decide +kernel
theorem dX8_bin_79 : decode cX8_bin 79 = .ok (.invokevirtual 164, 3) := by decide +kernel
theorem dX8_bin_82 : decode cX8_bin 82 = .ok (.iload_n 1, 1) := by decide +kernel
theorem dX8_bin_83 : decode cX8_bin 83 = .ok (.invokevirtual 228, 3) := by decide +kernel
theorem dX8_bin_86 : decode cX8_bin 86 = .ok (.ireturn, 1) := by decide +kernel
theorem dX8_group_0 : decode cX8_group 0 = .ok (.aload_n 0, 1) := by decide +kernel
theorem dX8_group_1 : decode cX8_group 1 = .ok (.iload_n 1, 1) := by decide +kernel
theorem dX8_group_2 : decode cX8_group 2 = .ok (.invokevirtual 215, 3) := by decide +kernel
theorem dX8_group_5 : decode cX8_group 5 = .ok (.ifCond .eq 11, 3) := by decide +kernel
theorem dX8_group_8 : decode cX8_group 8 = .ok (.iload_n 3, 1) := by decide +kernel
theorem dX8_group_9 : decode cX8_group 9 = .ok (.iconst 2, 1) := by decide +kernel
theorem dX8_group_10 : decode cX8_group 10 = .ok (.invokestatic 110, 3) := by decide +kernel
theorem dX8_group_13 : decode cX8_group 13 = .ok (.ifCond .ne 13, 3) := by decide +kernel
theorem dX8_group_16 : decode cX8_group 16 = .ok (.new 125, 3) := by decide +kernel
theorem dX8_group_19 : decode cX8_group 19 = .ok (.dup, 1) := by decide +kernel
theorem dX8_group_20 : decode cX8_group 20 = .ok (.ldc 218, 2) := by decide +kernel
theorem dX8_group_22 : decode cX8_group 22 = .ok (.invokespecial 129, 3) := by decide +kernel
theorem dX8_group_25 : decode cX8_group 25 = .ok (.athrow, 1) := by decide +kernel
theorem dX8_group_26 : decode cX8_group 26 = .ok (.aload_n 0, 1) := by decide +kernel
theorem dX8_group_27 : decode cX8_group 27 = .ok (.getfield 45, 3) := by decide +kernel
theorem dX8_group_30 : decode cX8_group 30 = .ok (.invokevirtual 182, 3) := by decide +kernel
theorem dX8_group_33 : decode cX8_group 33 = .ok (.ifCond .ne 13, 3) := by decide +kernel
theorem dX8_group_36 : decode cX8_group 36 = .ok (.new 220, 3) := by decide +kernel
theorem dX8_group_39 : decode cX8_group 39 = .ok (.dup, 1) := by decide +kernel
theorem dX8_group_40 : decode cX8_group 40 = .ok (.ldc 222, 2) := by decide +kernel
theorem dX8_group_42 : decode cX8_group 42 = .ok (.invokespecial 224, 3) := by decide +kernel
theorem dX8_group_45 : decode cX8_group 45 = .ok (.athrow, 1) := by decide +kernel
theorem dX8_group_46 : decode cX8_group 46 = .ok (.iload_n 2, 1) := by decide +kernel
theorem dX8_group_47 : decode cX8_group 47 = .ok (.ifCond .lt 18, 3) := by decide +kernel
theorem dX8_group_50 : decode cX8_group 50 = .ok (.iload_n 2, 1) := by decide +kernel
theorem dX8_group_51 : decode cX8_group 51 = .ok (.aload_n 0, 1) := by decide +kernel
theorem dX8_group_52 : decode cX8_group 52 = .ok (.getfield 45, 3) := by decide +kernel
theorem dX8_group_55 : decode cX8_group 55 = .ok (.invokevirtual 164, 3) := by decide +kernel
theorem dX8_group_58 : decode cX8_group 58 = .ok (.iload_n 1, 1) := by decide +kernel
theorem dX8_group_59 : decode cX8_group 59 = .ok (.invokevirtual 228, 3) := by decide +kernel
theorem dX8_group_62 : decode cX8_group 62 = .ok (.if_icmp .lt 13, 3) := by decide +kernel
theorem dX8_group_65 : decode cX8_group 65 = .ok (.new 125, 3) := by decide +kernel
theorem dX8_group_68 : decode cX8_group 68 = .ok (.dup, 1) := by decide +kernel
theorem dX8_group_69 : decode cX8_group 69 = .ok (.ldc 231, 2) := by decide +kernel
theorem dX8_group_71 : decode cX8_group 71 = .ok (.invokespecial 129, 3) := by decide +kernel
theorem dX8_group_74 : decode cX8_group 74 = .ok (.athrow, 1) := by decide +kernel
theorem dX8_group_75 : decode cX8_group 75 = .ok (.iload_n 3, 1) := by decide +kernel
theorem dX8_group_76 : decode cX8_group 76 = .ok (.ifCond .ne 16, 3) := by decide +kernel
theorem dX8_group_79 : decode cX8_group 79 = .ok (.aload_n 0, 1) := by decide +kernel
theorem dX8_group_80 : decode cX8_group 80 = .ok (.getfield 45, 3) := by decide +kernel
theorem dX8_group_83 : decode cX8_group 83 = .ok (.invokevirtual 164, 3) := by decide +kernel
theorem dX8_group_86 : decode cX8_group 86 = .ok (.iload_n 1, 1) := by decide +kernel
theorem dX8_group_87 : decode cX8_group 87 = .ok (.iload_n 2, 1) := by decide +kernel
theorem dX8_group_88 : decode cX8_group 88 = .ok (.invokevirtual 233, 3) := by decide +kernel
theorem dX8_group_91 : decode cX8_group 91 = .ok (.ireturn, 1) := by decide +kernel
theorem dX8_group_92 : decode cX8_group 92 = .ok (.iload_n 3, 1) := by decide +kernel
theorem dX8_group_93 : decode cX8_group 93 = .ok (.iconst 1, 1) := by decide +kernel
theorem dX8_group_94 : decode cX8_group 94 = .ok (.if_icmp .ne 15, 3) := by decide +kernel
theorem dX8_group_97 : decode cX8_group 97 = .ok (.aload_n 0, 1) := by decide +kernel
theorem dX8_group_98 : decode cX8_group 98 = .ok (.getfield 45, 3) := by decide +kernel
theorem dX8_group_101 : decode cX8_group 101 = .ok (.iload_n 1, 1) := by decide +kernel
theorem dX8_group_102 : decode cX8_group 102 = .ok (.iload_n 2, 1) := by decide +kernel
theorem dX8_group_103 : decode cX8_group 103 = .ok (.invokevirtual 235, 3) := by decide +kernel
theorem dX8_group_106 : decode cX8_group 106 = .ok (.goto 15, 3) := by decide +kernel
theorem dX8_group_109 : decode cX8_group 109 = .ok (.aload_n 0, 1) := by decide +kernel
theorem dX8_group_110 : decode cX8_group 110 = .ok (.getfield 45, 3) := by decide +kernel
theorem dX8_group_113 : decode cX8_group 113 = .ok (.invokevirtual 164, 3) := by decide +kernel
theorem dX8_group_116 : decode cX8_group 116 = .ok (.iload_n 1, 1) := by decide +kernel
theorem dX8_group_117 : decode cX8_group 117 = .ok (.iload_n 2, 1) := by decide +kernel
theorem dX8_group_118 : decode cX8_group 118 = .ok (.invokevirtual 238, 3) := by decide +kernel
theorem dX8_group_121 : decode cX8_group 121 = .ok (.ireturn, 1) := by decide +kernel
theorem dX8_write_0 : decode cX8_write 0 = .ok (.iload_n 1, 1) := by decide +kernel
theorem dX8_write_1 : decode cX8_write 1 = .ok (.invokestatic 77, 3) := by decide +kernel
theorem dX8_write_4 : decode cX8_write 4 = .ok (.ifCond .ne 13, 3) := by decide +kernel
theorem dX8_write_7 : decode cX8_write 7 = .ok (.new 64, 3) := by decide +kernel
theorem dX8_write_10 : decode cX8_write 10 = .ok (.dup, 1) := by decide +kernel
theorem dX8_write_11 : decode cX8_write 11 = .ok (.ldc 81, 2) := by decide +kernel
theorem dX8_write_13 : decode cX8_write 13 = .ok (.invokespecial 68, 3) := by decide +kernel
theorem dX8_write_16 : decode cX8_write 16 = .ok (.athrow, 1) := by decide +kernel
theorem dX8_write_17 : decode cX8_write 17 = .ok (.iload_n 2, 1) := by decide +kernel
theorem dX8_write_18 : decode cX8_write 18 = .ok (.bipush (-2), 2) := by decide +kernel
theorem dX8_write_20 : decode cX8_write 20 = .ok (.if_icmp .eq 21, 3) := by decide +kernel
theorem dX8_write_23 : decode cX8_write 23 = .ok (.aload_n 0, 1) := by decide +kernel
theorem dX8_write_24 : decode cX8_write 24 = .ok (.iload_n 2, 1) := by decide +kernel
theorem dX8_write_25 : decode cX8_write 25 = .ok (.invokevirtual 215, 3) := by decide +kernel
theorem dX8_write_28 : decode cX8_write 28 = .ok (.ifCond .ne 13, 3) := by decide +kernel
theorem dX8_write_31 : decode cX8_write 31 = .ok (.new 125, 3) := by decide +kernel
theorem dX8_write_34 : decode cX8_write 34 = .ok (.dup, 1) := by decide +kernel
theorem dX8_write_35 : decode cX8_write 35 = .ok (.ldc 241, 2) := by decide +kernel
theorem dX8_write_37 : decode cX8_write 37 = .ok (.invokespecial 129, 3) := by decide +kernel
theorem dX8_write_40 : decode cX8_write 40 = .ok (.athrow, 1) := by decide +kernel
theorem dX8_write_41 : decode cX8_write 41 = .ok (.iload_n 2, 1) := by decide +kernel
theorem dX8_write_42 : decode cX8_write 42 = .ok (.bipush (-2), 2) := by decide +kernel
theorem dX8_write_44 : decode cX8_write 44 = .ok (.if_icmp .eq 23, 3) := by decide +kernel
theorem dX8_write_47 : decode cX8_write 47 = .ok (.aload_n 0, 1) := by decide +kernel
theorem dX8_write_48 : decode cX8_write 48 = .ok (.getfield 45, 3) := by decide +kernel
theorem dX8_write_51 : decode cX8_write 51 = .ok (.invokevirtual 182, 3) := by decide +kernel
theorem dX8_write_54 : decode cX8_write 54 = .ok (.ifCond .ne 13, 3) := by decide +kernel
theorem dX8_write_57 : decode cX8_write 57 = .ok (.new 220, 3) := by decide +kernel
theorem dX8_write_60 : decode cX8_write 60 = .ok (.dup, 1) := by decide +kernel
theorem dX8_write_61 : decode cX8_write 61 = .ok (.ldc 222, 2) := by decide +kernel
theorem dX8_write_63 : decode cX8_write 63 = .ok (.invokespecial 224, 3) := by decide +kernel
theorem dX8_write_66 : decode cX8_write 66 = .ok (.athrow, 1) := by decide +kernel
theorem dX8_write_67 : decode cX8_write 67 = .ok (.aload_n 0, 1) := by decide +kernel
theorem dX8_write_68 : decode cX8_write 68 = .ok (.iload_n 1, 1) := by decide +kernel
theorem dX8_write_69 : decode cX8_write 69 = .ok (.iload_n 2, 1) := by decide +kernel
theorem dX8_write_70 : decode cX8_write 70 = .ok (.iload_n 3, 1) := by decide +kernel
theorem dX8_write_71 : decode cX8_write 71 = .ok (.invokevirtual 243, 3) := by decide +kernel
theorem dX8_write_74 : decode cX8_write 74 = .ok (.istore 4, 2) := by decide +kernel
theorem dX8_write_76 : decode cX8_write 76 = .ok (.iload 4, 2) := by decide +kernel
theorem dX8_write_78 : decode cX8_write 78 = .ok (.sipush 12000, 3) := by decide +kernel
theorem dX8_write_81 : decode cX8_write 81 = .ok (.if_icmp .le 5, 3) := by decide +kernel
theorem dX8_write_84 : decode cX8_write 84 = .ok (.iconst (-1), 1) := by decide +kernel
theorem dX8_write_85 : decode cX8_write 85 = .ok (.ireturn, 1) := by decide +kernel
theorem dX8_write_86 : decode cX8_write 86 = .ok (.aload_n 0, 1) := by decide +kernel
theorem dX8_write_87 : decode cX8_write 87 = .ok (.iload_n 1, 1) := by decide +kernel
theorem dX8_write_88 : decode cX8_write 88 = .ok (.iload_n 2, 1) := by decide +kernel
theorem dX8_write_89 : decode cX8_write 89 = .ok (.iload_n 3, 1) := by decide +kernel
theorem dX8_write_90 : decode cX8_write 90 = .ok (.invokevirtual 247, 3) := by decide +kernel
theorem dX8_write_93 : decode cX8_write 93 = .ok (.iload 4, 2) := by decide +kernel
theorem dX8_write_95 : decode cX8_write 95 = .ok (.ireturn, 1) := by decide +kernel
theorem dX8_out_0 : decode cX8_out 0 = .ok (.aload_n 0, 1) := by decide +kernel
theorem dX8_out_1 : decode cX8_out 1 = .ok (.getfield 18, 3) := by decide +kernel
theorem dX8_out_4 : decode cX8_out 4 = .ok (.iload_n 1, 1) := by decide +kernel
theorem dX8_out_5 : decode cX8_out 5 = .ok (.invokevirtual 251, 3) := by decide +kernel
theorem dX8_out_8 : decode cX8_out 8 = .ok (.istore_n 2, 1) := by decide +kernel
theorem dX8_out_9 : decode cX8_out 9 = .ok (.iload_n 2, 1) := by decide +kernel
theorem dX8_out_10 : decode cX8_out 10 = .ok (.iconst (-1), 1) := by decide +kernel
theorem dX8_out_11 : decode cX8_out 11 = .ok (.if_icmp .ne 13, 3) := by decide +kernel
theorem dX8_out_14 : decode cX8_out 14 = .ok (.new 125, 3) := by decide +kernel
theorem dX8_out_17 : decode cX8_out 17 = .ok (.dup, 1) := by decide +kernel
theorem dX8_out_18 : decode cX8_out 18 = .ok (.ldc 254, 2) := by decide +kernel
theorem dX8_out_20 : decode cX8_out 20 = .ok (.invokespecial 129, 3) := by decide +kernel
theorem dX8_out_23 : decode cX8_out 23 = .ok (.athrow, 1) := by decide +kernel
theorem dX8_out_24 : decode cX8_out 24 = .ok (.iload_n 2, 1) := by decide +kernel
theorem dX8_out_25 : decode cX8_out 25 = .ok (.ireturn, 1) := by decide +kernel
theorem dX8_again_0 : decode cX8_again 0 = .ok (.aload_n 0, 1) := by decide +kernel
theorem dX8_again_1 : decode cX8_again 1 = .ok (.getfield 18, 3) := by decide +kernel
theorem dX8_again_4 : decode cX8_again 4 = .ok (.invokevirtual 74, 3) := by decide +kernel
theorem dX8_again_7 : decode cX8_again 7 = .ok (.sipush 6000, 3) := by decide +kernel
theorem dX8_again_10 : decode cX8_again 10 = .ok (.if_icmp .le 5, 3) := by decide +kernel
theorem dX8_again_13 : decode cX8_again 13 = .ok (.iconst (-1), 1) := by decide +kernel
theorem dX8_again_14 : decode cX8_again 14 = .ok (.ireturn, 1) := by decide +kernel
theorem dX8_again_15 : decode cX8_again 15 = .ok (.aload_n 0, 1) := by decide +kernel
theorem dX8_again_16 : decode cX8_again 16 = .ok (.getfield 14, 3) := by decide +kernel
theorem dX8_again_19 : decode cX8_again 19 = .ok (.aload_n 0, 1) := by decide +kernel
theorem dX8_again_20 : decode cX8_again 20 = .ok (.getfield 18, 3) := by decide +kernel
theorem dX8_again_23 : decode cX8_again 23 = .ok (.invokevirtual 256, 3) := by decide +kernel
theorem dX8_again_26 : decode cX8_again 26 = .ok (.aload_n 0, 1) := by decide +kernel
theorem dX8_again_27 : decode cX8_again 27 = .ok (.getfield 14, 3) := by decide +kernel
theorem dX8_again_30 : decode cX8_again 30 = .ok (.invokevirtual 74, 3) := by decide +kernel
theorem dX8_again_33 : decode cX8_again 33 = .ok (.ireturn, 1) := by decide +kernel
theorem dX8_sizeOfText_0 : decode cX8_sizeOfText 0 = .ok (.iconst 0, 1) := by decide +kernel
theorem dX8_sizeOfText_1 : decode cX8_sizeOfText 1 = .ok (.istore 4, 2) := by decide +kernel
theorem dX8_sizeOfText_3 : decode cX8_sizeOfText 3 = .ok (.iconst 0, 1) := by decide +kernel
theorem dX8_sizeOfText_4 : decode cX8_sizeOfText 4 = .ok (.istore 5, 2) := by decide +kernel
theorem dX8_sizeOfText_6 : decode cX8_sizeOfText 6 = .ok (.iload 5, 2) := by decide +kernel
theorem dX8_sizeOfText_8 : decode cX8_sizeOfText 8 = .ok (.aload_n 0, 1) := by decide +kernel
theorem dX8_sizeOfText_9 : decode cX8_sizeOfText 9 = .ok (.getfield 52, 3) := by decide +kernel
theorem dX8_sizeOfText_12 : decode cX8_sizeOfText 12 = .ok (.invokevirtual 100, 3) := by decide +kernel
theorem dX8_sizeOfText_15 : decode cX8_sizeOfText 15 = .ok (.if_icmp .ge 53, 3) := by decide +kernel
theorem dX8_sizeOfText_18 : decode cX8_sizeOfText 18 = .ok (.aload_n 0, 1) := by decide +kernel
theorem dX8_sizeOfText_19 : decode cX8_sizeOfText 19 = .ok (.iload 5, 2) := by decide +kernel
theorem dX8_sizeOfText_21 : decode cX8_sizeOfText 21 = .ok (.iload_n 2, 1) := by decide +kernel
theorem dX8_sizeOfText_22 : decode cX8_sizeOfText 22 = .ok (.iload_n 3, 1) := by decide +kernel
theorem dX8_sizeOfText_23 : decode cX8_sizeOfText 23 = .ok (.invokevirtual 260, 3) := by decide +kernel
theorem dX8_sizeOfText_26 : decode cX8_sizeOfText 26 = .ok (.ifCond .eq 36, 3) := by decide +kernel
theorem dX8_sizeOfText_29 : decode cX8_sizeOfText 29 = .ok (.iload 4, 2) := by decide +kernel
theorem dX8_sizeOfText_31 : decode cX8_sizeOfText 31 = .ok (.aload_n 0, 1) := by decide +kernel
theorem dX8_sizeOfText_32 : decode cX8_sizeOfText 32 = .ok (.getfield 52, 3) := by decide +kernel
theorem dX8_sizeOfText_35 : decode cX8_sizeOfText 35 = .ok (.iload 5, 2) := by decide +kernel
theorem dX8_sizeOfText_37 : decode cX8_sizeOfText 37 = .ok (.invokevirtual 179, 3) := by decide +kernel
theorem dX8_sizeOfText_40 : decode cX8_sizeOfText 40 = .ok (.aload_n 0, 1) := by decide +kernel
theorem dX8_sizeOfText_41 : decode cX8_sizeOfText 41 = .ok (.iload 5, 2) := by decide +kernel
theorem dX8_sizeOfText_43 : decode cX8_sizeOfText 43 = .ok (.iload_n 2, 1) := by decide +kernel
theorem dX8_sizeOfText_44 : decode cX8_sizeOfText 44 = .ok (.invokevirtual 264, 3) := by decide +kernel
theorem dX8_sizeOfText_47 : decode cX8_sizeOfText 47 = .ok (.aload_n 0, 1) := by decide +kernel
theorem dX8_sizeOfText_48 : decode cX8_sizeOfText 48 = .ok (.iload 5, 2) := by decide +kernel
theorem dX8_sizeOfText_50 : decode cX8_sizeOfText 50 = .ok (.iload_n 2, 1) := by decide +kernel
theorem dX8_sizeOfText_51 : decode cX8_sizeOfText 51 = .ok (.invokevirtual 267, 3) := by decide +kernel
theorem dX8_sizeOfText_54 : decode cX8_sizeOfText 54 = .ok (.isub, 1) := by decide +kernel
theorem dX8_sizeOfText_55 : decode cX8_sizeOfText 55 = .ok (.iload_n 1, 1) := by decide +kernel
theorem dX8_sizeOfText_56 : decode cX8_sizeOfText 56 = .ok (.invokestatic 270, 3) := by decide +kernel
theorem dX8_sizeOfText_59 : decode cX8_sizeOfText 59 = .ok (.iadd, 1) := by decide +kernel
theorem dX8_sizeOfText_60 : decode cX8_sizeOfText 60 = .ok (.istore 4, 2) := by decide +kernel
theorem dX8_sizeOfText_62 : decode cX8_sizeOfText 62 = .ok (.iinc 5 1, 3) := by decide +kernel
theorem dX8_sizeOfText_65 : decode cX8_sizeOfText 65 = .ok (.goto (-59), 3) := by decide +kernel
theorem dX8_sizeOfText_68 : decode cX8_sizeOfText 68 = .ok (.iload 4, 2) := by decide +kernel
theorem dX8_sizeOfText_70 : decode cX8_sizeOfText 70 = .ok (.ireturn, 1) := by decide +kernel
theorem dX8_writeText_0 : decode cX8_writeText 0 = .ok (.aload_n 0, 1) := by decide +kernel
theorem dX8_writeText_1 : decode cX8_writeText 1 = .ok (.getfield 18, 3) := by decide +kernel
theorem dX8_writeText_4 : decode cX8_writeText 4 = .ok (.invokevirtual 87, 3) := by decide +kernel
theorem dX8_writeText_7 : decode cX8_writeText 7 = .ok (.iconst 0, 1) := by decide +kernel
theorem dX8_writeText_8 : decode cX8_writeText 8 = .ok (.istore 4, 2) := by decide +kernel
theorem dX8_writeText_10 : decode cX8_writeText 10 = .ok (.iload 4, 2) := by decide +kernel
theorem dX8_writeText_12 : decode cX8_writeText 12 = .ok (.aload_n 0, 1) := by decide +kernel
theorem dX8_writeText_13 : decode cX8_writeText 13 = .ok (.getfield 52, 3) := by decide +kernel
theorem dX8_writeText_16 : decode cX8_writeText 16 = .ok (.invokevirtual 100, 3) := by decide +kernel
theorem dX8_writeText_19 : decode cX8_writeText 19 = .ok (.if_icmp .ge 48, 3) := by decide +kernel
theorem dX8_writeText_22 : decode cX8_writeText 22 = .ok (.aload_n 0, 1) := by decide +kernel
theorem dX8_writeText_23 : decode cX8_writeText 23 = .ok (.iload 4, 2) := by decide +kernel
theorem dX8_writeText_25 : decode cX8_writeText 25 = .ok (.iload_n 2, 1) := by decide +kernel
theorem dX8_writeText_26 : decode cX8_writeText 26 = .ok (.iload_n 3, 1) := by decide +kernel
theorem dX8_writeText_27 : decode cX8_writeText 27 = .ok (.invokevirtual 260, 3) := by decide +kernel
theorem dX8_writeText_30 : decode cX8_writeText 30 = .ok (.ifCond .eq 31, 3) := by decide +kernel
theorem dX8_writeText_33 : decode cX8_writeText 33 = .ok (.aload_n 0, 1) := by decide +kernel
theorem dX8_writeText_34 : decode cX8_writeText 34 = .ok (.getfield 18, 3) := by decide +kernel
theorem dX8_writeText_37 : decode cX8_writeText 37 = .ok (.aload_n 0, 1) := by decide +kernel
theorem dX8_writeText_38 : decode cX8_writeText 38 = .ok (.getfield 52, 3) := by decide +kernel
theorem dX8_writeText_41 : decode cX8_writeText 41 = .ok (.iload 4, 2) := by decide +kernel
theorem dX8_writeText_43 : decode cX8_writeText 43 = .ok (.iload_n 1, 1) := by decide +kernel
theorem dX8_writeText_44 : decode cX8_writeText 44 = .ok (.aload_n 0, 1) := by decide +kernel
theorem dX8_writeText_45 : decode cX8_writeText 45 = .ok (.iload 4, 2) := by decide +kernel
theorem dX8_writeText_47 : decode cX8_writeText 47 = .ok (.iload_n 2, 1) := by decide +kernel
theorem dX8_writeText_48 : decode cX8_writeText 48 = .ok (.invokevirtual 267, 3) := by decide +kernel
theorem dX8_writeText_51 : decode cX8_writeText 51 = .ok (.aload_n 0, 1) := by decide +kernel
theorem dX8_writeText_52 : decode cX8_writeText 52 = .ok (.iload 4, 2) := by decide +kernel
theorem dX8_writeText_54 : decode cX8_writeText 54 = .ok (.iload_n 2, 1) := by decide +kernel
theorem dX8_writeText_55 : decode cX8_writeText 55 = .ok (.invokevirtual 264, 3) := by decide +kernel
theorem dX8_writeText_58 : decode cX8_writeText 58 = .ok (.invokestatic 276, 3) := by decide +kernel
theorem dX8_writeText_61 : decode cX8_writeText 61 = .ok (.iinc 4 1, 3) := by decide +kernel
theorem dX8_writeText_64 : decode cX8_writeText 64 = .ok (.goto (-54), 3) := by decide +kernel
theorem dX8_writeText_67 : decode cX8_writeText 67 = .ok (.return_, 1) := by decide +kernel
theorem dX8_isChosen_0 : decode cX8_isChosen 0 = .ok (.aload_n 0, 1) := by decide +kernel
theorem dX8_isChosen_1 : decode cX8_isChosen 1 = .ok (.iload_n 1, 1) := by decide +kernel
theorem dX8_isChosen_2 : decode cX8_isChosen 2 = .ok (.iload_n 2, 1) := by decide +kernel
theorem dX8_isChosen_3 : decode cX8_isChosen 3 = .ok (.invokevirtual 267, 3) := by decide +kernel
theorem dX8_isChosen_6 : decode cX8_isChosen 6 = .ok (.aload_n 0, 1) := by decide +kernel
theorem dX8_isChosen_7 : decode cX8_isChosen 7 = .ok (.iload_n 1, 1) := by decide +kernel
theorem dX8_isChosen_8 : decode cX8_isChosen 8 = .ok (.iload_n 2, 1) := by decide +kernel
theorem dX8_isChosen_9 : decode cX8_isChosen 9 = .ok (.invokevirtual 264, 3) := by decide +kernel
theorem dX8_isChosen_12 : decode cX8_isChosen 12 = .ok (.if_icmp .lt 5, 3) := by decide +kernel
theorem dX8_isChosen_15 : decode cX8_isChosen 15 = .ok (.iconst 0, 1) := by decide +kernel
theorem dX8_isChosen_16 : decode cX8_isChosen 16 = .ok (.ireturn, 1) := by decide +kernel
theorem dX8_isChosen_17 : decode cX8_isChosen 17 = .ok (.iload_n 2, 1) := by decide +kernel
theorem dX8_isChosen_18 : decode cX8_isChosen 18 = .ok (.bipush (-2), 2) := by decide +kernel
theorem dX8_isChosen_20 : decode cX8_isChosen 20 = .ok (.if_icmp .ne 5, 3) := by decide +kernel
theorem dX8_isChosen_23 : decode cX8_isChosen 23 = .ok (.iconst 1, 1) := by decide +kernel
theorem dX8_isChosen_24 : decode cX8_isChosen 24 = .ok (.ireturn, 1) := by decide +kernel
theorem dX8_isChosen_25 : decode cX8_isChosen 25 = .ok (.aload_n 0, 1) := by decide +kernel
theorem dX8_isChosen_26 : decode cX8_isChosen 26 = .ok (.getfield 45, 3) := by decide +kernel
theorem dX8_isChosen_29 : decode cX8_isChosen 29 = .ok (.iload_n 1, 1) := by decide +kernel
theorem dX8_isChosen_30 : decode cX8_isChosen 30 = .ok (.invokevirtual 189, 3) := by decide +kernel
theorem dX8_isChosen_33 : decode cX8_isChosen 33 = .ok (.iload_n 2, 1) := by decide +kernel
theorem dX8_isChosen_34 : decode cX8_isChosen 34 = .ok (.if_icmp .ne 33, 3) := by decide +kernel
theorem dX8_isChosen_37 : decode cX8_isChosen 37 = .ok (.aload_n 0, 1) := by decide +kernel
theorem dX8_isChosen_38 : decode cX8_isChosen 38 = .ok (.getfield 45, 3) := by decide +kernel
theorem dX8_isChosen_41 : decode cX8_isChosen 41 = .ok (.iload_n 1, 1) := by decide +kernel
theorem dX8_isChosen_42 : decode cX8_isChosen 42 = .ok (.invokevirtual 198, 3) := by decide +kernel
theorem dX8_isChosen_45 : decode cX8_isChosen 45 = .ok (.ifCond .ne 22, 3) := by decide +kernel
theorem dX8_isChosen_48 : decode cX8_isChosen 48 = .ok (.iload_n 3, 1) := by decide +kernel
theorem dX8_isChosen_49 : decode cX8_isChosen 49 = .ok (.ifCond .eq 14, 3) := by decide +kernel
theorem dX8_isChosen_52 : decode cX8_isChosen 52 = .ok (.aload_n 0, 1) := by decide +kernel
theorem dX8_isChosen_53 : decode cX8_isChosen 53 = .ok (.getfield 45, 3) := by decide +kernel
theorem dX8_isChosen_56 : decode cX8_isChosen 56 = .ok (.iload_n 1, 1) := by decide +kernel
theorem dX8_isChosen_57 : decode cX8_isChosen 57 = .ok (.invokevirtual 280, 3) := by decide +kernel
theorem dX8_isChosen_60 : decode cX8_isChosen 60 = .ok (.ifCond .eq 7, 3) := by decide +kernel
theorem dX8_isChosen_63 : decode cX8_isChosen 63 = .ok (.iconst 1, 1) := by decide +kernel
theorem dX8_isChosen_64 : decode cX8_isChosen 64 = .ok (.goto 4, 3) := by decide +kernel
theorem dX8_isChosen_67 : decode cX8_isChosen 67 = .ok (.iconst 0, 1) := by decide +kernel
theorem dX8_isChosen_68 : decode cX8_isChosen 68 = .ok (.ireturn, 1) := by decide +kernel
theorem dX8_firstOf_0 : decode cX8_firstOf 0 = .ok (.iload_n 2, 1) := by decide +kernel
theorem dX8_firstOf_1 : decode cX8_firstOf 1 = .ok (.bipush (-2), 2) := by decide +kernel
theorem dX8_firstOf_3 : decode cX8_firstOf 3 = .ok (.if_icmp .ne 7, 3) := by decide +kernel
theorem dX8_firstOf_6 : decode cX8_firstOf 6 = .ok (.iconst 0, 1) := by decide +kernel
theorem dX8_firstOf_7 : decode cX8_firstOf 7 = .ok (.goto 11, 3) := by decide +kernel
theorem dX8_firstOf_10 : decode cX8_firstOf 10 = .ok (.aload_n 0, 1) := by decide +kernel
theorem dX8_firstOf_11 : decode cX8_firstOf 11 = .ok (.getfield 45, 3) := by decide +kernel
theorem dX8_firstOf_14 : decode cX8_firstOf 14 = .ok (.iload_n 1, 1) := by decide +kernel
theorem dX8_firstOf_15 : decode cX8_firstOf 15 = .ok (.invokevirtual 192, 3) := by decide +kernel
theorem dX8_firstOf_18 : decode cX8_firstOf 18 = .ok (.ireturn, 1) := by decide +kernel
theorem dX8_lastOf_0 : decode cX8_lastOf 0 = .ok (.iload_n 2, 1) := by decide +kernel
theorem dX8_lastOf_1 : decode cX8_lastOf 1 = .ok (.bipush (-2), 2) := by decide +kernel
theorem dX8_lastOf_3 : decode cX8_lastOf 3 = .ok (.if_icmp .ne 14, 3) := by decide +kernel
theorem dX8_lastOf_6 : decode cX8_lastOf 6 = .ok (.aload_n 0, 1) := by decide +kernel
theorem dX8_lastOf_7 : decode cX8_lastOf 7 = .ok (.getfield 52, 3) := by decide +kernel
theorem dX8_lastOf_10 : decode cX8_lastOf 10 = .ok (.iload_n 1, 1) := by decide +kernel
theorem dX8_lastOf_11 : decode cX8_lastOf 11 = .ok (.invokevirtual 146, 3) := by decide +kernel
theorem dX8_lastOf_14 : decode cX8_lastOf 14 = .ok (.goto 11, 3) := by decide +kernel
theorem dX8_lastOf_17 : decode cX8_lastOf 17 = .ok (.aload_n 0, 1) := by decide +kernel
theorem dX8_lastOf_18 : decode cX8_lastOf 18 = .ok (.getfield 45, 3) := by decide +kernel
theorem dX8_lastOf_21 : decode cX8_lastOf 21 = .ok (.iload_n 1, 1) := by decide +kernel
theorem dX8_lastOf_22 : decode cX8_lastOf 22 = .ok (.invokevirtual 195, 3) := by decide +kernel
theorem dX8_lastOf_25 : decode cX8_lastOf 25 = .ok (.ireturn, 1) := by decide +kernel
theorem dX8_hasBin_0 : decode cX8_hasBin 0 = .ok (.aload_n 0, 1) := by decide +kernel
theorem dX8_hasBin_1 : decode cX8_hasBin 1 = .ok (.getfield 45, 3) := by decide +kernel
theorem dX8_hasBin_4 : decode cX8_hasBin 4 = .ok (.invokevirtual 182, 3) := by decide +kernel
theorem dX8_hasBin_7 : decode cX8_hasBin 7 = .ok (.ifCond .eq 13, 3) := by decide +kernel
theorem dX8_hasBin_10 : decode cX8_hasBin 10 = .ok (.aload_n 0, 1) := by decide +kernel
theorem dX8_hasBin_11 : decode cX8_hasBin 11 = .ok (.getfield 45, 3) := by decide +kernel
theorem dX8_hasBin_14 : decode cX8_hasBin 14 = .ok (.invokevirtual 283, 3) := by decide +kernel
theorem dX8_hasBin_17 : decode cX8_hasBin 17 = .ok (.goto 10, 3) := by decide +kernel
theorem dX8_hasBin_20 : decode cX8_hasBin 20 = .ok (.aload_n 0, 1) := by decide +kernel
theorem dX8_hasBin_21 : decode cX8_hasBin 21 = .ok (.getfield 31, 3) := by decide +kernel
theorem dX8_hasBin_24 : decode cX8_hasBin 24 = .ok (.invokevirtual 121, 3) := by decide +kernel
theorem dX8_hasBin_27 : decode cX8_hasBin 27 = .ok (.istore_n 2, 1) := by decide +kernel
theorem dX8_hasBin_28 : decode cX8_hasBin 28 = .ok (.iload_n 1, 1) := by decide +kernel
theorem dX8_hasBin_29 : decode cX8_hasBin 29 = .ok (.iconst (-1), 1) := by decide +kernel
theorem dX8_hasBin_30 : decode cX8_hasBin 30 = .ok (.if_icmp .lt 12, 3) := by decide +kernel
theorem dX8_hasBin_33 : decode cX8_hasBin 33 = .ok (.iload_n 1, 1) := by decide +kernel
theorem dX8_hasBin_34 : decode cX8_hasBin 34 = .ok (.iload_n 2, 1) := by decide +kernel
theorem dX8_hasBin_35 : decode cX8_hasBin 35 = .ok (.if_icmp .ge 7, 3) := by decide +kernel
theorem dX8_hasBin_38 : decode cX8_hasBin 38 = .ok (.iconst 1, 1) := by decide +kernel
theorem dX8_hasBin_39 : decode cX8_hasBin 39 = .ok (.goto 4, 3) := by decide +kernel
theorem dX8_hasBin_42 : decode cX8_hasBin 42 = .ok (.iconst 0, 1) := by decide +kernel
theorem dX8_hasBin_43 : decode cX8_hasBin 43 = .ok (.ireturn, 1) := by decide +kernel
theorem dX8_isForm_0 : decode cX8_isForm 0 = .ok (.iload_n 0, 1) := by decide +kernel
theorem dX8_isForm_1 : decode cX8_isForm 1 = .ok (.ifCond .eq 8, 3) := by decide +kernel
theorem dX8_isForm_4 : decode cX8_isForm 4 = .ok (.iload_n 0, 1) := by decide +kernel
theorem dX8_isForm_5 : decode cX8_isForm 5 = .ok (.iconst 1, 1) := by decide +kernel
theorem dX8_isForm_6 : decode cX8_isForm 6 = .ok (.if_icmp .ne 7, 3) := by decide +kernel
theorem dX8_isForm_9 : decode cX8_isForm 9 = .ok (.iconst 1, 1) := by decide +kernel
theorem dX8_isForm_10 : decode cX8_isForm 10 = .ok (.goto 4, 3) := by decide +kernel
theorem dX8_isForm_13 : decode cX8_isForm 13 = .ok (.iconst 0, 1) := by decide +kernel
theorem dX8_isForm_14 : decode cX8_isForm 14 = .ok (.ireturn, 1) := by decide +kernel
theorem dX8_isWithin_0 : decode cX8_isWithin 0 = .ok (.iload_n 0, 1) := by decide +kernel
theorem dX8_isWithin_1 : decode cX8_isWithin 1 = .ok (.ifCond .lt 12, 3) := by decide +kernel
theorem dX8_isWithin_4 : decode cX8_isWithin 4 = .ok (.iload_n 0, 1) := by decide +kernel
theorem dX8_isWithin_5 : decode cX8_isWithin 5 = .ok (.iload_n 1, 1) := by decide +kernel
theorem dX8_isWithin_6 : decode cX8_isWithin 6 = .ok (.if_icmp .gt 7, 3) := by decide +kernel
theorem dX8_isWithin_9 : decode cX8_isWithin 9 = .ok (.iconst 1, 1) := by decide +kernel
theorem dX8_isWithin_10 : decode cX8_isWithin 10 = .ok (.goto 4, 3) := by decide +kernel
theorem dX8_isWithin_13 : decode cX8_isWithin 13 = .ok (.iconst 0, 1) := by decide +kernel
theorem dX8_isWithin_14 : decode cX8_isWithin 14 = .ok (.ireturn, 1) := by decide +kernel
theorem dX8_isSign_0 : decode cX8_isSign 0 = .ok (.iload_n 0, 1) := by decide +kernel
theorem dX8_isSign_1 : decode cX8_isSign 1 = .ok (.bipush 33, 2) := by decide +kernel
theorem dX8_isSign_3 : decode cX8_isSign 3 = .ok (.if_icmp .lt 13, 3) := by decide +kernel
theorem dX8_isSign_6 : decode cX8_isSign 6 = .ok (.iload_n 0, 1) := by decide +kernel
theorem dX8_isSign_7 : decode cX8_isSign 7 = .ok (.bipush 126, 2) := by decide +kernel
theorem dX8_isSign_9 : decode cX8_isSign 9 = .ok (.if_icmp .gt 7, 3) := by decide +kernel
theorem dX8_isSign_12 : decode cX8_isSign 12 = .ok (.iconst 1, 1) := by decide +kernel
theorem dX8_isSign_13 : decode cX8_isSign 13 = .ok (.goto 4, 3) := by decide +kernel
theorem dX8_isSign_16 : decode cX8_isSign 16 = .ok (.iconst 0, 1) := by decide +kernel
theorem dX8_isSign_17 : decode cX8_isSign 17 = .ok (.ireturn, 1) := by decide +kernel
theorem dX8_isBase_0 : decode cX8_isBase 0 = .ok (.iload_n 0, 1) := by decide +kernel
theorem dX8_isBase_1 : decode cX8_isBase 1 = .ok (.bipush 65, 2) := by decide +kernel
theorem dX8_isBase_3 : decode cX8_isBase 3 = .ok (.if_icmp .eq 21, 3) := by decide +kernel
theorem dX8_isBase_6 : decode cX8_isBase 6 = .ok (.iload_n 0, 1) := by decide +kernel
theorem dX8_isBase_7 : decode cX8_isBase 7 = .ok (.bipush 67, 2) := by decide +kernel
theorem dX8_isBase_9 : decode cX8_isBase 9 = .ok (.if_icmp .eq 15, 3) := by decide +kernel
theorem dX8_isBase_12 : decode cX8_isBase 12 = .ok (.iload_n 0, 1) := by decide +kernel
theorem dX8_isBase_13 : decode cX8_isBase 13 = .ok (.bipush 71, 2) := by decide +kernel
theorem dX8_isBase_15 : decode cX8_isBase 15 = .ok (.if_icmp .eq 9, 3) := by decide +kernel
theorem dX8_isBase_18 : decode cX8_isBase 18 = .ok (.iload_n 0, 1) := by decide +kernel
theorem dX8_isBase_19 : decode cX8_isBase 19 = .ok (.bipush 84, 2) := by decide +kernel
theorem dX8_isBase_21 : decode cX8_isBase 21 = .ok (.if_icmp .ne 7, 3) := by decide +kernel
theorem dX8_isBase_24 : decode cX8_isBase 24 = .ok (.iconst 1, 1) := by decide +kernel
theorem dX8_isBase_25 : decode cX8_isBase 25 = .ok (.goto 4, 3) := by decide +kernel
theorem dX8_isBase_28 : decode cX8_isBase 28 = .ok (.iconst 0, 1) := by decide +kernel
theorem dX8_isBase_29 : decode cX8_isBase 29 = .ok (.ireturn, 1) := by decide +kernel
theorem dX8_isLetter_0 : decode cX8_isLetter 0 = .ok (.iload_n 0, 1) := by decide +kernel
theorem dX8_isLetter_1 : decode cX8_isLetter 1 = .ok (.invokestatic 286, 3) := by decide +kernel
theorem dX8_isLetter_4 : decode cX8_isLetter 4 = .ok (.ifCond .ne 9, 3) := by decide +kernel
theorem dX8_isLetter_7 : decode cX8_isLetter 7 = .ok (.iload_n 0, 1) := by decide +kernel
theorem dX8_isLetter_8 : decode cX8_isLetter 8 = .ok (.bipush 78, 2) := by decide +kernel
theorem dX8_isLetter_10 : decode cX8_isLetter 10 = .ok (.if_icmp .ne 7, 3) := by decide +kernel
theorem dX8_isLetter_13 : decode cX8_isLetter 13 = .ok (.iconst 1, 1) := by decide +kernel
theorem dX8_isLetter_14 : decode cX8_isLetter 14 = .ok (.goto 4, 3) := by decide +kernel
theorem dX8_isLetter_17 : decode cX8_isLetter 17 = .ok (.iconst 0, 1) := by decide +kernel
theorem dX8_isLetter_18 : decode cX8_isLetter 18 = .ok (.ireturn, 1) := by decide +kernel
end
section
theorem dX9_init_0 : decode cX9_init 0 = .ok (.aload_n 0, 1) := by decide +kernel
theorem dX9_init_1 : decode cX9_init 1 = .ok (.invokespecial 1, 3) := by decide +kernel
theorem dX9_init_4 : decode cX9_init 4 = .ok (.aload_n 0, 1) := by decide +kernel
theorem dX9_init_5 : decode cX9_init 5 = .ok (.sipush 6000, 3) := by decide +kernel
theorem dX9_init_8 : decode cX9_init 8 = .ok (.newarray .int, 2) := by decide +kernel
theorem dX9_init_10 : decode cX9_init 10 = .ok (.putfield 7, 3) := by decide +kernel
theorem dX9_init_13 : decode cX9_init 13 = .ok (.aload_n 0, 1) := by decide +kernel
theorem dX9_init_14 : decode cX9_init 14 = .ok (.iconst (-1), 1) := by decide +kernel
theorem dX9_init_15 : decode cX9_init 15 = .ok (.putfield 13, 3) := by decide +kernel
theorem dX9_init_18 : decode cX9_init 18 = .ok (.aload_n 0, 1) := by decide +kernel
theorem dX9_init_19 : decode cX9_init 19 = .ok (.bipush 120, 2) := by decide +kernel
theorem dX9_init_21 : decode cX9_init 21 = .ok (.newarray .int, 2) := by decide +kernel
theorem dX9_init_23 : decode cX9_init 23 = .ok (.putfield 17, 3) := by decide +kernel
theorem dX9_init_26 : decode cX9_init 26 = .ok (.aload_n 0, 1) := by decide +kernel
theorem dX9_init_27 : decode cX9_init 27 = .ok (.sipush 4800, 3) := by decide +kernel
theorem dX9_init_30 : decode cX9_init 30 = .ok (.newarray .int, 2) := by decide +kernel
theorem dX9_init_32 : decode cX9_init 32 = .ok (.putfield 20, 3) := by decide +kernel
theorem dX9_init_35 : decode cX9_init 35 = .ok (.aload_n 0, 1) := by decide +kernel
theorem dX9_init_36 : decode cX9_init 36 = .ok (.bipush 120, 2) := by decide +kernel
theorem dX9_init_38 : decode cX9_init 38 = .ok (.newarray .int, 2) := by decide +kernel
theorem dX9_init_40 : decode cX9_init 40 = .ok (.putfield 23, 3) := by decide +kernel
theorem dX9_init_43 : decode cX9_init 43 = .ok (.aload_n 0, 1) := by decide +kernel
theorem dX9_init_44 : decode cX9_init 44 = .ok (.sipush 14400, 3) := by decide +kernel
theorem dX9_init_47 : decode cX9_init 47 = .ok (.newarray .int, 2) := by decide +kernel
theorem dX9_init_49 : decode cX9_init 49 = .ok (.putfield 26, 3) := by decide +kernel
theorem dX9_init_52 : decode cX9_init 52 = .ok (.aload_n 0, 1) := by decide +kernel
theorem dX9_init_53 : decode cX9_init 53 = .ok (.sipush 14400, 3) := by decide +kernel
theorem dX9_init_56 : decode cX9_init 56 = .ok (.newarray .int, 2) := by decide +kernel
theorem dX9_init_58 : decode cX9_init 58 = .ok (.putfield 29, 3) := by decide +kernel
theorem dX9_init_61 : decode cX9_init 61 = .ok (.aload_n 0, 1) := by decide +kernel
theorem dX9_init_62 : decode cX9_init 62 = .ok (.sipush 192, 3) := by decide +kernel
theorem dX9_init_65 : decode cX9_init 65 = .ok (.newarray .int, 2) := by decide +kernel
theorem dX9_init_67 : decode cX9_init 67 = .ok (.putfield 32, 3) := by decide +kernel
theorem dX9_init_70 : decode cX9_init 70 = .ok (.aload_n 0, 1) := by decide +kernel
theorem dX9_init_71 : decode cX9_init 71 = .ok (.bipush 30, 2) := by decide +kernel
theorem dX9_init_73 : decode cX9_init 73 = .ok (.newarray .int, 2) := by decide +kernel
theorem dX9_init_75 : decode cX9_init 75 = .ok (.putfield 35, 3) := by decide +kernel
theorem dX9_init_78 : decode cX9_init 78 = .ok (.aload_n 0, 1) := by decide +kernel
theorem dX9_init_79 : decode cX9_init 79 = .ok (.iconst 1, 1) := by decide +kernel
theorem dX9_init_80 : decode cX9_init 80 = .ok (.putfield 38, 3) := by decide +kernel
theorem dX9_init_83 : decode cX9_init 83 = .ok (.aload_n 0, 1) := by decide +kernel
theorem dX9_init_84 : decode cX9_init 84 = .ok (.bipush 60, 2) := by decide +kernel
theorem dX9_init_86 : decode cX9_init 86 = .ok (.newarray .int, 2) := by decide +kernel
theorem dX9_init_88 : decode cX9_init 88 = .ok (.putfield 41, 3) := by decide +kernel
theorem dX9_init_91 : decode cX9_init 91 = .ok (.aload_n 0, 1) := by decide +kernel
theorem dX9_init_92 : decode cX9_init 92 = .ok (.bipush 60, 2) := by decide +kernel
theorem dX9_init_94 : decode cX9_init 94 = .ok (.newarray .int, 2) := by decide +kernel
theorem dX9_init_96 : decode cX9_init 96 = .ok (.putfield 44, 3) := by decide +kernel
theorem dX9_init_99 : decode cX9_init 99 = .ok (.aload_n 0, 1) := by decide +kernel
theorem dX9_init_100 : decode cX9_init 100 = .ok (.bipush 60, 2) := by decide +kernel
theorem dX9_init_102 : decode cX9_init 102 = .ok (.newarray .int, 2) := by decide +kernel
theorem dX9_init_104 : decode cX9_init 104 = .ok (.putfield 47, 3) := by decide +kernel
theorem dX9_init_107 : decode cX9_init 107 = .ok (.aload_n 0, 1) := by decide +kernel
theorem dX9_init_108 : decode cX9_init 108 = .ok (.bipush 60, 2) := by decide +kernel
theorem dX9_init_110 : decode cX9_init 110 = .ok (.newarray .boolean, 2) := by decide +kernel
theorem dX9_init_112 : decode cX9_init 112 = .ok (.putfield 50, 3) := by decide +kernel
theorem dX9_init_115 : decode cX9_init 115 = .ok (.aload_n 0, 1) := by decide +kernel
theorem dX9_init_116 : decode cX9_init 116 = .ok (.bipush 60, 2) := by decide +kernel
theorem dX9_init_118 : decode cX9_init 118 = .ok (.newarray .int, 2) := by decide +kernel
theorem dX9_init_120 : decode cX9_init 120 = .ok (.putfield 54, 3) := by decide +kernel
theorem dX9_init_123 : decode cX9_init 123 = .ok (.aload_n 0, 1) := by decide +kernel
theorem dX9_init_124 : decode cX9_init 124 = .ok (.sipush 12000, 3) := by decide +kernel
theorem dX9_init_127 : decode cX9_init 127 = .ok (.newarray .int, 2) := by decide +kernel
theorem dX9_init_129 : decode cX9_init 129 = .ok (.putfield 57, 3) := by decide +kernel
theorem dX9_init_132 : decode cX9_init 132 = .ok (.aload_n 0, 1) := by decide +kernel
theorem dX9_init_133 : decode cX9_init 133 = .ok (.sipush 12000, 3) := by decide +kernel
theorem dX9_init_136 : decode cX9_init 136 = .ok (.newarray .int, 2) := by decide +kernel
theorem dX9_init_138 : decode cX9_init 138 = .ok (.putfield 60, 3) := by decide +kernel
theorem dX9_init_141 : decode cX9_init 141 = .ok (.aload_n 0, 1) := by decide +kernel
theorem dX9_init_142 : decode cX9_init 142 = .ok (.iconst 0, 1) := by decide +kernel
theorem dX9_init_143 : decode cX9_init 143 = .ok (.putfield 63, 3) := by decide +kernel
theorem dX9_init_146 : decode cX9_init 146 = .ok (.return_, 1) := by decide +kernel
theorem dX9_thrown_0 : decode cX9_thrown 0 = .ok (.aload_n 0, 1) := by decide +kernel
theorem dX9_thrown_1 : decode cX9_thrown 1 = .ok (.getfield 66, 3) := by decide +kernel
theorem dX9_thrown_4 : decode cX9_thrown 4 = .ok (.ireturn, 1) := by decide +kernel
theorem dX9_feed_0 : decode cX9_feed 0 = .ok (.aload_n 0, 1) := by decide +kernel
theorem dX9_feed_1 : decode cX9_feed 1 = .ok (.iload_n 1, 1) := by decide +kernel
theorem dX9_feed_2 : decode cX9_feed 2 = .ok (.iconst 1, 1) := by decide +kernel
theorem dX9_feed_3 : decode cX9_feed 3 = .ok (.if_icmp .lt 21, 3) := by decide +kernel
theorem dX9_feed_6 : decode cX9_feed 6 = .ok (.iload_n 1, 1) := by decide +kernel
theorem dX9_feed_7 : decode cX9_feed 7 = .ok (.bipush 8, 2) := by decide +kernel
theorem dX9_feed_9 : decode cX9_feed 9 = .ok (.if_icmp .gt 15, 3) := by decide +kernel
theorem dX9_feed_12 : decode cX9_feed 12 = .ok (.aload_n 0, 1) := by decide +kernel
theorem dX9_feed_13 : decode cX9_feed 13 = .ok (.getfield 69, 3) := by decide +kernel
theorem dX9_feed_16 : decode cX9_feed 16 = .ok (.iload_n 1, 1) := by decide +kernel
theorem dX9_feed_17 : decode cX9_feed 17 = .ok (.iadd, 1) := by decide +kernel
theorem dX9_feed_18 : decode cX9_feed 18 = .ok (.sipush 6000, 3) := by decide +kernel
theorem dX9_feed_21 : decode cX9_feed 21 = .ok (.if_icmp .le 7, 3) := by decide +kernel
theorem dX9_feed_24 : decode cX9_feed 24 = .ok (.iconst 1, 1) := by decide +kernel
theorem dX9_feed_25 : decode cX9_feed 25 = .ok (.goto 4, 3) := by decide +kernel
theorem dX9_feed_28 : decode cX9_feed 28 = .ok (.iconst 0, 1) := by decide +kernel
theorem dX9_feed_29 : decode cX9_feed 29 = .ok (.putfield 66, 3) := by decide +kernel
theorem dX9_feed_32 : decode cX9_feed 32 = .ok (.aload_n 0, 1) := by decide +kernel
theorem dX9_feed_33 : decode cX9_feed 33 = .ok (.getfield 66, 3) := by decide +kernel
theorem dX9_feed_36 : decode cX9_feed 36 = .ok (.ifCond .le 5, 3) := by decide +kernel
theorem dX9_feed_39 : decode cX9_feed 39 = .ok (.iconst 0, 1) := by decide +kernel
theorem dX9_feed_40 : decode cX9_feed 40 = .ok (.ireturn, 1) := by decide +kernel
theorem dX9_feed_41 : decode cX9_feed 41 = .ok (.iconst 0, 1) := by decide +kernel
theorem dX9_feed_42 : decode cX9_feed 42 = .ok (.istore 4, 2) := by decide +kernel
theorem dX9_feed_44 : decode cX9_feed 44 = .ok (.iload 4, 2) := by decide +kernel
theorem dX9_feed_46 : decode cX9_feed 46 = .ok (.iload_n 1, 1) := by decide +kernel
theorem dX9_feed_47 : decode cX9_feed 47 = .ok (.if_icmp .ge 33, 3) := by decide +kernel
theorem dX9_feed_50 : decode cX9_feed 50 = .ok (.aload_n 0, 1) := by decide +kernel
theorem dX9_feed_51 : decode cX9_feed 51 = .ok (.getfield 7, 3) := by decide +kernel
theorem dX9_feed_54 : decode cX9_feed 54 = .ok (.aload_n 0, 1) := by decide +kernel
theorem dX9_feed_55 : decode cX9_feed 55 = .ok (.getfield 69, 3) := by decide +kernel
theorem dX9_feed_58 : decode cX9_feed 58 = .ok (.iload 4, 2) := by decide +kernel
theorem dX9_feed_60 : decode cX9_feed 60 = .ok (.iadd, 1) := by decide +kernel
theorem dX9_feed_61 : decode cX9_feed 61 = .ok (.lload_n 2, 1) := by decide +kernel
theorem dX9_feed_62 : decode cX9_feed 62 = .ok (.bipush 8, 2) := by decide +kernel
theorem dX9_feed_64 : decode cX9_feed 64 = .ok (.iload 4, 2) := by decide +kernel
theorem dX9_feed_66 : decode cX9_feed 66 = .ok (.imul, 1) := by decide +kernel
theorem dX9_feed_67 : decode cX9_feed 67 = .ok (.lshr, 1) := by decide +kernel
theorem dX9_feed_68 : decode cX9_feed 68 = .ok (.ldc2_w 72, 3) := by decide +kernel
theorem dX9_feed_71 : decode cX9_feed 71 = .ok (.land, 1) := by decide +kernel
theorem dX9_feed_72 : decode cX9_feed 72 = .ok (.l2i, 1) := by decide +kernel
theorem dX9_feed_73 : decode cX9_feed 73 = .ok (.iastore, 1) := by decide +kernel
theorem dX9_feed_74 : decode cX9_feed 74 = .ok (.iinc 4 1, 3) := by decide +kernel
theorem dX9_feed_77 : decode cX9_feed 77 = .ok (.goto (-33), 3) := by decide +kernel
theorem dX9_feed_80 : decode cX9_feed 80 = .ok (.aload_n 0, 1) := by decide +kernel
theorem dX9_feed_81 : decode cX9_feed 81 = .ok (.dup, 1) := by decide +kernel
theorem dX9_feed_82 : decode cX9_feed 82 = .ok (.getfield 69, 3) := by decide +kernel
theorem dX9_feed_85 : decode cX9_feed 85 = .ok (.iload_n 1, 1) := by decide +kernel
theorem dX9_feed_86 : decode cX9_feed 86 = .ok (.iadd, 1) := by decide +kernel
theorem dX9_feed_87 : decode cX9_feed 87 = .ok (.putfield 69, 3) := by decide +kernel
theorem dX9_feed_90 : decode cX9_feed 90 = .ok (.aload_n 0, 1) := by decide +kernel
theorem dX9_feed_91 : decode cX9_feed 91 = .ok (.getfield 69, 3) := by decide +kernel
theorem dX9_feed_94 : decode cX9_feed 94 = .ok (.ireturn, 1) := by decide +kernel
theorem dX9_faulty_0 : decode cX9_faulty 0 = .ok (.aload_n 0, 1) := by decide +kernel
theorem dX9_faulty_1 : decode cX9_faulty 1 = .ok (.iload_n 1, 1) := by decide +kernel
theorem dX9_faulty_2 : decode cX9_faulty 2 = .ok (.putfield 74, 3) := by decide +kernel
theorem dX9_faulty_5 : decode cX9_faulty 5 = .ok (.aload_n 0, 1) := by decide +kernel
theorem dX9_faulty_6 : decode cX9_faulty 6 = .ok (.aload_n 0, 1) := by decide +kernel
theorem dX9_faulty_7 : decode cX9_faulty 7 = .ok (.getfield 77, 3) := by decide +kernel
theorem dX9_faulty_10 : decode cX9_faulty 10 = .ok (.putfield 13, 3) := by decide +kernel
theorem dX9_faulty_13 : decode cX9_faulty 13 = .ok (.iconst 0, 1) := by decide +kernel
theorem dX9_faulty_14 : decode cX9_faulty 14 = .ok (.ireturn, 1) := by decide +kernel
theorem dX9_look_0 : decode cX9_look 0 = .ok (.aload_n 0, 1) := by decide +kernel
theorem dX9_look_1 : decode cX9_look 1 = .ok (.getfield 77, 3) := by decide +kernel
theorem dX9_look_4 : decode cX9_look 4 = .ok (.aload_n 0, 1) := by decide +kernel
theorem dX9_look_5 : decode cX9_look 5 = .ok (.getfield 69, 3) := by decide +kernel
theorem dX9_look_8 : decode cX9_look 8 = .ok (.if_icmp .ge 15, 3) := by decide +kernel
theorem dX9_look_11 : decode cX9_look 11 = .ok (.aload_n 0, 1) := by decide +kernel
theorem dX9_look_12 : decode cX9_look 12 = .ok (.getfield 7, 3) := by decide +kernel
theorem dX9_look_15 : decode cX9_look 15 = .ok (.aload_n 0, 1) := by decide +kernel
theorem dX9_look_16 : decode cX9_look 16 = .ok (.getfield 77, 3) := by decide +kernel
theorem dX9_look_19 : decode cX9_look 19 = .ok (.iaload, 1) := by decide +kernel
theorem dX9_look_20 : decode cX9_look 20 = .ok (.goto 4, 3) := by decide +kernel
theorem dX9_look_23 : decode cX9_look 23 = .ok (.iconst (-1), 1) := by decide +kernel
theorem dX9_look_24 : decode cX9_look 24 = .ok (.ireturn, 1) := by decide +kernel
theorem dX9_letterOf_0 : decode cX9_letterOf 0 = .ok (.iload_n 0, 1) := by decide +kernel
theorem dX9_letterOf_1 : decode cX9_letterOf 1 = .ok (.bipush 65, 2) := by decide +kernel
theorem dX9_letterOf_3 : decode cX9_letterOf 3 = .ok (.if_icmp .eq 27, 3) := by decide +kernel
theorem dX9_letterOf_6 : decode cX9_letterOf 6 = .ok (.iload_n 0, 1) := by decide +kernel
theorem dX9_letterOf_7 : decode cX9_letterOf 7 = .ok (.bipush 67, 2) := by decide +kernel
theorem dX9_letterOf_9 : decode cX9_letterOf 9 = .ok (.if_icmp .eq 21, 3) := by decide +kernel
theorem dX9_letterOf_12 : decode cX9_letterOf 12 = .ok (.iload_n 0, 1) := by decide +kernel
theorem dX9_letterOf_13 : decode cX9_letterOf 13 = .ok (.bipush 71, 2) := by decide +kernel
theorem dX9_letterOf_15 : decode cX9_letterOf 15 = .ok (.if_icmp .eq 15, 3) := by decide +kernel
theorem dX9_letterOf_18 : decode cX9_letterOf 18 = .ok (.iload_n 0, 1) := by decide +kernel
theorem dX9_letterOf_19 : decode cX9_letterOf 19 = .ok (.bipush 78, 2) := by decide +kernel
theorem dX9_letterOf_21 : decode cX9_letterOf 21 = .ok (.if_icmp .eq 9, 3) := by decide +kernel
theorem dX9_letterOf_24 : decode cX9_letterOf 24 = .ok (.iload_n 0, 1) := by decide +kernel
theorem dX9_letterOf_25 : decode cX9_letterOf 25 = .ok (.bipush 84, 2) := by decide +kernel
theorem dX9_letterOf_27 : decode cX9_letterOf 27 = .ok (.if_icmp .ne 7, 3) := by decide +kernel
theorem dX9_letterOf_30 : decode cX9_letterOf 30 = .ok (.iload_n 0, 1) := by decide +kernel
theorem dX9_letterOf_31 : decode cX9_letterOf 31 = .ok (.goto 4, 3) := by decide +kernel
theorem dX9_letterOf_34 : decode cX9_letterOf 34 = .ok (.iconst (-1), 1) := by decide +kernel
theorem dX9_letterOf_35 : decode cX9_letterOf 35 = .ok (.ireturn, 1) := by decide +kernel
theorem dX9_must_0 : decode cX9_must 0 = .ok (.aload_n 0, 1) := by decide +kernel
theorem dX9_must_1 : decode cX9_must 1 = .ok (.getfield 77, 3) := by decide +kernel
theorem dX9_must_4 : decode cX9_must 4 = .ok (.aload_n 0, 1) := by decide +kernel
theorem dX9_must_5 : decode cX9_must 5 = .ok (.getfield 69, 3) := by decide +kernel
theorem dX9_must_8 : decode cX9_must 8 = .ok (.if_icmp .ne 9, 3) := by decide +kernel
theorem dX9_must_11 : decode cX9_must 11 = .ok (.aload_n 0, 1) := by decide +kernel
theorem dX9_must_12 : decode cX9_must 12 = .ok (.iconst 1, 1) := by decide +kernel
theorem dX9_must_13 : decode cX9_must 13 = .ok (.invokevirtual 80, 3) := by decide +kernel
theorem dX9_must_16 : decode cX9_must 16 = .ok (.ireturn, 1) := by decide +kernel
theorem dX9_must_17 : decode cX9_must 17 = .ok (.aload_n 0, 1) := by decide +kernel
theorem dX9_must_18 : decode cX9_must 18 = .ok (.invokevirtual 84, 3) := by decide +kernel
theorem dX9_must_21 : decode cX9_must 21 = .ok (.iload_n 1, 1) := by decide +kernel
theorem dX9_must_22 : decode cX9_must 22 = .ok (.if_icmp .eq 9, 3) := by decide +kernel
theorem dX9_must_25 : decode cX9_must 25 = .ok (.aload_n 0, 1) := by decide +kernel
theorem dX9_must_26 : decode cX9_must 26 = .ok (.iconst 2, 1) := by decide +kernel
theorem dX9_must_27 : decode cX9_must 27 = .ok (.invokevirtual 80, 3) := by decide +kernel
theorem dX9_must_30 : decode cX9_must 30 = .ok (.ireturn, 1) := by decide +kernel
theorem dX9_must_31 : decode cX9_must 31 = .ok (.aload_n 0, 1) := by decide +kernel
theorem dX9_must_32 : decode cX9_must 32 = .ok (.dup, 1) := by decide +kernel
theorem dX9_must_33 : decode cX9_must 33 = .ok (.getfield 77, 3) := by decide +kernel
theorem dX9_must_36 : decode cX9_must 36 = .ok (.iconst 1, 1) := by decide +kernel
theorem dX9_must_37 : decode cX9_must 37 = .ok (.iadd, 1) := by decide +kernel
theorem dX9_must_38 : decode cX9_must 38 = .ok (.putfield 77, 3) := by decide +kernel
theorem dX9_must_41 : decode cX9_must 41 = .ok (.iconst 1, 1) := by decide +kernel
theorem dX9_must_42 : decode cX9_must 42 = .ok (.ireturn, 1) := by decide +kernel
theorem dX9_nameLine_0 : decode cX9_nameLine 0 = .ok (.aload_n 0, 1) := by decide +kernel
theorem dX9_nameLine_1 : decode cX9_nameLine 1 = .ok (.getfield 77, 3) := by decide +kernel
theorem dX9_nameLine_4 : decode cX9_nameLine 4 = .ok (.aload_n 0, 1) := by decide +kernel
theorem dX9_nameLine_5 : decode cX9_nameLine 5 = .ok (.getfield 69, 3) := by decide +kernel
theorem dX9_nameLine_8 : decode cX9_nameLine 8 = .ok (.if_icmp .ne 9, 3) := by decide +kernel
theorem dX9_nameLine_11 : decode cX9_nameLine 11 = .ok (.aload_n 0, 1) := by decide +kernel
theorem dX9_nameLine_12 : decode cX9_nameLine 12 = .ok (.iconst 1, 1) := by decide +kernel
theorem dX9_nameLine_13 : decode cX9_nameLine 13 = .ok (.invokevirtual 80, 3) := by decide +kernel
theorem dX9_nameLine_16 : decode cX9_nameLine 16 = .ok (.ireturn, 1) := by decide +kernel
theorem dX9_nameLine_17 : decode cX9_nameLine 17 = .ok (.aload_n 0, 1) := by decide +kernel
theorem dX9_nameLine_18 : decode cX9_nameLine 18 = .ok (.invokevirtual 84, 3) := by decide +kernel
theorem dX9_nameLine_21 : decode cX9_nameLine 21 = .ok (.iload_n 1, 1) := by decide +kernel
theorem dX9_nameLine_22 : decode cX9_nameLine 22 = .ok (.if_icmp .eq 9, 3) := by decide +kernel
theorem dX9_nameLine_25 : decode cX9_nameLine 25 = .ok (.aload_n 0, 1) := by decide +kernel
theorem dX9_nameLine_26 : decode cX9_nameLine 26 = .ok (.iconst 2, 1) := by decide +kernel
theorem dX9_nameLine_27 : decode cX9_nameLine 27 = .ok (.invokevirtual 80, 3) := by decide +kernel
theorem dX9_nameLine_30 : decode cX9_nameLine 30 = .ok (.ireturn, 1) := by decide +kernel
theorem dX9_nameLine_31 : decode cX9_nameLine 31 = .ok (.aload_n 0, 1) := by decide +kernel
theorem dX9_nameLine_32 : decode cX9_nameLine 32 = .ok (.getfield 88, 3) := by decide +kernel
theorem dX9_nameLine_35 : decode cX9_nameLine 35 = .ok (.bipush 60, 2) := by decide +kernel
theorem dX9_nameLine_37 : decode cX9_nameLine 37 = .ok (.if_icmp .ne 9, 3) := by decide +kernel
theorem dX9_nameLine_40 : decode cX9_nameLine 40 = .ok (.aload_n 0, 1) := by decide +kernel
theorem dX9_nameLine_41 : decode cX9_nameLine 41 = .ok (.iconst 4, 1) := by decide +kernel
theorem dX9_nameLine_42 : decode cX9_nameLine 42 = .ok (.invokevirtual 80, 3) := by decide +kernel
theorem dX9_nameLine_45 : decode cX9_nameLine 45 = .ok (.ireturn, 1) := by decide +kernel
theorem dX9_nameLine_46 : decode cX9_nameLine 46 = .ok (.aload_n 0, 1) := by decide +kernel
theorem dX9_nameLine_47 : decode cX9_nameLine 47 = .ok (.dup, 1) := by decide +kernel
theorem dX9_nameLine_48 : decode cX9_nameLine 48 = .ok (.getfield 77, 3) := by decide +kernel
theorem dX9_nameLine_51 : decode cX9_nameLine 51 = .ok (.iconst 1, 1) := by decide +kernel
theorem dX9_nameLine_52 : decode cX9_nameLine 52 = .ok (.iadd, 1) := by decide +kernel
theorem dX9_nameLine_53 : decode cX9_nameLine 53 = .ok (.putfield 77, 3) := by decide +kernel
theorem dX9_nameLine_56 : decode cX9_nameLine 56 = .ok (.iconst 0, 1) := by decide +kernel
theorem dX9_nameLine_57 : decode cX9_nameLine 57 = .ok (.istore_n 3, 1) := by decide +kernel
theorem dX9_nameLine_58 : decode cX9_nameLine 58 = .ok (.aload_n 0, 1) := by decide +kernel
theorem dX9_nameLine_59 : decode cX9_nameLine 59 = .ok (.invokevirtual 84, 3) := by decide +kernel
theorem dX9_nameLine_62 : decode cX9_nameLine 62 = .ok (.bipush 33, 2) := by decide +kernel
theorem dX9_nameLine_64 : decode cX9_nameLine 64 = .ok (.if_icmp .lt 55, 3) := by decide +kernel
theorem dX9_nameLine_67 : decode cX9_nameLine 67 = .ok (.aload_n 0, 1) := by decide +kernel
theorem dX9_nameLine_68 : decode cX9_nameLine 68 = .ok (.invokevirtual 84, 3) := by decide +kernel
theorem dX9_nameLine_71 : decode cX9_nameLine 71 = .ok (.bipush 126, 2) := by decide +kernel
theorem dX9_nameLine_73 : decode cX9_nameLine 73 = .ok (.if_icmp .gt 46, 3) := by decide +kernel
theorem dX9_nameLine_76 : decode cX9_nameLine 76 = .ok (.iload_n 3, 1) := by decide +kernel
theorem dX9_nameLine_77 : decode cX9_nameLine 77 = .ok (.bipush 40, 2) := by decide +kernel
theorem dX9_nameLine_79 : decode cX9_nameLine 79 = .ok (.if_icmp .ne 9, 3) := by decide +kernel
theorem dX9_nameLine_82 : decode cX9_nameLine 82 = .ok (.aload_n 0, 1) := by decide +kernel
theorem dX9_nameLine_83 : decode cX9_nameLine 83 = .ok (.iconst 3, 1) := by decide +kernel
theorem dX9_nameLine_84 : decode cX9_nameLine 84 = .ok (.invokevirtual 80, 3) := by decide +kernel
theorem dX9_nameLine_87 : decode cX9_nameLine 87 = .ok (.ireturn, 1) := by decide +kernel
theorem dX9_nameLine_88 : decode cX9_nameLine 88 = .ok (.aload_n 0, 1) := by decide +kernel
theorem dX9_nameLine_89 : decode cX9_nameLine 89 = .ok (.getfield 20, 3) := by decide +kernel
theorem dX9_nameLine_92 : decode cX9_nameLine 92 = .ok (.bipush 40, 2) := by decide +kernel
theorem dX9_nameLine_94 : decode cX9_nameLine 94 = .ok (.iload_n 2, 1) := by decide +kernel
theorem dX9_nameLine_95 : decode cX9_nameLine 95 = .ok (.imul, 1) := by decide +kernel
theorem dX9_nameLine_96 : decode cX9_nameLine 96 = .ok (.iload_n 3, 1) := by decide +kernel
theorem dX9_nameLine_97 : decode cX9_nameLine 97 = .ok (.iadd, 1) := by decide +kernel
theorem dX9_nameLine_98 : decode cX9_nameLine 98 = .ok (.aload_n 0, 1) := by decide +kernel
theorem dX9_nameLine_99 : decode cX9_nameLine 99 = .ok (.invokevirtual 84, 3) := by decide +kernel
theorem dX9_nameLine_102 : decode cX9_nameLine 102 = .ok (.iastore, 1) := by decide +kernel
theorem dX9_nameLine_103 : decode cX9_nameLine 103 = .ok (.iinc 3 1, 3) := by decide +kernel
theorem dX9_nameLine_106 : decode cX9_nameLine 106 = .ok (.aload_n 0, 1) := by decide +kernel
theorem dX9_nameLine_107 : decode cX9_nameLine 107 = .ok (.dup, 1) := by decide +kernel
theorem dX9_nameLine_108 : decode cX9_nameLine 108 = .ok (.getfield 77, 3) := by decide +kernel
theorem dX9_nameLine_111 : decode cX9_nameLine 111 = .ok (.iconst 1, 1) := by decide +kernel
theorem dX9_nameLine_112 : decode cX9_nameLine 112 = .ok (.iadd, 1) := by decide +kernel
theorem dX9_nameLine_113 : decode cX9_nameLine 113 = .ok (.putfield 77, 3) := by decide +kernel
theorem dX9_nameLine_116 : decode cX9_nameLine 116 = .ok (.goto (-58), 3) := by decide +kernel
theorem dX9_nameLine_119 : decode cX9_nameLine 119 = .ok (.aload_n 0, 1) := by decide +kernel
theorem dX9_nameLine_120 : decode cX9_nameLine 120 = .ok (.getfield 17, 3) := by decide +kernel
theorem dX9_nameLine_123 : decode cX9_nameLine 123 = .ok (.iload_n 2, 1) := by decide +kernel
theorem dX9_nameLine_124 : decode cX9_nameLine 124 = .ok (.iload_n 3, 1) := by decide +kernel
theorem dX9_nameLine_125 : decode cX9_nameLine 125 = .ok (.iastore, 1) := by decide +kernel
theorem dX9_nameLine_126 : decode cX9_nameLine 126 = .ok (.iload_n 3, 1) := by decide +kernel
theorem dX9_nameLine_127 : decode cX9_nameLine 127 = .ok (.ifCond .ne 18, 3) := by decide +kernel
theorem dX9_nameLine_130 : decode cX9_nameLine 130 = .ok (.aload_n 0, 1) := by decide +kernel
theorem dX9_nameLine_131 : decode cX9_nameLine 131 = .ok (.invokevirtual 84, 3) := by decide +kernel
theorem dX9_nameLine_134 : decode cX9_nameLine 134 = .ok (.bipush 10, 2) := by decide +kernel
theorem dX9_nameLine_136 : decode cX9_nameLine 136 = .ok (.if_icmp .ne 9, 3) := by decide +kernel
theorem dX9_nameLine_139 : decode cX9_nameLine 139 = .ok (.aload_n 0, 1) := by decide +kernel
theorem dX9_nameLine_140 : decode cX9_nameLine 140 = .ok (.iconst 2, 1) := by decide +kernel
theorem dX9_nameLine_141 : decode cX9_nameLine 141 = .ok (.invokevirtual 80, 3) := by decide +kernel
theorem dX9_nameLine_144 : decode cX9_nameLine 144 = .ok (.ireturn, 1) := by decide +kernel
theorem dX9_nameLine_145 : decode cX9_nameLine 145 = .ok (.aload_n 0, 1) := by decide +kernel
theorem dX9_nameLine_146 : decode cX9_nameLine 146 = .ok (.bipush 10, 2) := by decide +kernel
theorem dX9_nameLine_148 : decode cX9_nameLine 148 = .ok (.invokevirtual 91, 3) := by decide +kernel
theorem dX9_nameLine_151 : decode cX9_nameLine 151 = .ok (.ireturn, 1) := by decide +kernel
theorem dX9_letterLine_0 : decode cX9_letterLine 0 = .ok (.iconst 0, 1) := by decide +kernel
theorem dX9_letterLine_1 : decode cX9_letterLine 1 = .ok (.istore_n 2, 1) := by decide +kernel
theorem dX9_letterLine_2 : decode cX9_letterLine 2 = .ok (.aload_n 0, 1) := by decide +kernel
theorem dX9_letterLine_3 : decode cX9_letterLine 3 = .ok (.invokevirtual 84, 3) := by decide +kernel
theorem dX9_letterLine_6 : decode cX9_letterLine 6 = .ok (.invokestatic 94, 3) := by decide +kernel
theorem dX9_letterLine_9 : decode cX9_letterLine 9 = .ok (.ifCond .le 84, 3) := by decide +kernel
theorem dX9_letterLine_12 : decode cX9_letterLine 12 = .ok (.aload_n 0, 1) := by decide +kernel
theorem dX9_letterLine_13 : decode cX9_letterLine 13 = .ok (.getfield 23, 3) := by decide +kernel
theorem dX9_letterLine_16 : decode cX9_letterLine 16 = .ok (.iload_n 1, 1) := by decide +kernel
theorem dX9_letterLine_17 : decode cX9_letterLine 17 = .ok (.iaload, 1) := by decide +kernel
theorem dX9_letterLine_18 : decode cX9_letterLine 18 = .ok (.bipush 120, 2) := by decide +kernel
theorem dX9_letterLine_20 : decode cX9_letterLine 20 = .ok (.if_icmp .ne 9, 3) := by decide +kernel
theorem dX9_letterLine_23 : decode cX9_letterLine 23 = .ok (.aload_n 0, 1) := by decide +kernel
theorem dX9_letterLine_24 : decode cX9_letterLine 24 = .ok (.iconst 3, 1) := by decide +kernel
theorem dX9_letterLine_25 : decode cX9_letterLine 25 = .ok (.invokevirtual 80, 3) := by decide +kernel
theorem dX9_letterLine_28 : decode cX9_letterLine 28 = .ok (.ireturn, 1) := by decide +kernel
theorem dX9_letterLine_29 : decode cX9_letterLine 29 = .ok (.aload_n 0, 1) := by decide +kernel
theorem dX9_letterLine_30 : decode cX9_letterLine 30 = .ok (.getfield 26, 3) := by decide +kernel
theorem dX9_letterLine_33 : decode cX9_letterLine 33 = .ok (.bipush 120, 2) := by decide +kernel
theorem dX9_letterLine_35 : decode cX9_letterLine 35 = .ok (.iload_n 1, 1) := by decide +kernel
theorem dX9_letterLine_36 : decode cX9_letterLine 36 = .ok (.imul, 1) := by decide +kernel
theorem dX9_letterLine_37 : decode cX9_letterLine 37 = .ok (.aload_n 0, 1) := by decide +kernel
theorem dX9_letterLine_38 : decode cX9_letterLine 38 = .ok (.getfield 23, 3) := by decide +kernel
theorem dX9_letterLine_41 : decode cX9_letterLine 41 = .ok (.iload_n 1, 1) := by decide +kernel
theorem dX9_letterLine_42 : decode cX9_letterLine 42 = .ok (.iaload, 1) := by decide +kernel
theorem dX9_letterLine_43 : decode cX9_letterLine 43 = .ok (.iadd, 1) := by decide +kernel
theorem dX9_letterLine_44 : decode cX9_letterLine 44 = .ok (.aload_n 0, 1) := by decide +kernel
theorem dX9_letterLine_45 : decode cX9_letterLine 45 = .ok (.invokevirtual 84, 3) := by decide +kernel
theorem dX9_letterLine_48 : decode cX9_letterLine 48 = .ok (.iastore, 1) := by decide +kernel
theorem dX9_letterLine_49 : decode cX9_letterLine 49 = .ok (.aload_n 0, 1) := by decide +kernel
theorem dX9_letterLine_50 : decode cX9_letterLine 50 = .ok (.getfield 29, 3) := by decide +kernel
theorem dX9_letterLine_53 : decode cX9_letterLine 53 = .ok (.bipush 120, 2) := by decide +kernel
theorem dX9_letterLine_55 : decode cX9_letterLine 55 = .ok (.iload_n 1, 1) := by decide +kernel
theorem dX9_letterLine_56 : decode cX9_letterLine 56 = .ok (.imul, 1) := by decide +kernel
theorem dX9_letterLine_57 : decode cX9_letterLine 57 = .ok (.aload_n 0, 1) := by decide +kernel
theorem dX9_letterLine_58 : decode cX9_letterLine 58 = .ok (.getfield 23, 3) := by decide +kernel
theorem dX9_letterLine_61 : decode cX9_letterLine 61 = .ok (.iload_n 1, 1) := by decide +kernel
theorem dX9_letterLine_62 : decode cX9_letterLine 62 = .ok (.iaload, 1) := by decide +kernel
theorem dX9_letterLine_63 : decode cX9_letterLine 63 = .ok (.iadd, 1) := by decide +kernel
theorem dX9_letterLine_64 : decode cX9_letterLine 64 = .ok (.bipush 40, 2) := by decide +kernel
theorem dX9_letterLine_66 : decode cX9_letterLine 66 = .ok (.iastore, 1) := by decide +kernel
theorem dX9_letterLine_67 : decode cX9_letterLine 67 = .ok (.aload_n 0, 1) := by decide +kernel
theorem dX9_letterLine_68 : decode cX9_letterLine 68 = .ok (.getfield 23, 3) := by decide +kernel
theorem dX9_letterLine_71 : decode cX9_letterLine 71 = .ok (.iload_n 1, 1) := by decide +kernel
theorem dX9_letterLine_72 : decode cX9_letterLine 72 = .ok (.dup2, 1) := by decide +kernel
theorem dX9_letterLine_73 : decode cX9_letterLine 73 = .ok (.iaload, 1) := by decide +kernel
theorem dX9_letterLine_74 : decode cX9_letterLine 74 = .ok (.iconst 1, 1) := by decide +kernel
theorem dX9_letterLine_75 : decode cX9_letterLine 75 = .ok (.iadd, 1) := by decide +kernel
theorem dX9_letterLine_76 : decode cX9_letterLine 76 = .ok (.iastore, 1) := by decide +kernel
theorem dX9_letterLine_77 : decode cX9_letterLine 77 = .ok (.iinc 2 1, 3) := by decide +kernel
theorem dX9_letterLine_80 : decode cX9_letterLine 80 = .ok (.aload_n 0, 1) := by decide +kernel
theorem dX9_letterLine_81 : decode cX9_letterLine 81 = .ok (.dup, 1) := by decide +kernel
theorem dX9_letterLine_82 : decode cX9_letterLine 82 = .ok (.getfield 77, 3) := by decide +kernel
theorem dX9_letterLine_85 : decode cX9_letterLine 85 = .ok (.iconst 1, 1) := by decide +kernel
theorem dX9_letterLine_86 : decode cX9_letterLine 86 = .ok (.iadd, 1) := by decide +kernel
theorem dX9_letterLine_87 : decode cX9_letterLine 87 = .ok (.putfield 77, 3) := by decide +kernel
theorem dX9_letterLine_90 : decode cX9_letterLine 90 = .ok (.goto (-88), 3) := by decide +kernel
theorem dX9_letterLine_93 : decode cX9_letterLine 93 = .ok (.iload_n 2, 1) := by decide +kernel
theorem dX9_letterLine_94 : decode cX9_letterLine 94 = .ok (.ifCond .ne 20, 3) := by decide +kernel
theorem dX9_letterLine_97 : decode cX9_letterLine 97 = .ok (.aload_n 0, 1) := by decide +kernel
theorem dX9_letterLine_98 : decode cX9_letterLine 98 = .ok (.getfield 77, 3) := by decide +kernel
theorem dX9_letterLine_101 : decode cX9_letterLine 101 = .ok (.aload_n 0, 1) := by decide +kernel
theorem dX9_letterLine_102 : decode cX9_letterLine 102 = .ok (.getfield 69, 3) := by decide +kernel
theorem dX9_letterLine_105 : decode cX9_letterLine 105 = .ok (.if_icmp .ge 9, 3) := by decide +kernel
theorem dX9_letterLine_108 : decode cX9_letterLine 108 = .ok (.aload_n 0, 1) := by decide +kernel
theorem dX9_letterLine_109 : decode cX9_letterLine 109 = .ok (.iconst 2, 1) := by decide +kernel
theorem dX9_letterLine_110 : decode cX9_letterLine 110 = .ok (.invokevirtual 80, 3) := by decide +kernel
theorem dX9_letterLine_113 : decode cX9_letterLine 113 = .ok (.ireturn, 1) := by decide +kernel
theorem dX9_letterLine_114 : decode cX9_letterLine 114 = .ok (.aload_n 0, 1) := by decide +kernel
theorem dX9_letterLine_115 : decode cX9_letterLine 115 = .ok (.bipush 10, 2) := by decide +kernel
theorem dX9_letterLine_117 : decode cX9_letterLine 117 = .ok (.invokevirtual 91, 3) := by decide +kernel
theorem dX9_letterLine_120 : decode cX9_letterLine 120 = .ok (.ireturn, 1) := by decide +kernel
theorem dX9_plusLine_0 : decode cX9_plusLine 0 = .ok (.aload_n 0, 1) := by decide +kernel
theorem dX9_plusLine_1 : decode cX9_plusLine 1 = .ok (.bipush 43, 2) := by decide +kernel
theorem dX9_plusLine_3 : decode cX9_plusLine 3 = .ok (.invokevirtual 91, 3) := by decide +kernel
theorem dX9_plusLine_6 : decode cX9_plusLine 6 = .ok (.ifCond .ne 5, 3) := by decide +kernel
theorem dX9_plusLine_9 : decode cX9_plusLine 9 = .ok (.iconst 0, 1) := by decide +kernel
theorem dX9_plusLine_10 : decode cX9_plusLine 10 = .ok (.ireturn, 1) := by decide +kernel
theorem dX9_plusLine_11 : decode cX9_plusLine 11 = .ok (.aload_n 0, 1) := by decide +kernel
theorem dX9_plusLine_12 : decode cX9_plusLine 12 = .ok (.invokevirtual 84, 3) := by decide +kernel
theorem dX9_plusLine_15 : decode cX9_plusLine 15 = .ok (.bipush 10, 2) := by decide +kernel
theorem dX9_plusLine_17 : decode cX9_plusLine 17 = .ok (.if_icmp .ne 15, 3) := by decide +kernel
theorem dX9_plusLine_20 : decode cX9_plusLine 20 = .ok (.aload_n 0, 1) := by decide +kernel
theorem dX9_plusLine_21 : decode cX9_plusLine 21 = .ok (.dup, 1) := by decide +kernel
theorem dX9_plusLine_22 : decode cX9_plusLine 22 = .ok (.getfield 77, 3) := by decide +kernel
theorem dX9_plusLine_25 : decode cX9_plusLine 25 = .ok (.iconst 1, 1) := by decide +kernel
theorem dX9_plusLine_26 : decode cX9_plusLine 26 = .ok (.iadd, 1) := by decide +kernel
theorem dX9_plusLine_27 : decode cX9_plusLine 27 = .ok (.putfield 77, 3) := by decide +kernel
theorem dX9_plusLine_30 : decode cX9_plusLine 30 = .ok (.iconst 1, 1) := by decide +kernel
theorem dX9_plusLine_31 : decode cX9_plusLine 31 = .ok (.ireturn, 1) := by decide +kernel
theorem dX9_plusLine_32 : decode cX9_plusLine 32 = .ok (.iconst 0, 1) := by decide +kernel
theorem dX9_plusLine_33 : decode cX9_plusLine 33 = .ok (.istore_n 2, 1) := by decide +kernel
theorem dX9_plusLine_34 : decode cX9_plusLine 34 = .ok (.iload_n 2, 1) := by decide +kernel
theorem dX9_plusLine_35 : decode cX9_plusLine 35 = .ok (.aload_n 0, 1) := by decide +kernel
theorem dX9_plusLine_36 : decode cX9_plusLine 36 = .ok (.getfield 17, 3) := by decide +kernel
theorem dX9_plusLine_39 : decode cX9_plusLine 39 = .ok (.iload_n 1, 1) := by decide +kernel
theorem dX9_plusLine_40 : decode cX9_plusLine 40 = .ok (.iaload, 1) := by decide +kernel
theorem dX9_plusLine_41 : decode cX9_plusLine 41 = .ok (.if_icmp .ge 29, 3) := by decide +kernel
theorem dX9_plusLine_44 : decode cX9_plusLine 44 = .ok (.aload_n 0, 1) := by decide +kernel
theorem dX9_plusLine_45 : decode cX9_plusLine 45 = .ok (.aload_n 0, 1) := by decide +kernel
theorem dX9_plusLine_46 : decode cX9_plusLine 46 = .ok (.getfield 20, 3) := by decide +kernel
theorem dX9_plusLine_49 : decode cX9_plusLine 49 = .ok (.bipush 40, 2) := by decide +kernel
theorem dX9_plusLine_51 : decode cX9_plusLine 51 = .ok (.iload_n 1, 1) := by decide +kernel
theorem dX9_plusLine_52 : decode cX9_plusLine 52 = .ok (.imul, 1) := by decide +kernel
theorem dX9_plusLine_53 : decode cX9_plusLine 53 = .ok (.iload_n 2, 1) := by decide +kernel
theorem dX9_plusLine_54 : decode cX9_plusLine 54 = .ok (.iadd, 1) := by decide +kernel
theorem dX9_plusLine_55 : decode cX9_plusLine 55 = .ok (.iaload, 1) := by decide +kernel
theorem dX9_plusLine_56 : decode cX9_plusLine 56 = .ok (.invokevirtual 91, 3) := by decide +kernel
theorem dX9_plusLine_59 : decode cX9_plusLine 59 = .ok (.ifCond .ne 5, 3) := by decide +kernel
theorem dX9_plusLine_62 : decode cX9_plusLine 62 = .ok (.iconst 0, 1) := by decide +kernel
theorem dX9_plusLine_63 : decode cX9_plusLine 63 = .ok (.ireturn, 1) := by decide +kernel
theorem dX9_plusLine_64 : decode cX9_plusLine 64 = .ok (.iinc 2 1, 3) := by decide +kernel
theorem dX9_plusLine_67 : decode cX9_plusLine 67 = .ok (.goto (-33), 3) := by decide +kernel
theorem dX9_plusLine_70 : decode cX9_plusLine 70 = .ok (.aload_n 0, 1) := by decide +kernel
theorem dX9_plusLine_71 : decode cX9_plusLine 71 = .ok (.bipush 10, 2) := by decide +kernel
theorem dX9_plusLine_73 : decode cX9_plusLine 73 = .ok (.invokevirtual 91, 3) := by decide +kernel
theorem dX9_plusLine_76 : decode cX9_plusLine 76 = .ok (.ireturn, 1) := by decide +kernel
theorem dX9_qualityLine_0 : decode cX9_qualityLine 0 = .ok (.iconst 0, 1) := by decide +kernel
theorem dX9_qualityLine_1 : decode cX9_qualityLine 1 = .ok (.istore_n 2, 1) := by decide +kernel
theorem dX9_qualityLine_2 : decode cX9_qualityLine 2 = .ok (.iload_n 2, 1) := by decide +kernel
theorem dX9_qualityLine_3 : decode cX9_qualityLine 3 = .ok (.aload_n 0, 1) := by decide +kernel
theorem dX9_qualityLine_4 : decode cX9_qualityLine 4 = .ok (.getfield 23, 3) := by decide +kernel
theorem dX9_qualityLine_7 : decode cX9_qualityLine 7 = .ok (.iload_n 1, 1) := by decide +kernel
theorem dX9_qualityLine_8 : decode cX9_qualityLine 8 = .ok (.iaload, 1) := by decide +kernel
theorem dX9_qualityLine_9 : decode cX9_qualityLine 9 = .ok (.if_icmp .ge 78, 3) := by decide +kernel
theorem dX9_qualityLine_12 : decode cX9_qualityLine 12 = .ok (.aload_n 0, 1) := by decide +kernel
theorem dX9_qualityLine_13 : decode cX9_qualityLine 13 = .ok (.getfield 77, 3) := by decide +kernel
theorem dX9_qualityLine_16 : decode cX9_qualityLine 16 = .ok (.aload_n 0, 1) := by decide +kernel
theorem dX9_qualityLine_17 : decode cX9_qualityLine 17 = .ok (.getfield 69, 3) := by decide +kernel
theorem dX9_qualityLine_20 : decode cX9_qualityLine 20 = .ok (.if_icmp .ne 9, 3) := by decide +kernel
theorem dX9_qualityLine_23 : decode cX9_qualityLine 23 = .ok (.aload_n 0, 1) := by decide +kernel
theorem dX9_qualityLine_24 : decode cX9_qualityLine 24 = .ok (.iconst 1, 1) := by decide +kernel
theorem dX9_qualityLine_25 : decode cX9_qualityLine 25 = .ok (.invokevirtual 80, 3) := by decide +kernel
theorem dX9_qualityLine_28 : decode cX9_qualityLine 28 = .ok (.ireturn, 1) := by decide +kernel
theorem dX9_qualityLine_29 : decode cX9_qualityLine 29 = .ok (.aload_n 0, 1) := by decide +kernel
theorem dX9_qualityLine_30 : decode cX9_qualityLine 30 = .ok (.invokevirtual 84, 3) := by decide +kernel
theorem dX9_qualityLine_33 : decode cX9_qualityLine 33 = .ok (.bipush 33, 2) := by decide +kernel
theorem dX9_qualityLine_35 : decode cX9_qualityLine 35 = .ok (.if_icmp .lt 12, 3) := by decide +kernel
theorem dX9_qualityLine_38 : decode cX9_qualityLine 38 = .ok (.aload_n 0, 1) := by decide +kernel
theorem dX9_qualityLine_39 : decode cX9_qualityLine 39 = .ok (.invokevirtual 84, 3) := by decide +kernel
theorem dX9_qualityLine_42 : decode cX9_qualityLine 42 = .ok (.bipush 126, 2) := by decide +kernel
theorem dX9_qualityLine_44 : decode cX9_qualityLine 44 = .ok (.if_icmp .le 9, 3) := by decide +kernel
theorem dX9_qualityLine_47 : decode cX9_qualityLine 47 = .ok (.aload_n 0, 1) := by decide +kernel
theorem dX9_qualityLine_48 : decode cX9_qualityLine 48 = .ok (.iconst 2, 1) := by decide +kernel
theorem dX9_qualityLine_49 : decode cX9_qualityLine 49 = .ok (.invokevirtual 80, 3) := by decide +kernel
theorem dX9_qualityLine_52 : decode cX9_qualityLine 52 = .ok (.ireturn, 1) := by decide +kernel
theorem dX9_qualityLine_53 : decode cX9_qualityLine 53 = .ok (.aload_n 0, 1) := by decide +kernel
theorem dX9_qualityLine_54 : decode cX9_qualityLine 54 = .ok (.getfield 29, 3) := by decide +kernel
theorem dX9_qualityLine_57 : decode cX9_qualityLine 57 = .ok (.bipush 120, 2) := by decide +kernel
theorem dX9_qualityLine_59 : decode cX9_qualityLine 59 = .ok (.iload_n 1, 1) := by decide +kernel
theorem dX9_qualityLine_60 : decode cX9_qualityLine 60 = .ok (.imul, 1) := by decide +kernel
theorem dX9_qualityLine_61 : decode cX9_qualityLine 61 = .ok (.iload_n 2, 1) := by decide +kernel
theorem dX9_qualityLine_62 : decode cX9_qualityLine 62 = .ok (.iadd, 1) := by decide +kernel
theorem dX9_qualityLine_63 : decode cX9_qualityLine 63 = .ok (.aload_n 0, 1) := by decide +kernel
theorem dX9_qualityLine_64 : decode cX9_qualityLine 64 = .ok (.invokevirtual 84, 3) := by decide +kernel
theorem dX9_qualityLine_67 : decode cX9_qualityLine 67 = .ok (.bipush 33, 2) := by decide +kernel
theorem dX9_qualityLine_69 : decode cX9_qualityLine 69 = .ok (.isub, 1) := by decide +kernel
theorem dX9_qualityLine_70 : decode cX9_qualityLine 70 = .ok (.iastore, 1) := by decide +kernel
theorem dX9_qualityLine_71 : decode cX9_qualityLine 71 = .ok (.aload_n 0, 1) := by decide +kernel
theorem dX9_qualityLine_72 : decode cX9_qualityLine 72 = .ok (.dup, 1) := by decide +kernel
theorem dX9_qualityLine_73 : decode cX9_qualityLine 73 = .ok (.getfield 77, 3) := by decide +kernel
theorem dX9_qualityLine_76 : decode cX9_qualityLine 76 = .ok (.iconst 1, 1) := by decide +kernel
theorem dX9_qualityLine_77 : decode cX9_qualityLine 77 = .ok (.iadd, 1) := by decide +kernel
theorem dX9_qualityLine_78 : decode cX9_qualityLine 78 = .ok (.putfield 77, 3) := by decide +kernel
theorem dX9_qualityLine_81 : decode cX9_qualityLine 81 = .ok (.iinc 2 1, 3) := by decide +kernel
theorem dX9_qualityLine_84 : decode cX9_qualityLine 84 = .ok (.goto (-82), 3) := by decide +kernel
theorem dX9_qualityLine_87 : decode cX9_qualityLine 87 = .ok (.aload_n 0, 1) := by decide +kernel
theorem dX9_qualityLine_88 : decode cX9_qualityLine 88 = .ok (.bipush 10, 2) := by decide +kernel
theorem dX9_qualityLine_90 : decode cX9_qualityLine 90 = .ok (.invokevirtual 91, 3) := by decide +kernel
theorem dX9_qualityLine_93 : decode cX9_qualityLine 93 = .ok (.ireturn, 1) := by decide +kernel
theorem dX9_readOne_0 : decode cX9_readOne 0 = .ok (.bipush 60, 2) := by decide +kernel
theorem dX9_readOne_2 : decode cX9_readOne 2 = .ok (.aload_n 0, 1) := by decide +kernel
theorem dX9_readOne_3 : decode cX9_readOne 3 = .ok (.getfield 88, 3) := by decide +kernel
theorem dX9_readOne_6 : decode cX9_readOne 6 = .ok (.bipush 60, 2) := by decide +kernel
theorem dX9_readOne_8 : decode cX9_readOne 8 = .ok (.if_icmp .ge 10, 3) := by decide +kernel
theorem dX9_readOne_11 : decode cX9_readOne 11 = .ok (.aload_n 0, 1) := by decide +kernel
theorem dX9_readOne_12 : decode cX9_readOne 12 = .ok (.getfield 88, 3) := by decide +kernel
theorem dX9_readOne_15 : decode cX9_readOne 15 = .ok (.goto 4, 3) := by decide +kernel
theorem dX9_readOne_18 : decode cX9_readOne 18 = .ok (.iconst 0, 1) := by decide +kernel
theorem dX9_readOne_19 : decode cX9_readOne 19 = .ok (.iadd, 1) := by decide +kernel
theorem dX9_readOne_20 : decode cX9_readOne 20 = .ok (.istore_n 2, 1) := by decide +kernel
theorem dX9_readOne_21 : decode cX9_readOne 21 = .ok (.iload_n 1, 1) := by decide +kernel
theorem dX9_readOne_22 : decode cX9_readOne 22 = .ok (.ifCond .ne 8, 3) := by decide +kernel
theorem dX9_readOne_25 : decode cX9_readOne 25 = .ok (.bipush 64, 2) := by decide +kernel
theorem dX9_readOne_27 : decode cX9_readOne 27 = .ok (.goto 5, 3) := by decide +kernel
theorem dX9_readOne_30 : decode cX9_readOne 30 = .ok (.bipush 62, 2) := by decide +kernel
theorem dX9_readOne_32 : decode cX9_readOne 32 = .ok (.istore_n 3, 1) := by decide +kernel
theorem dX9_readOne_33 : decode cX9_readOne 33 = .ok (.aload_n 0, 1) := by decide +kernel
theorem dX9_readOne_34 : decode cX9_readOne 34 = .ok (.getfield 88, 3) := by decide +kernel
theorem dX9_readOne_37 : decode cX9_readOne 37 = .ok (.bipush 60, 2) := by decide +kernel
theorem dX9_readOne_39 : decode cX9_readOne 39 = .ok (.if_icmp .ge 10, 3) := by decide +kernel
theorem dX9_readOne_42 : decode cX9_readOne 42 = .ok (.aload_n 0, 1) := by decide +kernel
theorem dX9_readOne_43 : decode cX9_readOne 43 = .ok (.getfield 23, 3) := by decide +kernel
theorem dX9_readOne_46 : decode cX9_readOne 46 = .ok (.iload_n 2, 1) := by decide +kernel
theorem dX9_readOne_47 : decode cX9_readOne 47 = .ok (.iconst 0, 1) := by decide +kernel
theorem dX9_readOne_48 : decode cX9_readOne 48 = .ok (.iastore, 1) := by decide +kernel
theorem dX9_readOne_49 : decode cX9_readOne 49 = .ok (.aload_n 0, 1) := by decide +kernel
theorem dX9_readOne_50 : decode cX9_readOne 50 = .ok (.iload_n 3, 1) := by decide +kernel
theorem dX9_readOne_51 : decode cX9_readOne 51 = .ok (.iload_n 2, 1) := by decide +kernel
theorem dX9_readOne_52 : decode cX9_readOne 52 = .ok (.invokevirtual 98, 3) := by decide +kernel
theorem dX9_readOne_55 : decode cX9_readOne 55 = .ok (.ifCond .eq 11, 3) := by decide +kernel
theorem dX9_readOne_58 : decode cX9_readOne 58 = .ok (.aload_n 0, 1) := by decide +kernel
theorem dX9_readOne_59 : decode cX9_readOne 59 = .ok (.iload_n 2, 1) := by decide +kernel
theorem dX9_readOne_60 : decode cX9_readOne 60 = .ok (.invokevirtual 102, 3) := by decide +kernel
theorem dX9_readOne_63 : decode cX9_readOne 63 = .ok (.ifCond .ne 5, 3) := by decide +kernel
theorem dX9_readOne_66 : decode cX9_readOne 66 = .ok (.iconst 0, 1) := by decide +kernel
theorem dX9_readOne_67 : decode cX9_readOne 67 = .ok (.ireturn, 1) := by decide +kernel
theorem dX9_readOne_68 : decode cX9_readOne 68 = .ok (.iload_n 1, 1) := by decide +kernel
theorem dX9_readOne_69 : decode cX9_readOne 69 = .ok (.ifCond .ne 25, 3) := by decide +kernel
theorem dX9_readOne_72 : decode cX9_readOne 72 = .ok (.aload_n 0, 1) := by decide +kernel
theorem dX9_readOne_73 : decode cX9_readOne 73 = .ok (.iload_n 2, 1) := by decide +kernel
theorem dX9_readOne_74 : decode cX9_readOne 74 = .ok (.invokevirtual 105, 3) := by decide +kernel
theorem dX9_readOne_77 : decode cX9_readOne 77 = .ok (.ifCond .eq 15, 3) := by decide +kernel
theorem dX9_readOne_80 : decode cX9_readOne 80 = .ok (.aload_n 0, 1) := by decide +kernel
theorem dX9_readOne_81 : decode cX9_readOne 81 = .ok (.iload_n 2, 1) := by decide +kernel
theorem dX9_readOne_82 : decode cX9_readOne 82 = .ok (.invokevirtual 108, 3) := by decide +kernel
theorem dX9_readOne_85 : decode cX9_readOne 85 = .ok (.ifCond .eq 7, 3) := by decide +kernel
theorem dX9_readOne_88 : decode cX9_readOne 88 = .ok (.iconst 1, 1) := by decide +kernel
theorem dX9_readOne_89 : decode cX9_readOne 89 = .ok (.goto 4, 3) := by decide +kernel
theorem dX9_readOne_92 : decode cX9_readOne 92 = .ok (.iconst 0, 1) := by decide +kernel
theorem dX9_readOne_93 : decode cX9_readOne 93 = .ok (.ireturn, 1) := by decide +kernel
theorem dX9_readOne_94 : decode cX9_readOne 94 = .ok (.aload_n 0, 1) := by decide +kernel
theorem dX9_readOne_95 : decode cX9_readOne 95 = .ok (.getfield 77, 3) := by decide +kernel
theorem dX9_readOne_98 : decode cX9_readOne 98 = .ok (.aload_n 0, 1) := by decide +kernel
theorem dX9_readOne_99 : decode cX9_readOne 99 = .ok (.getfield 69, 3) := by decide +kernel
theorem dX9_readOne_102 : decode cX9_readOne 102 = .ok (.if_icmp .ge 22, 3) := by decide +kernel
theorem dX9_readOne_105 : decode cX9_readOne 105 = .ok (.aload_n 0, 1) := by decide +kernel
theorem dX9_readOne_106 : decode cX9_readOne 106 = .ok (.invokevirtual 84, 3) := by decide +kernel
theorem dX9_readOne_109 : decode cX9_readOne 109 = .ok (.bipush 62, 2) := by decide +kernel
theorem dX9_readOne_111 : decode cX9_readOne 111 = .ok (.if_icmp .eq 13, 3) := by decide +kernel
theorem dX9_readOne_114 : decode cX9_readOne 114 = .ok (.aload_n 0, 1) := by decide +kernel
theorem dX9_readOne_115 : decode cX9_readOne 115 = .ok (.iload_n 2, 1) := by decide +kernel
theorem dX9_readOne_116 : decode cX9_readOne 116 = .ok (.invokevirtual 102, 3) := by decide +kernel
theorem dX9_readOne_119 : decode cX9_readOne 119 = .ok (.ifCond .ne (-25), 3) := by decide +kernel
theorem dX9_readOne_122 : decode cX9_readOne 122 = .ok (.iconst 0, 1) := by decide +kernel
theorem dX9_readOne_123 : decode cX9_readOne 123 = .ok (.ireturn, 1) := by decide +kernel
theorem dX9_readOne_124 : decode cX9_readOne 124 = .ok (.iconst 1, 1) := by decide +kernel
theorem dX9_readOne_125 : decode cX9_readOne 125 = .ok (.ireturn, 1) := by decide +kernel
theorem dX9_read_0 : decode cX9_read 0 = .ok (.aload_n 0, 1) := by decide +kernel
theorem dX9_read_1 : decode cX9_read 1 = .ok (.iload_n 1, 1) := by decide +kernel
theorem dX9_read_2 : decode cX9_read 2 = .ok (.ifCond .lt 8, 3) := by decide +kernel
theorem dX9_read_5 : decode cX9_read 5 = .ok (.iload_n 1, 1) := by decide +kernel
theorem dX9_read_6 : decode cX9_read 6 = .ok (.iconst 1, 1) := by decide +kernel
theorem dX9_read_7 : decode cX9_read 7 = .ok (.if_icmp .le 7, 3) := by decide +kernel
theorem dX9_read_10 : decode cX9_read 10 = .ok (.iconst 1, 1) := by decide +kernel
theorem dX9_read_11 : decode cX9_read 11 = .ok (.goto 4, 3) := by decide +kernel
theorem dX9_read_14 : decode cX9_read 14 = .ok (.iconst 0, 1) := by decide +kernel
theorem dX9_read_15 : decode cX9_read 15 = .ok (.putfield 66, 3) := by decide +kernel
theorem dX9_read_18 : decode cX9_read 18 = .ok (.aload_n 0, 1) := by decide +kernel
theorem dX9_read_19 : decode cX9_read 19 = .ok (.getfield 66, 3) := by decide +kernel
theorem dX9_read_22 : decode cX9_read 22 = .ok (.ifCond .le 5, 3) := by decide +kernel
theorem dX9_read_25 : decode cX9_read 25 = .ok (.iconst 0, 1) := by decide +kernel
theorem dX9_read_26 : decode cX9_read 26 = .ok (.ireturn, 1) := by decide +kernel
theorem dX9_read_27 : decode cX9_read 27 = .ok (.aload_n 0, 1) := by decide +kernel
theorem dX9_read_28 : decode cX9_read 28 = .ok (.iconst 0, 1) := by decide +kernel
theorem dX9_read_29 : decode cX9_read 29 = .ok (.putfield 77, 3) := by decide +kernel
theorem dX9_read_32 : decode cX9_read 32 = .ok (.aload_n 0, 1) := by decide +kernel
theorem dX9_read_33 : decode cX9_read 33 = .ok (.iconst 0, 1) := by decide +kernel
theorem dX9_read_34 : decode cX9_read 34 = .ok (.putfield 88, 3) := by decide +kernel
theorem dX9_read_37 : decode cX9_read 37 = .ok (.aload_n 0, 1) := by decide +kernel
theorem dX9_read_38 : decode cX9_read 38 = .ok (.iconst 0, 1) := by decide +kernel
theorem dX9_read_39 : decode cX9_read 39 = .ok (.putfield 74, 3) := by decide +kernel
theorem dX9_read_42 : decode cX9_read 42 = .ok (.iconst 1, 1) := by decide +kernel
theorem dX9_read_43 : decode cX9_read 43 = .ok (.istore_n 2, 1) := by decide +kernel
theorem dX9_read_44 : decode cX9_read 44 = .ok (.iload_n 2, 1) := by decide +kernel
theorem dX9_read_45 : decode cX9_read 45 = .ok (.ifCond .eq 40, 3) := by decide +kernel
theorem dX9_read_48 : decode cX9_read 48 = .ok (.aload_n 0, 1) := by decide +kernel
theorem dX9_read_49 : decode cX9_read 49 = .ok (.getfield 77, 3) := by decide +kernel
theorem dX9_read_52 : decode cX9_read 52 = .ok (.aload_n 0, 1) := by decide +kernel
theorem dX9_read_53 : decode cX9_read 53 = .ok (.getfield 69, 3) := by decide +kernel
theorem dX9_read_56 : decode cX9_read 56 = .ok (.if_icmp .lt 10, 3) := by decide +kernel
theorem dX9_read_59 : decode cX9_read 59 = .ok (.aload_n 0, 1) := by decide +kernel
theorem dX9_read_60 : decode cX9_read 60 = .ok (.getfield 88, 3) := by decide +kernel
theorem dX9_read_63 : decode cX9_read 63 = .ok (.ifCond .ne 22, 3) := by decide +kernel
theorem dX9_read_66 : decode cX9_read 66 = .ok (.aload_n 0, 1) := by decide +kernel
theorem dX9_read_67 : decode cX9_read 67 = .ok (.iload_n 1, 1) := by decide +kernel
theorem dX9_read_68 : decode cX9_read 68 = .ok (.invokevirtual 111, 3) := by decide +kernel
theorem dX9_read_71 : decode cX9_read 71 = .ok (.istore_n 2, 1) := by decide +kernel
theorem dX9_read_72 : decode cX9_read 72 = .ok (.aload_n 0, 1) := by decide +kernel
theorem dX9_read_73 : decode cX9_read 73 = .ok (.dup, 1) := by decide +kernel
theorem dX9_read_74 : decode cX9_read 74 = .ok (.getfield 88, 3) := by decide +kernel
theorem dX9_read_77 : decode cX9_read 77 = .ok (.iconst 1, 1) := by decide +kernel
theorem dX9_read_78 : decode cX9_read 78 = .ok (.iadd, 1) := by decide +kernel
theorem dX9_read_79 : decode cX9_read 79 = .ok (.putfield 88, 3) := by decide +kernel
theorem dX9_read_82 : decode cX9_read 82 = .ok (.goto (-38), 3) := by decide +kernel
theorem dX9_read_85 : decode cX9_read 85 = .ok (.aload_n 0, 1) := by decide +kernel
theorem dX9_read_86 : decode cX9_read 86 = .ok (.iconst 0, 1) := by decide +kernel
theorem dX9_read_87 : decode cX9_read 87 = .ok (.putfield 69, 3) := by decide +kernel
theorem dX9_read_90 : decode cX9_read 90 = .ok (.iload_n 2, 1) := by decide +kernel
theorem dX9_read_91 : decode cX9_read 91 = .ok (.ifCond .ne 9, 3) := by decide +kernel
theorem dX9_read_94 : decode cX9_read 94 = .ok (.aload_n 0, 1) := by decide +kernel
theorem dX9_read_95 : decode cX9_read 95 = .ok (.getfield 74, 3) := by decide +kernel
theorem dX9_read_98 : decode cX9_read 98 = .ok (.ineg, 1) := by decide +kernel
theorem dX9_read_99 : decode cX9_read 99 = .ok (.ireturn, 1) := by decide +kernel
theorem dX9_read_100 : decode cX9_read 100 = .ok (.aload_n 0, 1) := by decide +kernel
theorem dX9_read_101 : decode cX9_read 101 = .ok (.aload_n 0, 1) := by decide +kernel
theorem dX9_read_102 : decode cX9_read 102 = .ok (.getfield 88, 3) := by decide +kernel
theorem dX9_read_105 : decode cX9_read 105 = .ok (.putfield 63, 3) := by decide +kernel
theorem dX9_read_108 : decode cX9_read 108 = .ok (.aload_n 0, 1) := by decide +kernel
theorem dX9_read_109 : decode cX9_read 109 = .ok (.iconst 0, 1) := by decide +kernel
theorem dX9_read_110 : decode cX9_read 110 = .ok (.putfield 114, 3) := by decide +kernel
theorem dX9_read_113 : decode cX9_read 113 = .ok (.iconst 0, 1) := by decide +kernel
theorem dX9_read_114 : decode cX9_read 114 = .ok (.istore_n 3, 1) := by decide +kernel
theorem dX9_read_115 : decode cX9_read 115 = .ok (.iload_n 3, 1) := by decide +kernel
theorem dX9_read_116 : decode cX9_read 116 = .ok (.aload_n 0, 1) := by decide +kernel
theorem dX9_read_117 : decode cX9_read 117 = .ok (.getfield 63, 3) := by decide +kernel
theorem dX9_read_120 : decode cX9_read 120 = .ok (.if_icmp .ge 148, 3) := by decide +kernel
theorem dX9_read_123 : decode cX9_read 123 = .ok (.bipush 60, 2) := by decide +kernel
theorem dX9_read_125 : decode cX9_read 125 = .ok (.iload_n 3, 1) := by decide +kernel
theorem dX9_read_126 : decode cX9_read 126 = .ok (.iadd, 1) := by decide +kernel
theorem dX9_read_127 : decode cX9_read 127 = .ok (.istore 4, 2) := by decide +kernel
theorem dX9_read_129 : decode cX9_read 129 = .ok (.aload_n 0, 1) := by decide +kernel
theorem dX9_read_130 : decode cX9_read 130 = .ok (.getfield 17, 3) := by decide +kernel
theorem dX9_read_133 : decode cX9_read 133 = .ok (.iload_n 3, 1) := by decide +kernel
theorem dX9_read_134 : decode cX9_read 134 = .ok (.aload_n 0, 1) := by decide +kernel
theorem dX9_read_135 : decode cX9_read 135 = .ok (.getfield 17, 3) := by decide +kernel
theorem dX9_read_138 : decode cX9_read 138 = .ok (.iload 4, 2) := by decide +kernel
theorem dX9_read_140 : decode cX9_read 140 = .ok (.iaload, 1) := by decide +kernel
theorem dX9_read_141 : decode cX9_read 141 = .ok (.iastore, 1) := by decide +kernel
theorem dX9_read_142 : decode cX9_read 142 = .ok (.aload_n 0, 1) := by decide +kernel
theorem dX9_read_143 : decode cX9_read 143 = .ok (.getfield 23, 3) := by decide +kernel
theorem dX9_read_146 : decode cX9_read 146 = .ok (.iload_n 3, 1) := by decide +kernel
theorem dX9_read_147 : decode cX9_read 147 = .ok (.aload_n 0, 1) := by decide +kernel
theorem dX9_read_148 : decode cX9_read 148 = .ok (.getfield 23, 3) := by decide +kernel
theorem dX9_read_151 : decode cX9_read 151 = .ok (.iload 4, 2) := by decide +kernel
theorem dX9_read_153 : decode cX9_read 153 = .ok (.iaload, 1) := by decide +kernel
theorem dX9_read_154 : decode cX9_read 154 = .ok (.iastore, 1) := by decide +kernel
theorem dX9_read_155 : decode cX9_read 155 = .ok (.iconst 0, 1) := by decide +kernel
theorem dX9_read_156 : decode cX9_read 156 = .ok (.istore 5, 2) := by decide +kernel
theorem dX9_read_158 : decode cX9_read 158 = .ok (.iload 5, 2) := by decide +kernel
theorem dX9_read_160 : decode cX9_read 160 = .ok (.bipush 40, 2) := by decide +kernel
theorem dX9_read_162 : decode cX9_read 162 = .ok (.if_icmp .ge 34, 3) := by decide +kernel
theorem dX9_read_165 : decode cX9_read 165 = .ok (.aload_n 0, 1) := by decide +kernel
theorem dX9_read_166 : decode cX9_read 166 = .ok (.getfield 20, 3) := by decide +kernel
theorem dX9_read_169 : decode cX9_read 169 = .ok (.bipush 40, 2) := by decide +kernel
theorem dX9_read_171 : decode cX9_read 171 = .ok (.iload_n 3, 1) := by decide +kernel
theorem dX9_read_172 : decode cX9_read 172 = .ok (.imul, 1) := by decide +kernel
theorem dX9_read_173 : decode cX9_read 173 = .ok (.iload 5, 2) := by decide +kernel
theorem dX9_read_175 : decode cX9_read 175 = .ok (.iadd, 1) := by decide +kernel
theorem dX9_read_176 : decode cX9_read 176 = .ok (.aload_n 0, 1) := by decide +kernel
theorem dX9_read_177 : decode cX9_read 177 = .ok (.getfield 20, 3) := by decide +kernel
theorem dX9_read_180 : decode cX9_read 180 = .ok (.bipush 40, 2) := by decide +kernel
theorem dX9_read_182 : decode cX9_read 182 = .ok (.iload 4, 2) := by decide +kernel
theorem dX9_read_184 : decode cX9_read 184 = .ok (.imul, 1) := by decide +kernel
theorem dX9_read_185 : decode cX9_read 185 = .ok (.iload 5, 2) := by decide +kernel
theorem dX9_read_187 : decode cX9_read 187 = .ok (.iadd, 1) := by decide +kernel
theorem dX9_read_188 : decode cX9_read 188 = .ok (.iaload, 1) := by decide +kernel
theorem dX9_read_189 : decode cX9_read 189 = .ok (.iastore, 1) := by decide +kernel
theorem dX9_read_190 : decode cX9_read 190 = .ok (.iinc 5 1, 3) := by decide +kernel
theorem dX9_read_193 : decode cX9_read 193 = .ok (.goto (-35), 3) := by decide +kernel
theorem dX9_read_196 : decode cX9_read 196 = .ok (.iconst 0, 1) := by decide +kernel
theorem dX9_read_197 : decode cX9_read 197 = .ok (.istore 5, 2) := by decide +kernel
theorem dX9_read_199 : decode cX9_read 199 = .ok (.iload 5, 2) := by decide +kernel
theorem dX9_read_201 : decode cX9_read 201 = .ok (.bipush 120, 2) := by decide +kernel
theorem dX9_read_203 : decode cX9_read 203 = .ok (.if_icmp .ge 59, 3) := by decide +kernel
theorem dX9_read_206 : decode cX9_read 206 = .ok (.aload_n 0, 1) := by decide +kernel
theorem dX9_read_207 : decode cX9_read 207 = .ok (.getfield 26, 3) := by decide +kernel
theorem dX9_read_210 : decode cX9_read 210 = .ok (.bipush 120, 2) := by decide +kernel
theorem dX9_read_212 : decode cX9_read 212 = .ok (.iload_n 3, 1) := by decide +kernel
theorem dX9_read_213 : decode cX9_read 213 = .ok (.imul, 1) := by decide +kernel
theorem dX9_read_214 : decode cX9_read 214 = .ok (.iload 5, 2) := by decide +kernel
theorem dX9_read_216 : decode cX9_read 216 = .ok (.iadd, 1) := by decide +kernel
theorem dX9_read_217 : decode cX9_read 217 = .ok (.aload_n 0, 1) := by decide +kernel
theorem dX9_read_218 : decode cX9_read 218 = .ok (.getfield 26, 3) := by decide +kernel
theorem dX9_read_221 : decode cX9_read 221 = .ok (.bipush 120, 2) := by decide +kernel
theorem dX9_read_223 : decode cX9_read 223 = .ok (.iload 4, 2) := by decide +kernel
theorem dX9_read_225 : decode cX9_read 225 = .ok (.imul, 1) := by decide +kernel
theorem dX9_read_226 : decode cX9_read 226 = .ok (.iload 5, 2) := by decide +kernel
theorem dX9_read_228 : decode cX9_read 228 = .ok (.iadd, 1) := by decide +kernel
theorem dX9_read_229 : decode cX9_read 229 = .ok (.iaload, 1) := by decide +kernel
theorem dX9_read_230 : decode cX9_read 230 = .ok (.iastore, 1) := by decide +kernel
theorem dX9_read_231 : decode cX9_read 231 = .ok (.aload_n 0, 1) := by decide +kernel
theorem dX9_read_232 : decode cX9_read 232 = .ok (.getfield 29, 3) := by decide +kernel
theorem dX9_read_235 : decode cX9_read 235 = .ok (.bipush 120, 2) := by decide +kernel
theorem dX9_read_237 : decode cX9_read 237 = .ok (.iload_n 3, 1) := by decide +kernel
theorem dX9_read_238 : decode cX9_read 238 = .ok (.imul, 1) := by decide +kernel
theorem dX9_read_239 : decode cX9_read 239 = .ok (.iload 5, 2) := by decide +kernel
theorem dX9_read_241 : decode cX9_read 241 = .ok (.iadd, 1) := by decide +kernel
theorem dX9_read_242 : decode cX9_read 242 = .ok (.aload_n 0, 1) := by decide +kernel
theorem dX9_read_243 : decode cX9_read 243 = .ok (.getfield 29, 3) := by decide +kernel
theorem dX9_read_246 : decode cX9_read 246 = .ok (.bipush 120, 2) := by decide +kernel
theorem dX9_read_248 : decode cX9_read 248 = .ok (.iload 4, 2) := by decide +kernel
theorem dX9_read_250 : decode cX9_read 250 = .ok (.imul, 1) := by decide +kernel
theorem dX9_read_251 : decode cX9_read 251 = .ok (.iload 5, 2) := by decide +kernel
theorem dX9_read_253 : decode cX9_read 253 = .ok (.iadd, 1) := by decide +kernel
theorem dX9_read_254 : decode cX9_read 254 = .ok (.iaload, 1) := by decide +kernel
theorem dX9_read_255 : decode cX9_read 255 = .ok (.iastore, 1) := by decide +kernel
theorem dX9_read_256 : decode cX9_read 256 = .ok (.iinc 5 1, 3) := by decide +kernel
theorem dX9_read_259 : decode cX9_read 259 = .ok (.goto (-60), 3) := by decide +kernel
theorem dX9_read_262 : decode cX9_read 262 = .ok (.iinc 3 1, 3) := by decide +kernel
theorem dX9_read_265 : decode cX9_read 265 = .ok (.goto (-150), 3) := by decide +kernel
theorem dX9_read_268 : decode cX9_read 268 = .ok (.aload_n 0, 1) := by decide +kernel
theorem dX9_read_269 : decode cX9_read 269 = .ok (.getfield 63, 3) := by decide +kernel
theorem dX9_read_272 : decode cX9_read 272 = .ok (.ireturn, 1) := by decide +kernel
theorem dX9_place_0 : decode cX9_place 0 = .ok (.aload_n 0, 1) := by decide +kernel
theorem dX9_place_1 : decode cX9_place 1 = .ok (.iconst 0, 1) := by decide +kernel
theorem dX9_place_2 : decode cX9_place 2 = .ok (.putfield 66, 3) := by decide +kernel
theorem dX9_place_5 : decode cX9_place 5 = .ok (.aload_n 0, 1) := by decide +kernel
theorem dX9_place_6 : decode cX9_place 6 = .ok (.getfield 13, 3) := by decide +kernel
theorem dX9_place_9 : decode cX9_place 9 = .ok (.ireturn, 1) := by decide +kernel
theorem dX9_isCode_0 : decode cX9_isCode 0 = .ok (.aload_n 0, 1) := by decide +kernel
theorem dX9_isCode_1 : decode cX9_isCode 1 = .ok (.getfield 69, 3) := by decide +kernel
theorem dX9_isCode_4 : decode cX9_isCode 4 = .ok (.iload_n 1, 1) := by decide +kernel
theorem dX9_isCode_5 : decode cX9_isCode 5 = .ok (.if_icmp .lt 15, 3) := by decide +kernel
theorem dX9_isCode_8 : decode cX9_isCode 8 = .ok (.aload_n 0, 1) := by decide +kernel
theorem dX9_isCode_9 : decode cX9_isCode 9 = .ok (.getfield 69, 3) := by decide +kernel
theorem dX9_isCode_12 : decode cX9_isCode 12 = .ok (.iload_n 2, 1) := by decide +kernel
theorem dX9_isCode_13 : decode cX9_isCode 13 = .ok (.if_icmp .gt 7, 3) := by decide +kernel
theorem dX9_isCode_16 : decode cX9_isCode 16 = .ok (.iconst 1, 1) := by decide +kernel
theorem dX9_isCode_17 : decode cX9_isCode 17 = .ok (.goto 4, 3) := by decide +kernel
theorem dX9_isCode_20 : decode cX9_isCode 20 = .ok (.iconst 0, 1) := by decide +kernel
theorem dX9_isCode_21 : decode cX9_isCode 21 = .ok (.istore_n 3, 1) := by decide +kernel
theorem dX9_isCode_22 : decode cX9_isCode 22 = .ok (.iconst 0, 1) := by decide +kernel
theorem dX9_isCode_23 : decode cX9_isCode 23 = .ok (.istore 4, 2) := by decide +kernel
theorem dX9_isCode_25 : decode cX9_isCode 25 = .ok (.iload 4, 2) := by decide +kernel
theorem dX9_isCode_27 : decode cX9_isCode 27 = .ok (.aload_n 0, 1) := by decide +kernel
theorem dX9_isCode_28 : decode cX9_isCode 28 = .ok (.getfield 69, 3) := by decide +kernel
theorem dX9_isCode_31 : decode cX9_isCode 31 = .ok (.if_icmp .ge 44, 3) := by decide +kernel
theorem dX9_isCode_34 : decode cX9_isCode 34 = .ok (.iload_n 3, 1) := by decide +kernel
theorem dX9_isCode_35 : decode cX9_isCode 35 = .ok (.ifCond .eq 40, 3) := by decide +kernel
theorem dX9_isCode_38 : decode cX9_isCode 38 = .ok (.aload_n 0, 1) := by decide +kernel
theorem dX9_isCode_39 : decode cX9_isCode 39 = .ok (.getfield 7, 3) := by decide +kernel
theorem dX9_isCode_42 : decode cX9_isCode 42 = .ok (.iload 4, 2) := by decide +kernel
theorem dX9_isCode_44 : decode cX9_isCode 44 = .ok (.iaload, 1) := by decide +kernel
theorem dX9_isCode_45 : decode cX9_isCode 45 = .ok (.invokestatic 94, 3) := by decide +kernel
theorem dX9_isCode_48 : decode cX9_isCode 48 = .ok (.ifCond .le 19, 3) := by decide +kernel
theorem dX9_isCode_51 : decode cX9_isCode 51 = .ok (.aload_n 0, 1) := by decide +kernel
theorem dX9_isCode_52 : decode cX9_isCode 52 = .ok (.getfield 7, 3) := by decide +kernel
theorem dX9_isCode_55 : decode cX9_isCode 55 = .ok (.iload 4, 2) := by decide +kernel
theorem dX9_isCode_57 : decode cX9_isCode 57 = .ok (.iaload, 1) := by decide +kernel
theorem dX9_isCode_58 : decode cX9_isCode 58 = .ok (.bipush 78, 2) := by decide +kernel
theorem dX9_isCode_60 : decode cX9_isCode 60 = .ok (.if_icmp .eq 7, 3) := by decide +kernel
theorem dX9_isCode_63 : decode cX9_isCode 63 = .ok (.iconst 1, 1) := by decide +kernel
theorem dX9_isCode_64 : decode cX9_isCode 64 = .ok (.goto 4, 3) := by decide +kernel
theorem dX9_isCode_67 : decode cX9_isCode 67 = .ok (.iconst 0, 1) := by decide +kernel
theorem dX9_isCode_68 : decode cX9_isCode 68 = .ok (.istore_n 3, 1) := by decide +kernel
theorem dX9_isCode_69 : decode cX9_isCode 69 = .ok (.iinc 4 1, 3) := by decide +kernel
theorem dX9_isCode_72 : decode cX9_isCode 72 = .ok (.goto (-47), 3) := by decide +kernel
theorem dX9_isCode_75 : decode cX9_isCode 75 = .ok (.iload_n 3, 1) := by decide +kernel
theorem dX9_isCode_76 : decode cX9_isCode 76 = .ok (.ireturn, 1) := by decide +kernel
theorem dX9_hasCode_0 : decode cX9_hasCode 0 = .ok (.iconst 0, 1) := by decide +kernel
theorem dX9_hasCode_1 : decode cX9_hasCode 1 = .ok (.istore_n 1, 1) := by decide +kernel
theorem dX9_hasCode_2 : decode cX9_hasCode 2 = .ok (.iload_n 1, 1) := by decide +kernel
theorem dX9_hasCode_3 : decode cX9_hasCode 3 = .ok (.aload_n 0, 1) := by decide +kernel
theorem dX9_hasCode_4 : decode cX9_hasCode 4 = .ok (.getfield 118, 3) := by decide +kernel
theorem dX9_hasCode_7 : decode cX9_hasCode 7 = .ok (.if_icmp .ge 61, 3) := by decide +kernel
theorem dX9_hasCode_10 : decode cX9_hasCode 10 = .ok (.iconst 1, 1) := by decide +kernel
theorem dX9_hasCode_11 : decode cX9_hasCode 11 = .ok (.istore_n 2, 1) := by decide +kernel
theorem dX9_hasCode_12 : decode cX9_hasCode 12 = .ok (.iconst 0, 1) := by decide +kernel
theorem dX9_hasCode_13 : decode cX9_hasCode 13 = .ok (.istore_n 3, 1) := by decide +kernel
theorem dX9_hasCode_14 : decode cX9_hasCode 14 = .ok (.iload_n 3, 1) := by decide +kernel
theorem dX9_hasCode_15 : decode cX9_hasCode 15 = .ok (.aload_n 0, 1) := by decide +kernel
theorem dX9_hasCode_16 : decode cX9_hasCode 16 = .ok (.getfield 121, 3) := by decide +kernel
theorem dX9_hasCode_19 : decode cX9_hasCode 19 = .ok (.if_icmp .ge 37, 3) := by decide +kernel
theorem dX9_hasCode_22 : decode cX9_hasCode 22 = .ok (.iload_n 2, 1) := by decide +kernel
theorem dX9_hasCode_23 : decode cX9_hasCode 23 = .ok (.aload_n 0, 1) := by decide +kernel
theorem dX9_hasCode_24 : decode cX9_hasCode 24 = .ok (.getfield 32, 3) := by decide +kernel
theorem dX9_hasCode_27 : decode cX9_hasCode 27 = .ok (.bipush 12, 2) := by decide +kernel
theorem dX9_hasCode_29 : decode cX9_hasCode 29 = .ok (.iload_n 1, 1) := by decide +kernel
theorem dX9_hasCode_30 : decode cX9_hasCode 30 = .ok (.imul, 1) := by decide +kernel
theorem dX9_hasCode_31 : decode cX9_hasCode 31 = .ok (.iload_n 3, 1) := by decide +kernel
theorem dX9_hasCode_32 : decode cX9_hasCode 32 = .ok (.iadd, 1) := by decide +kernel
theorem dX9_hasCode_33 : decode cX9_hasCode 33 = .ok (.iaload, 1) := by decide +kernel
theorem dX9_hasCode_34 : decode cX9_hasCode 34 = .ok (.aload_n 0, 1) := by decide +kernel
theorem dX9_hasCode_35 : decode cX9_hasCode 35 = .ok (.getfield 7, 3) := by decide +kernel
theorem dX9_hasCode_38 : decode cX9_hasCode 38 = .ok (.iload_n 3, 1) := by decide +kernel
theorem dX9_hasCode_39 : decode cX9_hasCode 39 = .ok (.iaload, 1) := by decide +kernel
theorem dX9_hasCode_40 : decode cX9_hasCode 40 = .ok (.if_icmp .ne 7, 3) := by decide +kernel
theorem dX9_hasCode_43 : decode cX9_hasCode 43 = .ok (.iconst 1, 1) := by decide +kernel
theorem dX9_hasCode_44 : decode cX9_hasCode 44 = .ok (.goto 4, 3) := by decide +kernel
theorem dX9_hasCode_47 : decode cX9_hasCode 47 = .ok (.iconst 0, 1) := by decide +kernel
theorem dX9_hasCode_48 : decode cX9_hasCode 48 = .ok (.iand, 1) := by decide +kernel
theorem dX9_hasCode_49 : decode cX9_hasCode 49 = .ok (.istore_n 2, 1) := by decide +kernel
theorem dX9_hasCode_50 : decode cX9_hasCode 50 = .ok (.iinc 3 1, 3) := by decide +kernel
theorem dX9_hasCode_53 : decode cX9_hasCode 53 = .ok (.goto (-39), 3) := by decide +kernel
theorem dX9_hasCode_56 : decode cX9_hasCode 56 = .ok (.iload_n 2, 1) := by decide +kernel
theorem dX9_hasCode_57 : decode cX9_hasCode 57 = .ok (.ifCond .eq 5, 3) := by decide +kernel
theorem dX9_hasCode_60 : decode cX9_hasCode 60 = .ok (.iconst 1, 1) := by decide +kernel
theorem dX9_hasCode_61 : decode cX9_hasCode 61 = .ok (.ireturn, 1) := by decide +kernel
theorem dX9_hasCode_62 : decode cX9_hasCode 62 = .ok (.iinc 1 1, 3) := by decide +kernel
theorem dX9_hasCode_65 : decode cX9_hasCode 65 = .ok (.goto (-63), 3) := by decide +kernel
theorem dX9_hasCode_68 : decode cX9_hasCode 68 = .ok (.iconst 0, 1) := by decide +kernel
theorem dX9_hasCode_69 : decode cX9_hasCode 69 = .ok (.ireturn, 1) := by decide +kernel
theorem dX9_barcode_0 : decode cX9_barcode 0 = .ok (.aload_n 0, 1) := by decide +kernel
theorem dX9_barcode_1 : decode cX9_barcode 1 = .ok (.iconst 0, 1) := by decide +kernel
theorem dX9_barcode_2 : decode cX9_barcode 2 = .ok (.putfield 66, 3) := by decide +kernel
theorem dX9_barcode_5 : decode cX9_barcode 5 = .ok (.aload_n 0, 1) := by decide +kernel
theorem dX9_barcode_6 : decode cX9_barcode 6 = .ok (.iconst 1, 1) := by decide +kernel
theorem dX9_barcode_7 : decode cX9_barcode 7 = .ok (.bipush 12, 2) := by decide +kernel
theorem dX9_barcode_9 : decode cX9_barcode 9 = .ok (.invokevirtual 124, 3) := by decide +kernel
theorem dX9_barcode_12 : decode cX9_barcode 12 = .ok (.ifCond .eq 41, 3) := by decide +kernel
theorem dX9_barcode_15 : decode cX9_barcode 15 = .ok (.aload_n 0, 1) := by decide +kernel
theorem dX9_barcode_16 : decode cX9_barcode 16 = .ok (.getfield 118, 3) := by decide +kernel
theorem dX9_barcode_19 : decode cX9_barcode 19 = .ok (.bipush 16, 2) := by decide +kernel
theorem dX9_barcode_21 : decode cX9_barcode 21 = .ok (.if_icmp .ge 32, 3) := by decide +kernel
theorem dX9_barcode_24 : decode cX9_barcode 24 = .ok (.aload_n 0, 1) := by decide +kernel
theorem dX9_barcode_25 : decode cX9_barcode 25 = .ok (.getfield 118, 3) := by decide +kernel
theorem dX9_barcode_28 : decode cX9_barcode 28 = .ok (.ifCond .eq 21, 3) := by decide +kernel
theorem dX9_barcode_31 : decode cX9_barcode 31 = .ok (.aload_n 0, 1) := by decide +kernel
theorem dX9_barcode_32 : decode cX9_barcode 32 = .ok (.getfield 69, 3) := by decide +kernel
theorem dX9_barcode_35 : decode cX9_barcode 35 = .ok (.aload_n 0, 1) := by decide +kernel
theorem dX9_barcode_36 : decode cX9_barcode 36 = .ok (.getfield 121, 3) := by decide +kernel
theorem dX9_barcode_39 : decode cX9_barcode 39 = .ok (.if_icmp .ne 14, 3) := by decide +kernel
theorem dX9_barcode_42 : decode cX9_barcode 42 = .ok (.aload_n 0, 1) := by decide +kernel
theorem dX9_barcode_43 : decode cX9_barcode 43 = .ok (.invokevirtual 127, 3) := by decide +kernel
theorem dX9_barcode_46 : decode cX9_barcode 46 = .ok (.ifCond .ne 7, 3) := by decide +kernel
theorem dX9_barcode_49 : decode cX9_barcode 49 = .ok (.iconst 1, 1) := by decide +kernel
theorem dX9_barcode_50 : decode cX9_barcode 50 = .ok (.goto 4, 3) := by decide +kernel
theorem dX9_barcode_53 : decode cX9_barcode 53 = .ok (.iconst 0, 1) := by decide +kernel
theorem dX9_barcode_54 : decode cX9_barcode 54 = .ok (.istore_n 1, 1) := by decide +kernel
theorem dX9_barcode_55 : decode cX9_barcode 55 = .ok (.iload_n 1, 1) := by decide +kernel
theorem dX9_barcode_56 : decode cX9_barcode 56 = .ok (.ifCond .eq 57, 3) := by decide +kernel
theorem dX9_barcode_59 : decode cX9_barcode 59 = .ok (.aload_n 0, 1) := by decide +kernel
theorem dX9_barcode_60 : decode cX9_barcode 60 = .ok (.aload_n 0, 1) := by decide +kernel
theorem dX9_barcode_61 : decode cX9_barcode 61 = .ok (.getfield 69, 3) := by decide +kernel
theorem dX9_barcode_64 : decode cX9_barcode 64 = .ok (.putfield 121, 3) := by decide +kernel
theorem dX9_barcode_67 : decode cX9_barcode 67 = .ok (.iconst 0, 1) := by decide +kernel
theorem dX9_barcode_68 : decode cX9_barcode 68 = .ok (.istore_n 2, 1) := by decide +kernel
theorem dX9_barcode_69 : decode cX9_barcode 69 = .ok (.iload_n 2, 1) := by decide +kernel
theorem dX9_barcode_70 : decode cX9_barcode 70 = .ok (.aload_n 0, 1) := by decide +kernel
theorem dX9_barcode_71 : decode cX9_barcode 71 = .ok (.getfield 69, 3) := by decide +kernel
theorem dX9_barcode_74 : decode cX9_barcode 74 = .ok (.if_icmp .ge 29, 3) := by decide +kernel
theorem dX9_barcode_77 : decode cX9_barcode 77 = .ok (.aload_n 0, 1) := by decide +kernel
theorem dX9_barcode_78 : decode cX9_barcode 78 = .ok (.getfield 32, 3) := by decide +kernel
theorem dX9_barcode_81 : decode cX9_barcode 81 = .ok (.bipush 12, 2) := by decide +kernel
theorem dX9_barcode_83 : decode cX9_barcode 83 = .ok (.aload_n 0, 1) := by decide +kernel
theorem dX9_barcode_84 : decode cX9_barcode 84 = .ok (.getfield 118, 3) := by decide +kernel
theorem dX9_barcode_87 : decode cX9_barcode 87 = .ok (.imul, 1) := by decide +kernel
theorem dX9_barcode_88 : decode cX9_barcode 88 = .ok (.iload_n 2, 1) := by decide +kernel
theorem dX9_barcode_89 : decode cX9_barcode 89 = .ok (.iadd, 1) := by decide +kernel
theorem dX9_barcode_90 : decode cX9_barcode 90 = .ok (.aload_n 0, 1) := by decide +kernel
theorem dX9_barcode_91 : decode cX9_barcode 91 = .ok (.getfield 7, 3) := by decide +kernel
theorem dX9_barcode_94 : decode cX9_barcode 94 = .ok (.iload_n 2, 1) := by decide +kernel
theorem dX9_barcode_95 : decode cX9_barcode 95 = .ok (.iaload, 1) := by decide +kernel
theorem dX9_barcode_96 : decode cX9_barcode 96 = .ok (.iastore, 1) := by decide +kernel
theorem dX9_barcode_97 : decode cX9_barcode 97 = .ok (.iinc 2 1, 3) := by decide +kernel
theorem dX9_barcode_100 : decode cX9_barcode 100 = .ok (.goto (-31), 3) := by decide +kernel
theorem dX9_barcode_103 : decode cX9_barcode 103 = .ok (.aload_n 0, 1) := by decide +kernel
theorem dX9_barcode_104 : decode cX9_barcode 104 = .ok (.dup, 1) := by decide +kernel
theorem dX9_barcode_105 : decode cX9_barcode 105 = .ok (.getfield 118, 3) := by decide +kernel
theorem dX9_barcode_108 : decode cX9_barcode 108 = .ok (.iconst 1, 1) := by decide +kernel
theorem dX9_barcode_109 : decode cX9_barcode 109 = .ok (.iadd, 1) := by decide +kernel
theorem dX9_barcode_110 : decode cX9_barcode 110 = .ok (.putfield 118, 3) := by decide +kernel
theorem dX9_barcode_113 : decode cX9_barcode 113 = .ok (.aload_n 0, 1) := by decide +kernel
theorem dX9_barcode_114 : decode cX9_barcode 114 = .ok (.iconst 0, 1) := by decide +kernel
theorem dX9_barcode_115 : decode cX9_barcode 115 = .ok (.putfield 69, 3) := by decide +kernel
theorem dX9_barcode_118 : decode cX9_barcode 118 = .ok (.iload_n 1, 1) := by decide +kernel
theorem dX9_barcode_119 : decode cX9_barcode 119 = .ok (.ifCond .eq 12, 3) := by decide +kernel
theorem dX9_barcode_122 : decode cX9_barcode 122 = .ok (.aload_n 0, 1) := by decide +kernel
theorem dX9_barcode_123 : decode cX9_barcode 123 = .ok (.getfield 118, 3) := by decide +kernel
theorem dX9_barcode_126 : decode cX9_barcode 126 = .ok (.iconst 1, 1) := by decide +kernel
theorem dX9_barcode_127 : decode cX9_barcode 127 = .ok (.isub, 1) := by decide +kernel
theorem dX9_barcode_128 : decode cX9_barcode 128 = .ok (.goto 4, 3) := by decide +kernel
theorem dX9_barcode_131 : decode cX9_barcode 131 = .ok (.iconst (-1), 1) := by decide +kernel
theorem dX9_barcode_132 : decode cX9_barcode 132 = .ok (.ireturn, 1) := by decide +kernel
theorem dX9_adapter_0 : decode cX9_adapter 0 = .ok (.aload_n 0, 1) := by decide +kernel
theorem dX9_adapter_1 : decode cX9_adapter 1 = .ok (.iconst 0, 1) := by decide +kernel
theorem dX9_adapter_2 : decode cX9_adapter 2 = .ok (.putfield 66, 3) := by decide +kernel
theorem dX9_adapter_5 : decode cX9_adapter 5 = .ok (.aload_n 0, 1) := by decide +kernel
theorem dX9_adapter_6 : decode cX9_adapter 6 = .ok (.getfield 69, 3) := by decide +kernel
theorem dX9_adapter_9 : decode cX9_adapter 9 = .ok (.ifCond .eq 13, 3) := by decide +kernel
theorem dX9_adapter_12 : decode cX9_adapter 12 = .ok (.aload_n 0, 1) := by decide +kernel
theorem dX9_adapter_13 : decode cX9_adapter 13 = .ok (.iconst 3, 1) := by decide +kernel
theorem dX9_adapter_14 : decode cX9_adapter 14 = .ok (.bipush 30, 2) := by decide +kernel
theorem dX9_adapter_16 : decode cX9_adapter 16 = .ok (.invokevirtual 124, 3) := by decide +kernel
theorem dX9_adapter_19 : decode cX9_adapter 19 = .ok (.ifCond .eq 7, 3) := by decide +kernel
theorem dX9_adapter_22 : decode cX9_adapter 22 = .ok (.iconst 1, 1) := by decide +kernel
theorem dX9_adapter_23 : decode cX9_adapter 23 = .ok (.goto 4, 3) := by decide +kernel
theorem dX9_adapter_26 : decode cX9_adapter 26 = .ok (.iconst 0, 1) := by decide +kernel
theorem dX9_adapter_27 : decode cX9_adapter 27 = .ok (.istore_n 1, 1) := by decide +kernel
theorem dX9_adapter_28 : decode cX9_adapter 28 = .ok (.iload_n 1, 1) := by decide +kernel
theorem dX9_adapter_29 : decode cX9_adapter 29 = .ok (.ifCond .eq 39, 3) := by decide +kernel
theorem dX9_adapter_32 : decode cX9_adapter 32 = .ok (.aload_n 0, 1) := by decide +kernel
theorem dX9_adapter_33 : decode cX9_adapter 33 = .ok (.aload_n 0, 1) := by decide +kernel
theorem dX9_adapter_34 : decode cX9_adapter 34 = .ok (.getfield 69, 3) := by decide +kernel
theorem dX9_adapter_37 : decode cX9_adapter 37 = .ok (.putfield 131, 3) := by decide +kernel
theorem dX9_adapter_40 : decode cX9_adapter 40 = .ok (.iconst 0, 1) := by decide +kernel
theorem dX9_adapter_41 : decode cX9_adapter 41 = .ok (.istore_n 2, 1) := by decide +kernel
theorem dX9_adapter_42 : decode cX9_adapter 42 = .ok (.iload_n 2, 1) := by decide +kernel
theorem dX9_adapter_43 : decode cX9_adapter 43 = .ok (.aload_n 0, 1) := by decide +kernel
theorem dX9_adapter_44 : decode cX9_adapter 44 = .ok (.getfield 69, 3) := by decide +kernel
theorem dX9_adapter_47 : decode cX9_adapter 47 = .ok (.if_icmp .ge 21, 3) := by decide +kernel
theorem dX9_adapter_50 : decode cX9_adapter 50 = .ok (.aload_n 0, 1) := by decide +kernel
theorem dX9_adapter_51 : decode cX9_adapter 51 = .ok (.getfield 35, 3) := by decide +kernel
theorem dX9_adapter_54 : decode cX9_adapter 54 = .ok (.iload_n 2, 1) := by decide +kernel
theorem dX9_adapter_55 : decode cX9_adapter 55 = .ok (.aload_n 0, 1) := by decide +kernel
theorem dX9_adapter_56 : decode cX9_adapter 56 = .ok (.getfield 7, 3) := by decide +kernel
theorem dX9_adapter_59 : decode cX9_adapter 59 = .ok (.iload_n 2, 1) := by decide +kernel
theorem dX9_adapter_60 : decode cX9_adapter 60 = .ok (.iaload, 1) := by decide +kernel
theorem dX9_adapter_61 : decode cX9_adapter 61 = .ok (.iastore, 1) := by decide +kernel
theorem dX9_adapter_62 : decode cX9_adapter 62 = .ok (.iinc 2 1, 3) := by decide +kernel
theorem dX9_adapter_65 : decode cX9_adapter 65 = .ok (.goto (-23), 3) := by decide +kernel
theorem dX9_adapter_68 : decode cX9_adapter 68 = .ok (.aload_n 0, 1) := by decide +kernel
theorem dX9_adapter_69 : decode cX9_adapter 69 = .ok (.iconst 0, 1) := by decide +kernel
theorem dX9_adapter_70 : decode cX9_adapter 70 = .ok (.putfield 69, 3) := by decide +kernel
theorem dX9_adapter_73 : decode cX9_adapter 73 = .ok (.iload_n 1, 1) := by decide +kernel
theorem dX9_adapter_74 : decode cX9_adapter 74 = .ok (.ifCond .eq 10, 3) := by decide +kernel
theorem dX9_adapter_77 : decode cX9_adapter 77 = .ok (.aload_n 0, 1) := by decide +kernel
theorem dX9_adapter_78 : decode cX9_adapter 78 = .ok (.getfield 131, 3) := by decide +kernel
theorem dX9_adapter_81 : decode cX9_adapter 81 = .ok (.goto 4, 3) := by decide +kernel
theorem dX9_adapter_84 : decode cX9_adapter 84 = .ok (.iconst (-1), 1) := by decide +kernel
theorem dX9_adapter_85 : decode cX9_adapter 85 = .ok (.ireturn, 1) := by decide +kernel
theorem dX9_limits_0 : decode cX9_limits 0 = .ok (.aload_n 0, 1) := by decide +kernel
theorem dX9_limits_1 : decode cX9_limits 1 = .ok (.iconst 0, 1) := by decide +kernel
theorem dX9_limits_2 : decode cX9_limits 2 = .ok (.putfield 66, 3) := by decide +kernel
theorem dX9_limits_5 : decode cX9_limits 5 = .ok (.iload_n 1, 1) := by decide +kernel
theorem dX9_limits_6 : decode cX9_limits 6 = .ok (.ifCond .lt 33, 3) := by decide +kernel
theorem dX9_limits_9 : decode cX9_limits 9 = .ok (.iload_n 1, 1) := by decide +kernel
theorem dX9_limits_10 : decode cX9_limits 10 = .ok (.bipush 93, 2) := by decide +kernel
theorem dX9_limits_12 : decode cX9_limits 12 = .ok (.if_icmp .gt 27, 3) := by decide +kernel
theorem dX9_limits_15 : decode cX9_limits 15 = .ok (.iload_n 2, 1) := by decide +kernel
theorem dX9_limits_16 : decode cX9_limits 16 = .ok (.ifCond .lt 23, 3) := by decide +kernel
theorem dX9_limits_19 : decode cX9_limits 19 = .ok (.iload_n 2, 1) := by decide +kernel
theorem dX9_limits_20 : decode cX9_limits 20 = .ok (.bipush 93, 2) := by decide +kernel
theorem dX9_limits_22 : decode cX9_limits 22 = .ok (.if_icmp .gt 17, 3) := by decide +kernel
theorem dX9_limits_25 : decode cX9_limits 25 = .ok (.iload_n 3, 1) := by decide +kernel
theorem dX9_limits_26 : decode cX9_limits 26 = .ok (.ifCond .lt 13, 3) := by decide +kernel
theorem dX9_limits_29 : decode cX9_limits 29 = .ok (.iload_n 3, 1) := by decide +kernel
theorem dX9_limits_30 : decode cX9_limits 30 = .ok (.bipush 120, 2) := by decide +kernel
theorem dX9_limits_32 : decode cX9_limits 32 = .ok (.if_icmp .gt 7, 3) := by decide +kernel
theorem dX9_limits_35 : decode cX9_limits 35 = .ok (.iconst 1, 1) := by decide +kernel
theorem dX9_limits_36 : decode cX9_limits 36 = .ok (.goto 4, 3) := by decide +kernel
theorem dX9_limits_39 : decode cX9_limits 39 = .ok (.iconst 0, 1) := by decide +kernel
theorem dX9_limits_40 : decode cX9_limits 40 = .ok (.istore 4, 2) := by decide +kernel
theorem dX9_limits_42 : decode cX9_limits 42 = .ok (.iload 4, 2) := by decide +kernel
theorem dX9_limits_44 : decode cX9_limits 44 = .ok (.ifCond .eq 18, 3) := by decide +kernel
theorem dX9_limits_47 : decode cX9_limits 47 = .ok (.aload_n 0, 1) := by decide +kernel
theorem dX9_limits_48 : decode cX9_limits 48 = .ok (.iload_n 1, 1) := by decide +kernel
theorem dX9_limits_49 : decode cX9_limits 49 = .ok (.putfield 134, 3) := by decide +kernel
theorem dX9_limits_52 : decode cX9_limits 52 = .ok (.aload_n 0, 1) := by decide +kernel
theorem dX9_limits_53 : decode cX9_limits 53 = .ok (.iload_n 2, 1) := by decide +kernel
theorem dX9_limits_54 : decode cX9_limits 54 = .ok (.putfield 137, 3) := by decide +kernel
theorem dX9_limits_57 : decode cX9_limits 57 = .ok (.aload_n 0, 1) := by decide +kernel
theorem dX9_limits_58 : decode cX9_limits 58 = .ok (.iload_n 3, 1) := by decide +kernel
theorem dX9_limits_59 : decode cX9_limits 59 = .ok (.putfield 38, 3) := by decide +kernel
theorem dX9_limits_62 : decode cX9_limits 62 = .ok (.iload 4, 2) := by decide +kernel
theorem dX9_limits_64 : decode cX9_limits 64 = .ok (.ireturn, 1) := by decide +kernel
theorem dX9_spread_0 : decode cX9_spread 0 = .ok (.bipush 13, 2) := by decide +kernel
theorem dX9_spread_2 : decode cX9_spread 2 = .ok (.istore_n 1, 1) := by decide +kernel
theorem dX9_spread_3 : decode cX9_spread 3 = .ok (.iconst 0, 1) := by decide +kernel
theorem dX9_spread_4 : decode cX9_spread 4 = .ok (.istore_n 2, 1) := by decide +kernel
theorem dX9_spread_5 : decode cX9_spread 5 = .ok (.iload_n 2, 1) := by decide +kernel
theorem dX9_spread_6 : decode cX9_spread 6 = .ok (.aload_n 0, 1) := by decide +kernel
theorem dX9_spread_7 : decode cX9_spread 7 = .ok (.getfield 118, 3) := by decide +kernel
theorem dX9_spread_10 : decode cX9_spread 10 = .ok (.if_icmp .ge 93, 3) := by decide +kernel
theorem dX9_spread_13 : decode cX9_spread 13 = .ok (.iconst 0, 1) := by decide +kernel
theorem dX9_spread_14 : decode cX9_spread 14 = .ok (.istore_n 3, 1) := by decide +kernel
theorem dX9_spread_15 : decode cX9_spread 15 = .ok (.iload_n 3, 1) := by decide +kernel
theorem dX9_spread_16 : decode cX9_spread 16 = .ok (.iload_n 2, 1) := by decide +kernel
theorem dX9_spread_17 : decode cX9_spread 17 = .ok (.if_icmp .ge 80, 3) := by decide +kernel
theorem dX9_spread_20 : decode cX9_spread 20 = .ok (.iconst 0, 1) := by decide +kernel
theorem dX9_spread_21 : decode cX9_spread 21 = .ok (.istore 4, 2) := by decide +kernel
theorem dX9_spread_23 : decode cX9_spread 23 = .ok (.iconst 0, 1) := by decide +kernel
theorem dX9_spread_24 : decode cX9_spread 24 = .ok (.istore 5, 2) := by decide +kernel
theorem dX9_spread_26 : decode cX9_spread 26 = .ok (.iload 5, 2) := by decide +kernel
theorem dX9_spread_28 : decode cX9_spread 28 = .ok (.aload_n 0, 1) := by decide +kernel
theorem dX9_spread_29 : decode cX9_spread 29 = .ok (.getfield 121, 3) := by decide +kernel
theorem dX9_spread_32 : decode cX9_spread 32 = .ok (.if_icmp .ge 46, 3) := by decide +kernel
theorem dX9_spread_35 : decode cX9_spread 35 = .ok (.iload 4, 2) := by decide +kernel
theorem dX9_spread_37 : decode cX9_spread 37 = .ok (.aload_n 0, 1) := by decide +kernel
theorem dX9_spread_38 : decode cX9_spread 38 = .ok (.getfield 32, 3) := by decide +kernel
theorem dX9_spread_41 : decode cX9_spread 41 = .ok (.bipush 12, 2) := by decide +kernel
theorem dX9_spread_43 : decode cX9_spread 43 = .ok (.iload_n 2, 1) := by decide +kernel
theorem dX9_spread_44 : decode cX9_spread 44 = .ok (.imul, 1) := by decide +kernel
theorem dX9_spread_45 : decode cX9_spread 45 = .ok (.iload 5, 2) := by decide +kernel
theorem dX9_spread_47 : decode cX9_spread 47 = .ok (.iadd, 1) := by decide +kernel
theorem dX9_spread_48 : decode cX9_spread 48 = .ok (.iaload, 1) := by decide +kernel
theorem dX9_spread_49 : decode cX9_spread 49 = .ok (.aload_n 0, 1) := by decide +kernel
theorem dX9_spread_50 : decode cX9_spread 50 = .ok (.getfield 32, 3) := by decide +kernel
theorem dX9_spread_53 : decode cX9_spread 53 = .ok (.bipush 12, 2) := by decide +kernel
theorem dX9_spread_55 : decode cX9_spread 55 = .ok (.iload_n 3, 1) := by decide +kernel
theorem dX9_spread_56 : decode cX9_spread 56 = .ok (.imul, 1) := by decide +kernel
theorem dX9_spread_57 : decode cX9_spread 57 = .ok (.iload 5, 2) := by decide +kernel
theorem dX9_spread_59 : decode cX9_spread 59 = .ok (.iadd, 1) := by decide +kernel
theorem dX9_spread_60 : decode cX9_spread 60 = .ok (.iaload, 1) := by decide +kernel
theorem dX9_spread_61 : decode cX9_spread 61 = .ok (.if_icmp .eq 7, 3) := by decide +kernel
theorem dX9_spread_64 : decode cX9_spread 64 = .ok (.iconst 1, 1) := by decide +kernel
theorem dX9_spread_65 : decode cX9_spread 65 = .ok (.goto 4, 3) := by decide +kernel
theorem dX9_spread_68 : decode cX9_spread 68 = .ok (.iconst 0, 1) := by decide +kernel
theorem dX9_spread_69 : decode cX9_spread 69 = .ok (.iadd, 1) := by decide +kernel
theorem dX9_spread_70 : decode cX9_spread 70 = .ok (.istore 4, 2) := by decide +kernel
theorem dX9_spread_72 : decode cX9_spread 72 = .ok (.iinc 5 1, 3) := by decide +kernel
theorem dX9_spread_75 : decode cX9_spread 75 = .ok (.goto (-49), 3) := by decide +kernel
theorem dX9_spread_78 : decode cX9_spread 78 = .ok (.iload 4, 2) := by decide +kernel
theorem dX9_spread_80 : decode cX9_spread 80 = .ok (.iload_n 1, 1) := by decide +kernel
theorem dX9_spread_81 : decode cX9_spread 81 = .ok (.if_icmp .ge 8, 3) := by decide +kernel
theorem dX9_spread_84 : decode cX9_spread 84 = .ok (.iload 4, 2) := by decide +kernel
theorem dX9_spread_86 : decode cX9_spread 86 = .ok (.goto 4, 3) := by decide +kernel
theorem dX9_spread_89 : decode cX9_spread 89 = .ok (.iload_n 1, 1) := by decide +kernel
theorem dX9_spread_90 : decode cX9_spread 90 = .ok (.istore_n 1, 1) := by decide +kernel
theorem dX9_spread_91 : decode cX9_spread 91 = .ok (.iinc 3 1, 3) := by decide +kernel
theorem dX9_spread_94 : decode cX9_spread 94 = .ok (.goto (-79), 3) := by decide +kernel
theorem dX9_spread_97 : decode cX9_spread 97 = .ok (.iinc 2 1, 3) := by decide +kernel
theorem dX9_spread_100 : decode cX9_spread 100 = .ok (.goto (-95), 3) := by decide +kernel
theorem dX9_spread_103 : decode cX9_spread 103 = .ok (.iload_n 1, 1) := by decide +kernel
theorem dX9_spread_104 : decode cX9_spread 104 = .ok (.ireturn, 1) := by decide +kernel
theorem dX9_told_0 : decode cX9_told 0 = .ok (.aload_n 0, 1) := by decide +kernel
theorem dX9_told_1 : decode cX9_told 1 = .ok (.iload_n 1, 1) := by decide +kernel
theorem dX9_told_2 : decode cX9_told 2 = .ok (.ifCond .lt 8, 3) := by decide +kernel
theorem dX9_told_5 : decode cX9_told 5 = .ok (.iload_n 1, 1) := by decide +kernel
theorem dX9_told_6 : decode cX9_told 6 = .ok (.iconst 3, 1) := by decide +kernel
theorem dX9_told_7 : decode cX9_told 7 = .ok (.if_icmp .le 7, 3) := by decide +kernel
theorem dX9_told_10 : decode cX9_told 10 = .ok (.iconst 1, 1) := by decide +kernel
theorem dX9_told_11 : decode cX9_told 11 = .ok (.goto 4, 3) := by decide +kernel
theorem dX9_told_14 : decode cX9_told 14 = .ok (.iconst 0, 1) := by decide +kernel
theorem dX9_told_15 : decode cX9_told 15 = .ok (.putfield 66, 3) := by decide +kernel
theorem dX9_told_18 : decode cX9_told 18 = .ok (.aload_n 0, 1) := by decide +kernel
theorem dX9_told_19 : decode cX9_told 19 = .ok (.getfield 66, 3) := by decide +kernel
theorem dX9_told_22 : decode cX9_told 22 = .ok (.ifCond .le 5, 3) := by decide +kernel
theorem dX9_told_25 : decode cX9_told 25 = .ok (.iconst 0, 1) := by decide +kernel
theorem dX9_told_26 : decode cX9_told 26 = .ok (.ireturn, 1) := by decide +kernel
theorem dX9_told_27 : decode cX9_told 27 = .ok (.iload_n 1, 1) := by decide +kernel
theorem dX9_told_28 : decode cX9_told 28 = .ok (.ifCond .ne 10, 3) := by decide +kernel
theorem dX9_told_31 : decode cX9_told 31 = .ok (.aload_n 0, 1) := by decide +kernel
theorem dX9_told_32 : decode cX9_told 32 = .ok (.invokevirtual 140, 3) := by decide +kernel
theorem dX9_told_35 : decode cX9_told 35 = .ok (.goto 42, 3) := by decide +kernel
theorem dX9_told_38 : decode cX9_told 38 = .ok (.iload_n 1, 1) := by decide +kernel
theorem dX9_told_39 : decode cX9_told 39 = .ok (.iconst 1, 1) := by decide +kernel
theorem dX9_told_40 : decode cX9_told 40 = .ok (.if_icmp .ne 10, 3) := by decide +kernel
theorem dX9_told_43 : decode cX9_told 43 = .ok (.aload_n 0, 1) := by decide +kernel
theorem dX9_told_44 : decode cX9_told 44 = .ok (.getfield 118, 3) := by decide +kernel
theorem dX9_told_47 : decode cX9_told 47 = .ok (.goto 30, 3) := by decide +kernel
theorem dX9_told_50 : decode cX9_told 50 = .ok (.iload_n 1, 1) := by decide +kernel
theorem dX9_told_51 : decode cX9_told 51 = .ok (.iconst 2, 1) := by decide +kernel
theorem dX9_told_52 : decode cX9_told 52 = .ok (.if_icmp .ne 21, 3) := by decide +kernel
theorem dX9_told_55 : decode cX9_told 55 = .ok (.aload_n 0, 1) := by decide +kernel
theorem dX9_told_56 : decode cX9_told 56 = .ok (.getfield 118, 3) := by decide +kernel
theorem dX9_told_59 : decode cX9_told 59 = .ok (.ifCond .ne 7, 3) := by decide +kernel
theorem dX9_told_62 : decode cX9_told 62 = .ok (.iconst 0, 1) := by decide +kernel
theorem dX9_told_63 : decode cX9_told 63 = .ok (.goto 14, 3) := by decide +kernel
theorem dX9_told_66 : decode cX9_told 66 = .ok (.aload_n 0, 1) := by decide +kernel
theorem dX9_told_67 : decode cX9_told 67 = .ok (.getfield 121, 3) := by decide +kernel
theorem dX9_told_70 : decode cX9_told 70 = .ok (.goto 7, 3) := by decide +kernel
theorem dX9_told_73 : decode cX9_told 73 = .ok (.aload_n 0, 1) := by decide +kernel
theorem dX9_told_74 : decode cX9_told 74 = .ok (.getfield 63, 3) := by decide +kernel
theorem dX9_told_77 : decode cX9_told 77 = .ok (.ireturn, 1) := by decide +kernel
theorem dX9_binOf_0 : decode cX9_binOf 0 = .ok (.iconst (-1), 1) := by decide +kernel
theorem dX9_binOf_1 : decode cX9_binOf 1 = .ok (.istore 4, 2) := by decide +kernel
theorem dX9_binOf_3 : decode cX9_binOf 3 = .ok (.aload_n 0, 1) := by decide +kernel
theorem dX9_binOf_4 : decode cX9_binOf 4 = .ok (.getfield 23, 3) := by decide +kernel
theorem dX9_binOf_7 : decode cX9_binOf 7 = .ok (.iload_n 1, 1) := by decide +kernel
theorem dX9_binOf_8 : decode cX9_binOf 8 = .ok (.iaload, 1) := by decide +kernel
theorem dX9_binOf_9 : decode cX9_binOf 9 = .ok (.aload_n 0, 1) := by decide +kernel
theorem dX9_binOf_10 : decode cX9_binOf 10 = .ok (.getfield 121, 3) := by decide +kernel
theorem dX9_binOf_13 : decode cX9_binOf 13 = .ok (.iload_n 2, 1) := by decide +kernel
theorem dX9_binOf_14 : decode cX9_binOf 14 = .ok (.iadd, 1) := by decide +kernel
theorem dX9_binOf_15 : decode cX9_binOf 15 = .ok (.if_icmp .ge 5, 3) := by decide +kernel
theorem dX9_binOf_18 : decode cX9_binOf 18 = .ok (.iconst (-1), 1) := by decide +kernel
theorem dX9_binOf_19 : decode cX9_binOf 19 = .ok (.ireturn, 1) := by decide +kernel
theorem dX9_binOf_20 : decode cX9_binOf 20 = .ok (.iconst 0, 1) := by decide +kernel
theorem dX9_binOf_21 : decode cX9_binOf 21 = .ok (.istore 5, 2) := by decide +kernel
theorem dX9_binOf_23 : decode cX9_binOf 23 = .ok (.iload 5, 2) := by decide +kernel
theorem dX9_binOf_25 : decode cX9_binOf 25 = .ok (.aload_n 0, 1) := by decide +kernel
theorem dX9_binOf_26 : decode cX9_binOf 26 = .ok (.getfield 118, 3) := by decide +kernel
theorem dX9_binOf_29 : decode cX9_binOf 29 = .ok (.if_icmp .ge 83, 3) := by decide +kernel
theorem dX9_binOf_32 : decode cX9_binOf 32 = .ok (.iconst 0, 1) := by decide +kernel
theorem dX9_binOf_33 : decode cX9_binOf 33 = .ok (.istore 6, 2) := by decide +kernel
theorem dX9_binOf_35 : decode cX9_binOf 35 = .ok (.iconst 0, 1) := by decide +kernel
theorem dX9_binOf_36 : decode cX9_binOf 36 = .ok (.istore 7, 2) := by decide +kernel
theorem dX9_binOf_38 : decode cX9_binOf 38 = .ok (.iload 7, 2) := by decide +kernel
theorem dX9_binOf_40 : decode cX9_binOf 40 = .ok (.aload_n 0, 1) := by decide +kernel
theorem dX9_binOf_41 : decode cX9_binOf 41 = .ok (.getfield 121, 3) := by decide +kernel
theorem dX9_binOf_44 : decode cX9_binOf 44 = .ok (.if_icmp .ge 47, 3) := by decide +kernel
theorem dX9_binOf_47 : decode cX9_binOf 47 = .ok (.iload 6, 2) := by decide +kernel
theorem dX9_binOf_49 : decode cX9_binOf 49 = .ok (.aload_n 0, 1) := by decide +kernel
theorem dX9_binOf_50 : decode cX9_binOf 50 = .ok (.getfield 32, 3) := by decide +kernel
theorem dX9_binOf_53 : decode cX9_binOf 53 = .ok (.bipush 12, 2) := by decide +kernel
theorem dX9_binOf_55 : decode cX9_binOf 55 = .ok (.iload 5, 2) := by decide +kernel
theorem dX9_binOf_57 : decode cX9_binOf 57 = .ok (.imul, 1) := by decide +kernel
theorem dX9_binOf_58 : decode cX9_binOf 58 = .ok (.iload 7, 2) := by decide +kernel
theorem dX9_binOf_60 : decode cX9_binOf 60 = .ok (.iadd, 1) := by decide +kernel
theorem dX9_binOf_61 : decode cX9_binOf 61 = .ok (.iaload, 1) := by decide +kernel
theorem dX9_binOf_62 : decode cX9_binOf 62 = .ok (.aload_n 0, 1) := by decide +kernel
theorem dX9_binOf_63 : decode cX9_binOf 63 = .ok (.getfield 26, 3) := by decide +kernel
theorem dX9_binOf_66 : decode cX9_binOf 66 = .ok (.bipush 120, 2) := by decide +kernel
theorem dX9_binOf_68 : decode cX9_binOf 68 = .ok (.iload_n 1, 1) := by decide +kernel
theorem dX9_binOf_69 : decode cX9_binOf 69 = .ok (.imul, 1) := by decide +kernel
theorem dX9_binOf_70 : decode cX9_binOf 70 = .ok (.iload 7, 2) := by decide +kernel
theorem dX9_binOf_72 : decode cX9_binOf 72 = .ok (.iadd, 1) := by decide +kernel
theorem dX9_binOf_73 : decode cX9_binOf 73 = .ok (.iaload, 1) := by decide +kernel
theorem dX9_binOf_74 : decode cX9_binOf 74 = .ok (.if_icmp .eq 7, 3) := by decide +kernel
theorem dX9_binOf_77 : decode cX9_binOf 77 = .ok (.iconst 1, 1) := by decide +kernel
theorem dX9_binOf_78 : decode cX9_binOf 78 = .ok (.goto 4, 3) := by decide +kernel
theorem dX9_binOf_81 : decode cX9_binOf 81 = .ok (.iconst 0, 1) := by decide +kernel
theorem dX9_binOf_82 : decode cX9_binOf 82 = .ok (.iadd, 1) := by decide +kernel
theorem dX9_binOf_83 : decode cX9_binOf 83 = .ok (.istore 6, 2) := by decide +kernel
theorem dX9_binOf_85 : decode cX9_binOf 85 = .ok (.iinc 7 1, 3) := by decide +kernel
theorem dX9_binOf_88 : decode cX9_binOf 88 = .ok (.goto (-50), 3) := by decide +kernel
theorem dX9_binOf_91 : decode cX9_binOf 91 = .ok (.iload 6, 2) := by decide +kernel
theorem dX9_binOf_93 : decode cX9_binOf 93 = .ok (.iload_n 3, 1) := by decide +kernel
theorem dX9_binOf_94 : decode cX9_binOf 94 = .ok (.if_icmp .gt 8, 3) := by decide +kernel
theorem dX9_binOf_97 : decode cX9_binOf 97 = .ok (.iload 5, 2) := by decide +kernel
theorem dX9_binOf_99 : decode cX9_binOf 99 = .ok (.goto 5, 3) := by decide +kernel
theorem dX9_binOf_102 : decode cX9_binOf 102 = .ok (.iload 4, 2) := by decide +kernel
theorem dX9_binOf_104 : decode cX9_binOf 104 = .ok (.istore 4, 2) := by decide +kernel
theorem dX9_binOf_106 : decode cX9_binOf 106 = .ok (.iinc 5 1, 3) := by decide +kernel
theorem dX9_binOf_109 : decode cX9_binOf 109 = .ok (.goto (-86), 3) := by decide +kernel
theorem dX9_binOf_112 : decode cX9_binOf 112 = .ok (.iload 4, 2) := by decide +kernel
theorem dX9_binOf_114 : decode cX9_binOf 114 = .ok (.ireturn, 1) := by decide +kernel
theorem dX9_cutAdapter_0 : decode cX9_cutAdapter 0 = .ok (.aload_n 0, 1) := by decide +kernel
theorem dX9_cutAdapter_1 : decode cX9_cutAdapter 1 = .ok (.getfield 44, 3) := by decide +kernel
theorem dX9_cutAdapter_4 : decode cX9_cutAdapter 4 = .ok (.iload_n 1, 1) := by decide +kernel
theorem dX9_cutAdapter_5 : decode cX9_cutAdapter 5 = .ok (.iaload, 1) := by decide +kernel
theorem dX9_cutAdapter_6 : decode cX9_cutAdapter 6 = .ok (.istore_n 2, 1) := by decide +kernel
theorem dX9_cutAdapter_7 : decode cX9_cutAdapter 7 = .ok (.iload_n 2, 1) := by decide +kernel
theorem dX9_cutAdapter_8 : decode cX9_cutAdapter 8 = .ok (.aload_n 0, 1) := by decide +kernel
theorem dX9_cutAdapter_9 : decode cX9_cutAdapter 9 = .ok (.getfield 47, 3) := by decide +kernel
theorem dX9_cutAdapter_12 : decode cX9_cutAdapter 12 = .ok (.iload_n 1, 1) := by decide +kernel
theorem dX9_cutAdapter_13 : decode cX9_cutAdapter 13 = .ok (.iaload, 1) := by decide +kernel
theorem dX9_cutAdapter_14 : decode cX9_cutAdapter 14 = .ok (.if_icmp .ge 119, 3) := by decide +kernel
theorem dX9_cutAdapter_17 : decode cX9_cutAdapter 17 = .ok (.aload_n 0, 1) := by decide +kernel
theorem dX9_cutAdapter_18 : decode cX9_cutAdapter 18 = .ok (.getfield 131, 3) := by decide +kernel
theorem dX9_cutAdapter_21 : decode cX9_cutAdapter 21 = .ok (.ifCond .le 112, 3) := by decide +kernel
theorem dX9_cutAdapter_24 : decode cX9_cutAdapter 24 = .ok (.aload_n 0, 1) := by decide +kernel
theorem dX9_cutAdapter_25 : decode cX9_cutAdapter 25 = .ok (.getfield 47, 3) := by decide +kernel
theorem dX9_cutAdapter_28 : decode cX9_cutAdapter 28 = .ok (.iload_n 1, 1) := by decide +kernel
theorem dX9_cutAdapter_29 : decode cX9_cutAdapter 29 = .ok (.iaload, 1) := by decide +kernel
theorem dX9_cutAdapter_30 : decode cX9_cutAdapter 30 = .ok (.iload_n 2, 1) := by decide +kernel
theorem dX9_cutAdapter_31 : decode cX9_cutAdapter 31 = .ok (.isub, 1) := by decide +kernel
theorem dX9_cutAdapter_32 : decode cX9_cutAdapter 32 = .ok (.aload_n 0, 1) := by decide +kernel
theorem dX9_cutAdapter_33 : decode cX9_cutAdapter 33 = .ok (.getfield 131, 3) := by decide +kernel
theorem dX9_cutAdapter_36 : decode cX9_cutAdapter 36 = .ok (.if_icmp .ge 14, 3) := by decide +kernel
theorem dX9_cutAdapter_39 : decode cX9_cutAdapter 39 = .ok (.aload_n 0, 1) := by decide +kernel
theorem dX9_cutAdapter_40 : decode cX9_cutAdapter 40 = .ok (.getfield 47, 3) := by decide +kernel
theorem dX9_cutAdapter_43 : decode cX9_cutAdapter 43 = .ok (.iload_n 1, 1) := by decide +kernel
theorem dX9_cutAdapter_44 : decode cX9_cutAdapter 44 = .ok (.iaload, 1) := by decide +kernel
theorem dX9_cutAdapter_45 : decode cX9_cutAdapter 45 = .ok (.iload_n 2, 1) := by decide +kernel
theorem dX9_cutAdapter_46 : decode cX9_cutAdapter 46 = .ok (.isub, 1) := by decide +kernel
theorem dX9_cutAdapter_47 : decode cX9_cutAdapter 47 = .ok (.goto 7, 3) := by decide +kernel
theorem dX9_cutAdapter_50 : decode cX9_cutAdapter 50 = .ok (.aload_n 0, 1) := by decide +kernel
theorem dX9_cutAdapter_51 : decode cX9_cutAdapter 51 = .ok (.getfield 131, 3) := by decide +kernel
theorem dX9_cutAdapter_54 : decode cX9_cutAdapter 54 = .ok (.istore_n 3, 1) := by decide +kernel
theorem dX9_cutAdapter_55 : decode cX9_cutAdapter 55 = .ok (.iconst 0, 1) := by decide +kernel
theorem dX9_cutAdapter_56 : decode cX9_cutAdapter 56 = .ok (.istore 4, 2) := by decide +kernel
theorem dX9_cutAdapter_58 : decode cX9_cutAdapter 58 = .ok (.iconst 0, 1) := by decide +kernel
theorem dX9_cutAdapter_59 : decode cX9_cutAdapter 59 = .ok (.istore 5, 2) := by decide +kernel
theorem dX9_cutAdapter_61 : decode cX9_cutAdapter 61 = .ok (.iload 5, 2) := by decide +kernel
theorem dX9_cutAdapter_63 : decode cX9_cutAdapter 63 = .ok (.iload_n 3, 1) := by decide +kernel
theorem dX9_cutAdapter_64 : decode cX9_cutAdapter 64 = .ok (.if_icmp .ge 43, 3) := by decide +kernel
theorem dX9_cutAdapter_67 : decode cX9_cutAdapter 67 = .ok (.iload 4, 2) := by decide +kernel
theorem dX9_cutAdapter_69 : decode cX9_cutAdapter 69 = .ok (.aload_n 0, 1) := by decide +kernel
theorem dX9_cutAdapter_70 : decode cX9_cutAdapter 70 = .ok (.getfield 26, 3) := by decide +kernel
theorem dX9_cutAdapter_73 : decode cX9_cutAdapter 73 = .ok (.bipush 120, 2) := by decide +kernel
theorem dX9_cutAdapter_75 : decode cX9_cutAdapter 75 = .ok (.iload_n 1, 1) := by decide +kernel
theorem dX9_cutAdapter_76 : decode cX9_cutAdapter 76 = .ok (.imul, 1) := by decide +kernel
theorem dX9_cutAdapter_77 : decode cX9_cutAdapter 77 = .ok (.iload_n 2, 1) := by decide +kernel
theorem dX9_cutAdapter_78 : decode cX9_cutAdapter 78 = .ok (.iadd, 1) := by decide +kernel
theorem dX9_cutAdapter_79 : decode cX9_cutAdapter 79 = .ok (.iload 5, 2) := by decide +kernel
theorem dX9_cutAdapter_81 : decode cX9_cutAdapter 81 = .ok (.iadd, 1) := by decide +kernel
theorem dX9_cutAdapter_82 : decode cX9_cutAdapter 82 = .ok (.iaload, 1) := by decide +kernel
theorem dX9_cutAdapter_83 : decode cX9_cutAdapter 83 = .ok (.aload_n 0, 1) := by decide +kernel
theorem dX9_cutAdapter_84 : decode cX9_cutAdapter 84 = .ok (.getfield 35, 3) := by decide +kernel
theorem dX9_cutAdapter_87 : decode cX9_cutAdapter 87 = .ok (.iload 5, 2) := by decide +kernel
theorem dX9_cutAdapter_89 : decode cX9_cutAdapter 89 = .ok (.iaload, 1) := by decide +kernel
theorem dX9_cutAdapter_90 : decode cX9_cutAdapter 90 = .ok (.if_icmp .eq 7, 3) := by decide +kernel
theorem dX9_cutAdapter_93 : decode cX9_cutAdapter 93 = .ok (.iconst 1, 1) := by decide +kernel
theorem dX9_cutAdapter_94 : decode cX9_cutAdapter 94 = .ok (.goto 4, 3) := by decide +kernel
theorem dX9_cutAdapter_97 : decode cX9_cutAdapter 97 = .ok (.iconst 0, 1) := by decide +kernel
theorem dX9_cutAdapter_98 : decode cX9_cutAdapter 98 = .ok (.iadd, 1) := by decide +kernel
theorem dX9_cutAdapter_99 : decode cX9_cutAdapter 99 = .ok (.istore 4, 2) := by decide +kernel
theorem dX9_cutAdapter_101 : decode cX9_cutAdapter 101 = .ok (.iinc 5 1, 3) := by decide +kernel
theorem dX9_cutAdapter_104 : decode cX9_cutAdapter 104 = .ok (.goto (-43), 3) := by decide +kernel
theorem dX9_cutAdapter_107 : decode cX9_cutAdapter 107 = .ok (.iload_n 3, 1) := by decide +kernel
theorem dX9_cutAdapter_108 : decode cX9_cutAdapter 108 = .ok (.iconst 3, 1) := by decide +kernel
theorem dX9_cutAdapter_109 : decode cX9_cutAdapter 109 = .ok (.if_icmp .lt 18, 3) := by decide +kernel
theorem dX9_cutAdapter_112 : decode cX9_cutAdapter 112 = .ok (.iload 4, 2) := by decide +kernel
theorem dX9_cutAdapter_114 : decode cX9_cutAdapter 114 = .ok (.iload_n 3, 1) := by decide +kernel
theorem dX9_cutAdapter_115 : decode cX9_cutAdapter 115 = .ok (.iconst 5, 1) := by decide +kernel
theorem dX9_cutAdapter_116 : decode cX9_cutAdapter 116 = .ok (.idiv, 1) := by decide +kernel
theorem dX9_cutAdapter_117 : decode cX9_cutAdapter 117 = .ok (.if_icmp .gt 10, 3) := by decide +kernel
theorem dX9_cutAdapter_120 : decode cX9_cutAdapter 120 = .ok (.aload_n 0, 1) := by decide +kernel
theorem dX9_cutAdapter_121 : decode cX9_cutAdapter 121 = .ok (.getfield 47, 3) := by decide +kernel
theorem dX9_cutAdapter_124 : decode cX9_cutAdapter 124 = .ok (.iload_n 1, 1) := by decide +kernel
theorem dX9_cutAdapter_125 : decode cX9_cutAdapter 125 = .ok (.iload_n 2, 1) := by decide +kernel
theorem dX9_cutAdapter_126 : decode cX9_cutAdapter 126 = .ok (.iastore, 1) := by decide +kernel
theorem dX9_cutAdapter_127 : decode cX9_cutAdapter 127 = .ok (.iinc 2 1, 3) := by decide +kernel
theorem dX9_cutAdapter_130 : decode cX9_cutAdapter 130 = .ok (.goto (-123), 3) := by decide +kernel
theorem dX9_cutAdapter_133 : decode cX9_cutAdapter 133 = .ok (.return_, 1) := by decide +kernel
theorem dX9_cutQualities_0 : decode cX9_cutQualities 0 = .ok (.iconst 0, 1) := by decide +kernel
theorem dX9_cutQualities_1 : decode cX9_cutQualities 1 = .ok (.istore_n 2, 1) := by decide +kernel
theorem dX9_cutQualities_2 : decode cX9_cutQualities 2 = .ok (.iconst 0, 1) := by decide +kernel
theorem dX9_cutQualities_3 : decode cX9_cutQualities 3 = .ok (.istore_n 3, 1) := by decide +kernel
theorem dX9_cutQualities_4 : decode cX9_cutQualities 4 = .ok (.aload_n 0, 1) := by decide +kernel
theorem dX9_cutQualities_5 : decode cX9_cutQualities 5 = .ok (.getfield 47, 3) := by decide +kernel
theorem dX9_cutQualities_8 : decode cX9_cutQualities 8 = .ok (.iload_n 1, 1) := by decide +kernel
theorem dX9_cutQualities_9 : decode cX9_cutQualities 9 = .ok (.iaload, 1) := by decide +kernel
theorem dX9_cutQualities_10 : decode cX9_cutQualities 10 = .ok (.istore 4, 2) := by decide +kernel
theorem dX9_cutQualities_12 : decode cX9_cutQualities 12 = .ok (.aload_n 0, 1) := by decide +kernel
theorem dX9_cutQualities_13 : decode cX9_cutQualities 13 = .ok (.getfield 47, 3) := by decide +kernel
theorem dX9_cutQualities_16 : decode cX9_cutQualities 16 = .ok (.iload_n 1, 1) := by decide +kernel
theorem dX9_cutQualities_17 : decode cX9_cutQualities 17 = .ok (.iaload, 1) := by decide +kernel
theorem dX9_cutQualities_18 : decode cX9_cutQualities 18 = .ok (.iconst 1, 1) := by decide +kernel
theorem dX9_cutQualities_19 : decode cX9_cutQualities 19 = .ok (.isub, 1) := by decide +kernel
theorem dX9_cutQualities_20 : decode cX9_cutQualities 20 = .ok (.istore 5, 2) := by decide +kernel
theorem dX9_cutQualities_22 : decode cX9_cutQualities 22 = .ok (.iload 5, 2) := by decide +kernel
theorem dX9_cutQualities_24 : decode cX9_cutQualities 24 = .ok (.aload_n 0, 1) := by decide +kernel
theorem dX9_cutQualities_25 : decode cX9_cutQualities 25 = .ok (.getfield 44, 3) := by decide +kernel
theorem dX9_cutQualities_28 : decode cX9_cutQualities 28 = .ok (.iload_n 1, 1) := by decide +kernel
theorem dX9_cutQualities_29 : decode cX9_cutQualities 29 = .ok (.iaload, 1) := by decide +kernel
theorem dX9_cutQualities_30 : decode cX9_cutQualities 30 = .ok (.if_icmp .lt 65, 3) := by decide +kernel
theorem dX9_cutQualities_33 : decode cX9_cutQualities 33 = .ok (.aload_n 0, 1) := by decide +kernel
theorem dX9_cutQualities_34 : decode cX9_cutQualities 34 = .ok (.getfield 137, 3) := by decide +kernel
theorem dX9_cutQualities_37 : decode cX9_cutQualities 37 = .ok (.ifCond .le 58, 3) := by decide +kernel
theorem dX9_cutQualities_40 : decode cX9_cutQualities 40 = .ok (.iload_n 2, 1) := by decide +kernel
theorem dX9_cutQualities_41 : decode cX9_cutQualities 41 = .ok (.ifCond .lt 54, 3) := by decide +kernel
theorem dX9_cutQualities_44 : decode cX9_cutQualities 44 = .ok (.iload_n 2, 1) := by decide +kernel
theorem dX9_cutQualities_45 : decode cX9_cutQualities 45 = .ok (.aload_n 0, 1) := by decide +kernel
theorem dX9_cutQualities_46 : decode cX9_cutQualities 46 = .ok (.getfield 137, 3) := by decide +kernel
theorem dX9_cutQualities_49 : decode cX9_cutQualities 49 = .ok (.aload_n 0, 1) := by decide +kernel
theorem dX9_cutQualities_50 : decode cX9_cutQualities 50 = .ok (.getfield 29, 3) := by decide +kernel
theorem dX9_cutQualities_53 : decode cX9_cutQualities 53 = .ok (.bipush 120, 2) := by decide +kernel
theorem dX9_cutQualities_55 : decode cX9_cutQualities 55 = .ok (.iload_n 1, 1) := by decide +kernel
theorem dX9_cutQualities_56 : decode cX9_cutQualities 56 = .ok (.imul, 1) := by decide +kernel
theorem dX9_cutQualities_57 : decode cX9_cutQualities 57 = .ok (.iload 5, 2) := by decide +kernel
theorem dX9_cutQualities_59 : decode cX9_cutQualities 59 = .ok (.iadd, 1) := by decide +kernel
theorem dX9_cutQualities_60 : decode cX9_cutQualities 60 = .ok (.iaload, 1) := by decide +kernel
theorem dX9_cutQualities_61 : decode cX9_cutQualities 61 = .ok (.isub, 1) := by decide +kernel
theorem dX9_cutQualities_62 : decode cX9_cutQualities 62 = .ok (.iadd, 1) := by decide +kernel
theorem dX9_cutQualities_63 : decode cX9_cutQualities 63 = .ok (.istore_n 2, 1) := by decide +kernel
theorem dX9_cutQualities_64 : decode cX9_cutQualities 64 = .ok (.iload_n 2, 1) := by decide +kernel
theorem dX9_cutQualities_65 : decode cX9_cutQualities 65 = .ok (.iload_n 3, 1) := by decide +kernel
theorem dX9_cutQualities_66 : decode cX9_cutQualities 66 = .ok (.if_icmp .le 8, 3) := by decide +kernel
theorem dX9_cutQualities_69 : decode cX9_cutQualities 69 = .ok (.iload 5, 2) := by decide +kernel
theorem dX9_cutQualities_71 : decode cX9_cutQualities 71 = .ok (.goto 5, 3) := by decide +kernel
theorem dX9_cutQualities_74 : decode cX9_cutQualities 74 = .ok (.iload 4, 2) := by decide +kernel
theorem dX9_cutQualities_76 : decode cX9_cutQualities 76 = .ok (.istore 4, 2) := by decide +kernel
theorem dX9_cutQualities_78 : decode cX9_cutQualities 78 = .ok (.iload_n 2, 1) := by decide +kernel
theorem dX9_cutQualities_79 : decode cX9_cutQualities 79 = .ok (.iload_n 3, 1) := by decide +kernel
theorem dX9_cutQualities_80 : decode cX9_cutQualities 80 = .ok (.if_icmp .le 7, 3) := by decide +kernel
theorem dX9_cutQualities_83 : decode cX9_cutQualities 83 = .ok (.iload_n 2, 1) := by decide +kernel
theorem dX9_cutQualities_84 : decode cX9_cutQualities 84 = .ok (.goto 4, 3) := by decide +kernel
theorem dX9_cutQualities_87 : decode cX9_cutQualities 87 = .ok (.iload_n 3, 1) := by decide +kernel
theorem dX9_cutQualities_88 : decode cX9_cutQualities 88 = .ok (.istore_n 3, 1) := by decide +kernel
theorem dX9_cutQualities_89 : decode cX9_cutQualities 89 = .ok (.iinc 5 (-1), 3) := by decide +kernel
theorem dX9_cutQualities_92 : decode cX9_cutQualities 92 = .ok (.goto (-70), 3) := by decide +kernel
theorem dX9_cutQualities_95 : decode cX9_cutQualities 95 = .ok (.aload_n 0, 1) := by decide +kernel
theorem dX9_cutQualities_96 : decode cX9_cutQualities 96 = .ok (.getfield 47, 3) := by decide +kernel
theorem dX9_cutQualities_99 : decode cX9_cutQualities 99 = .ok (.iload_n 1, 1) := by decide +kernel
theorem dX9_cutQualities_100 : decode cX9_cutQualities 100 = .ok (.iload 4, 2) := by decide +kernel
theorem dX9_cutQualities_102 : decode cX9_cutQualities 102 = .ok (.iastore, 1) := by decide +kernel
theorem dX9_cutQualities_103 : decode cX9_cutQualities 103 = .ok (.iconst 0, 1) := by decide +kernel
theorem dX9_cutQualities_104 : decode cX9_cutQualities 104 = .ok (.istore_n 2, 1) := by decide +kernel
theorem dX9_cutQualities_105 : decode cX9_cutQualities 105 = .ok (.iconst 0, 1) := by decide +kernel
theorem dX9_cutQualities_106 : decode cX9_cutQualities 106 = .ok (.istore_n 3, 1) := by decide +kernel
theorem dX9_cutQualities_107 : decode cX9_cutQualities 107 = .ok (.aload_n 0, 1) := by decide +kernel
theorem dX9_cutQualities_108 : decode cX9_cutQualities 108 = .ok (.getfield 44, 3) := by decide +kernel
theorem dX9_cutQualities_111 : decode cX9_cutQualities 111 = .ok (.iload_n 1, 1) := by decide +kernel
theorem dX9_cutQualities_112 : decode cX9_cutQualities 112 = .ok (.iaload, 1) := by decide +kernel
theorem dX9_cutQualities_113 : decode cX9_cutQualities 113 = .ok (.istore 5, 2) := by decide +kernel
theorem dX9_cutQualities_115 : decode cX9_cutQualities 115 = .ok (.aload_n 0, 1) := by decide +kernel
theorem dX9_cutQualities_116 : decode cX9_cutQualities 116 = .ok (.getfield 44, 3) := by decide +kernel
theorem dX9_cutQualities_119 : decode cX9_cutQualities 119 = .ok (.iload_n 1, 1) := by decide +kernel
theorem dX9_cutQualities_120 : decode cX9_cutQualities 120 = .ok (.iaload, 1) := by decide +kernel
theorem dX9_cutQualities_121 : decode cX9_cutQualities 121 = .ok (.istore 6, 2) := by decide +kernel
theorem dX9_cutQualities_123 : decode cX9_cutQualities 123 = .ok (.iload 6, 2) := by decide +kernel
theorem dX9_cutQualities_125 : decode cX9_cutQualities 125 = .ok (.aload_n 0, 1) := by decide +kernel
theorem dX9_cutQualities_126 : decode cX9_cutQualities 126 = .ok (.getfield 47, 3) := by decide +kernel
theorem dX9_cutQualities_129 : decode cX9_cutQualities 129 = .ok (.iload_n 1, 1) := by decide +kernel
theorem dX9_cutQualities_130 : decode cX9_cutQualities 130 = .ok (.iaload, 1) := by decide +kernel
theorem dX9_cutQualities_131 : decode cX9_cutQualities 131 = .ok (.if_icmp .ge 67, 3) := by decide +kernel
theorem dX9_cutQualities_134 : decode cX9_cutQualities 134 = .ok (.aload_n 0, 1) := by decide +kernel
theorem dX9_cutQualities_135 : decode cX9_cutQualities 135 = .ok (.getfield 134, 3) := by decide +kernel
theorem dX9_cutQualities_138 : decode cX9_cutQualities 138 = .ok (.ifCond .le 60, 3) := by decide +kernel
theorem dX9_cutQualities_141 : decode cX9_cutQualities 141 = .ok (.iload_n 2, 1) := by decide +kernel
theorem dX9_cutQualities_142 : decode cX9_cutQualities 142 = .ok (.ifCond .lt 56, 3) := by decide +kernel
theorem dX9_cutQualities_145 : decode cX9_cutQualities 145 = .ok (.iload_n 2, 1) := by decide +kernel
theorem dX9_cutQualities_146 : decode cX9_cutQualities 146 = .ok (.aload_n 0, 1) := by decide +kernel
theorem dX9_cutQualities_147 : decode cX9_cutQualities 147 = .ok (.getfield 134, 3) := by decide +kernel
theorem dX9_cutQualities_150 : decode cX9_cutQualities 150 = .ok (.aload_n 0, 1) := by decide +kernel
theorem dX9_cutQualities_151 : decode cX9_cutQualities 151 = .ok (.getfield 29, 3) := by decide +kernel
theorem dX9_cutQualities_154 : decode cX9_cutQualities 154 = .ok (.bipush 120, 2) := by decide +kernel
theorem dX9_cutQualities_156 : decode cX9_cutQualities 156 = .ok (.iload_n 1, 1) := by decide +kernel
theorem dX9_cutQualities_157 : decode cX9_cutQualities 157 = .ok (.imul, 1) := by decide +kernel
theorem dX9_cutQualities_158 : decode cX9_cutQualities 158 = .ok (.iload 6, 2) := by decide +kernel
theorem dX9_cutQualities_160 : decode cX9_cutQualities 160 = .ok (.iadd, 1) := by decide +kernel
theorem dX9_cutQualities_161 : decode cX9_cutQualities 161 = .ok (.iaload, 1) := by decide +kernel
theorem dX9_cutQualities_162 : decode cX9_cutQualities 162 = .ok (.isub, 1) := by decide +kernel
theorem dX9_cutQualities_163 : decode cX9_cutQualities 163 = .ok (.iadd, 1) := by decide +kernel
theorem dX9_cutQualities_164 : decode cX9_cutQualities 164 = .ok (.istore_n 2, 1) := by decide +kernel
theorem dX9_cutQualities_165 : decode cX9_cutQualities 165 = .ok (.iload_n 2, 1) := by decide +kernel
theorem dX9_cutQualities_166 : decode cX9_cutQualities 166 = .ok (.iload_n 3, 1) := by decide +kernel
theorem dX9_cutQualities_167 : decode cX9_cutQualities 167 = .ok (.if_icmp .le 10, 3) := by decide +kernel
theorem dX9_cutQualities_170 : decode cX9_cutQualities 170 = .ok (.iload 6, 2) := by decide +kernel
theorem dX9_cutQualities_172 : decode cX9_cutQualities 172 = .ok (.iconst 1, 1) := by decide +kernel
theorem dX9_cutQualities_173 : decode cX9_cutQualities 173 = .ok (.iadd, 1) := by decide +kernel
theorem dX9_cutQualities_174 : decode cX9_cutQualities 174 = .ok (.goto 5, 3) := by decide +kernel
theorem dX9_cutQualities_177 : decode cX9_cutQualities 177 = .ok (.iload 5, 2) := by decide +kernel
theorem dX9_cutQualities_179 : decode cX9_cutQualities 179 = .ok (.istore 5, 2) := by decide +kernel
theorem dX9_cutQualities_181 : decode cX9_cutQualities 181 = .ok (.iload_n 2, 1) := by decide +kernel
theorem dX9_cutQualities_182 : decode cX9_cutQualities 182 = .ok (.iload_n 3, 1) := by decide +kernel
theorem dX9_cutQualities_183 : decode cX9_cutQualities 183 = .ok (.if_icmp .le 7, 3) := by decide +kernel
theorem dX9_cutQualities_186 : decode cX9_cutQualities 186 = .ok (.iload_n 2, 1) := by decide +kernel
theorem dX9_cutQualities_187 : decode cX9_cutQualities 187 = .ok (.goto 4, 3) := by decide +kernel
theorem dX9_cutQualities_190 : decode cX9_cutQualities 190 = .ok (.iload_n 3, 1) := by decide +kernel
theorem dX9_cutQualities_191 : decode cX9_cutQualities 191 = .ok (.istore_n 3, 1) := by decide +kernel
theorem dX9_cutQualities_192 : decode cX9_cutQualities 192 = .ok (.iinc 6 1, 3) := by decide +kernel
theorem dX9_cutQualities_195 : decode cX9_cutQualities 195 = .ok (.goto (-72), 3) := by decide +kernel
theorem dX9_cutQualities_198 : decode cX9_cutQualities 198 = .ok (.aload_n 0, 1) := by decide +kernel
theorem dX9_cutQualities_199 : decode cX9_cutQualities 199 = .ok (.getfield 44, 3) := by decide +kernel
theorem dX9_cutQualities_202 : decode cX9_cutQualities 202 = .ok (.iload_n 1, 1) := by decide +kernel
theorem dX9_cutQualities_203 : decode cX9_cutQualities 203 = .ok (.iload 5, 2) := by decide +kernel
theorem dX9_cutQualities_205 : decode cX9_cutQualities 205 = .ok (.iastore, 1) := by decide +kernel
theorem dX9_cutQualities_206 : decode cX9_cutQualities 206 = .ok (.return_, 1) := by decide +kernel
theorem dX9_cutNone_0 : decode cX9_cutNone 0 = .ok (.aload_n 0, 1) := by decide +kernel
theorem dX9_cutNone_1 : decode cX9_cutNone 1 = .ok (.getfield 44, 3) := by decide +kernel
theorem dX9_cutNone_4 : decode cX9_cutNone 4 = .ok (.iload_n 1, 1) := by decide +kernel
theorem dX9_cutNone_5 : decode cX9_cutNone 5 = .ok (.iaload, 1) := by decide +kernel
theorem dX9_cutNone_6 : decode cX9_cutNone 6 = .ok (.aload_n 0, 1) := by decide +kernel
theorem dX9_cutNone_7 : decode cX9_cutNone 7 = .ok (.getfield 47, 3) := by decide +kernel
theorem dX9_cutNone_10 : decode cX9_cutNone 10 = .ok (.iload_n 1, 1) := by decide +kernel
theorem dX9_cutNone_11 : decode cX9_cutNone 11 = .ok (.iaload, 1) := by decide +kernel
theorem dX9_cutNone_12 : decode cX9_cutNone 12 = .ok (.if_icmp .ge 37, 3) := by decide +kernel
theorem dX9_cutNone_15 : decode cX9_cutNone 15 = .ok (.aload_n 0, 1) := by decide +kernel
theorem dX9_cutNone_16 : decode cX9_cutNone 16 = .ok (.getfield 26, 3) := by decide +kernel
theorem dX9_cutNone_19 : decode cX9_cutNone 19 = .ok (.bipush 120, 2) := by decide +kernel
theorem dX9_cutNone_21 : decode cX9_cutNone 21 = .ok (.iload_n 1, 1) := by decide +kernel
theorem dX9_cutNone_22 : decode cX9_cutNone 22 = .ok (.imul, 1) := by decide +kernel
theorem dX9_cutNone_23 : decode cX9_cutNone 23 = .ok (.aload_n 0, 1) := by decide +kernel
theorem dX9_cutNone_24 : decode cX9_cutNone 24 = .ok (.getfield 44, 3) := by decide +kernel
theorem dX9_cutNone_27 : decode cX9_cutNone 27 = .ok (.iload_n 1, 1) := by decide +kernel
theorem dX9_cutNone_28 : decode cX9_cutNone 28 = .ok (.iaload, 1) := by decide +kernel
theorem dX9_cutNone_29 : decode cX9_cutNone 29 = .ok (.iadd, 1) := by decide +kernel
theorem dX9_cutNone_30 : decode cX9_cutNone 30 = .ok (.iaload, 1) := by decide +kernel
theorem dX9_cutNone_31 : decode cX9_cutNone 31 = .ok (.bipush 78, 2) := by decide +kernel
theorem dX9_cutNone_33 : decode cX9_cutNone 33 = .ok (.if_icmp .ne 16, 3) := by decide +kernel
theorem dX9_cutNone_36 : decode cX9_cutNone 36 = .ok (.aload_n 0, 1) := by decide +kernel
theorem dX9_cutNone_37 : decode cX9_cutNone 37 = .ok (.getfield 44, 3) := by decide +kernel
theorem dX9_cutNone_40 : decode cX9_cutNone 40 = .ok (.iload_n 1, 1) := by decide +kernel
theorem dX9_cutNone_41 : decode cX9_cutNone 41 = .ok (.dup2, 1) := by decide +kernel
theorem dX9_cutNone_42 : decode cX9_cutNone 42 = .ok (.iaload, 1) := by decide +kernel
theorem dX9_cutNone_43 : decode cX9_cutNone 43 = .ok (.iconst 1, 1) := by decide +kernel
theorem dX9_cutNone_44 : decode cX9_cutNone 44 = .ok (.iadd, 1) := by decide +kernel
theorem dX9_cutNone_45 : decode cX9_cutNone 45 = .ok (.iastore, 1) := by decide +kernel
theorem dX9_cutNone_46 : decode cX9_cutNone 46 = .ok (.goto (-46), 3) := by decide +kernel
theorem dX9_cutNone_49 : decode cX9_cutNone 49 = .ok (.aload_n 0, 1) := by decide +kernel
theorem dX9_cutNone_50 : decode cX9_cutNone 50 = .ok (.getfield 44, 3) := by decide +kernel
theorem dX9_cutNone_53 : decode cX9_cutNone 53 = .ok (.iload_n 1, 1) := by decide +kernel
theorem dX9_cutNone_54 : decode cX9_cutNone 54 = .ok (.iaload, 1) := by decide +kernel
theorem dX9_cutNone_55 : decode cX9_cutNone 55 = .ok (.aload_n 0, 1) := by decide +kernel
theorem dX9_cutNone_56 : decode cX9_cutNone 56 = .ok (.getfield 47, 3) := by decide +kernel
theorem dX9_cutNone_59 : decode cX9_cutNone 59 = .ok (.iload_n 1, 1) := by decide +kernel
theorem dX9_cutNone_60 : decode cX9_cutNone 60 = .ok (.iaload, 1) := by decide +kernel
theorem dX9_cutNone_61 : decode cX9_cutNone 61 = .ok (.if_icmp .ge 39, 3) := by decide +kernel
theorem dX9_cutNone_64 : decode cX9_cutNone 64 = .ok (.aload_n 0, 1) := by decide +kernel
theorem dX9_cutNone_65 : decode cX9_cutNone 65 = .ok (.getfield 26, 3) := by decide +kernel
theorem dX9_cutNone_68 : decode cX9_cutNone 68 = .ok (.bipush 120, 2) := by decide +kernel
theorem dX9_cutNone_70 : decode cX9_cutNone 70 = .ok (.iload_n 1, 1) := by decide +kernel
theorem dX9_cutNone_71 : decode cX9_cutNone 71 = .ok (.imul, 1) := by decide +kernel
theorem dX9_cutNone_72 : decode cX9_cutNone 72 = .ok (.aload_n 0, 1) := by decide +kernel
theorem dX9_cutNone_73 : decode cX9_cutNone 73 = .ok (.getfield 47, 3) := by decide +kernel
theorem dX9_cutNone_76 : decode cX9_cutNone 76 = .ok (.iload_n 1, 1) := by decide +kernel
theorem dX9_cutNone_77 : decode cX9_cutNone 77 = .ok (.iaload, 1) := by decide +kernel
theorem dX9_cutNone_78 : decode cX9_cutNone 78 = .ok (.iadd, 1) := by decide +kernel
theorem dX9_cutNone_79 : decode cX9_cutNone 79 = .ok (.iconst 1, 1) := by decide +kernel
theorem dX9_cutNone_80 : decode cX9_cutNone 80 = .ok (.isub, 1) := by decide +kernel
theorem dX9_cutNone_81 : decode cX9_cutNone 81 = .ok (.iaload, 1) := by decide +kernel
theorem dX9_cutNone_82 : decode cX9_cutNone 82 = .ok (.bipush 78, 2) := by decide +kernel
theorem dX9_cutNone_84 : decode cX9_cutNone 84 = .ok (.if_icmp .ne 16, 3) := by decide +kernel
theorem dX9_cutNone_87 : decode cX9_cutNone 87 = .ok (.aload_n 0, 1) := by decide +kernel
theorem dX9_cutNone_88 : decode cX9_cutNone 88 = .ok (.getfield 47, 3) := by decide +kernel
theorem dX9_cutNone_91 : decode cX9_cutNone 91 = .ok (.iload_n 1, 1) := by decide +kernel
theorem dX9_cutNone_92 : decode cX9_cutNone 92 = .ok (.dup2, 1) := by decide +kernel
theorem dX9_cutNone_93 : decode cX9_cutNone 93 = .ok (.iaload, 1) := by decide +kernel
theorem dX9_cutNone_94 : decode cX9_cutNone 94 = .ok (.iconst 1, 1) := by decide +kernel
theorem dX9_cutNone_95 : decode cX9_cutNone 95 = .ok (.isub, 1) := by decide +kernel
theorem dX9_cutNone_96 : decode cX9_cutNone 96 = .ok (.iastore, 1) := by decide +kernel
theorem dX9_cutNone_97 : decode cX9_cutNone 97 = .ok (.goto (-48), 3) := by decide +kernel
theorem dX9_cutNone_100 : decode cX9_cutNone 100 = .ok (.return_, 1) := by decide +kernel
theorem dX9_tagAt_0 : decode cX9_tagAt 0 = .ok (.aload_n 0, 1) := by decide +kernel
theorem dX9_tagAt_1 : decode cX9_tagAt 1 = .ok (.getfield 26, 3) := by decide +kernel
theorem dX9_tagAt_4 : decode cX9_tagAt 4 = .ok (.bipush 120, 2) := by decide +kernel
theorem dX9_tagAt_6 : decode cX9_tagAt 6 = .ok (.iload_n 1, 1) := by decide +kernel
theorem dX9_tagAt_7 : decode cX9_tagAt 7 = .ok (.imul, 1) := by decide +kernel
theorem dX9_tagAt_8 : decode cX9_tagAt 8 = .ok (.aload_n 0, 1) := by decide +kernel
theorem dX9_tagAt_9 : decode cX9_tagAt 9 = .ok (.getfield 143, 3) := by decide +kernel
theorem dX9_tagAt_12 : decode cX9_tagAt 12 = .ok (.iadd, 1) := by decide +kernel
theorem dX9_tagAt_13 : decode cX9_tagAt 13 = .ok (.iload_n 2, 1) := by decide +kernel
theorem dX9_tagAt_14 : decode cX9_tagAt 14 = .ok (.iadd, 1) := by decide +kernel
theorem dX9_tagAt_15 : decode cX9_tagAt 15 = .ok (.iaload, 1) := by decide +kernel
theorem dX9_tagAt_16 : decode cX9_tagAt 16 = .ok (.ireturn, 1) := by decide +kernel
theorem dX9_distance_0 : decode cX9_distance 0 = .ok (.iconst 0, 1) := by decide +kernel
theorem dX9_distance_1 : decode cX9_distance 1 = .ok (.istore_n 3, 1) := by decide +kernel
theorem dX9_distance_2 : decode cX9_distance 2 = .ok (.iconst 0, 1) := by decide +kernel
theorem dX9_distance_3 : decode cX9_distance 3 = .ok (.istore 4, 2) := by decide +kernel
theorem dX9_distance_5 : decode cX9_distance 5 = .ok (.iload 4, 2) := by decide +kernel
theorem dX9_distance_7 : decode cX9_distance 7 = .ok (.aload_n 0, 1) := by decide +kernel
theorem dX9_distance_8 : decode cX9_distance 8 = .ok (.getfield 146, 3) := by decide +kernel
theorem dX9_distance_11 : decode cX9_distance 11 = .ok (.if_icmp .ge 34, 3) := by decide +kernel
theorem dX9_distance_14 : decode cX9_distance 14 = .ok (.iload_n 3, 1) := by decide +kernel
theorem dX9_distance_15 : decode cX9_distance 15 = .ok (.aload_n 0, 1) := by decide +kernel
theorem dX9_distance_16 : decode cX9_distance 16 = .ok (.iload_n 1, 1) := by decide +kernel
theorem dX9_distance_17 : decode cX9_distance 17 = .ok (.iload 4, 2) := by decide +kernel
theorem dX9_distance_19 : decode cX9_distance 19 = .ok (.invokevirtual 149, 3) := by decide +kernel
theorem dX9_distance_22 : decode cX9_distance 22 = .ok (.aload_n 0, 1) := by decide +kernel
theorem dX9_distance_23 : decode cX9_distance 23 = .ok (.iload_n 2, 1) := by decide +kernel
theorem dX9_distance_24 : decode cX9_distance 24 = .ok (.iload 4, 2) := by decide +kernel
theorem dX9_distance_26 : decode cX9_distance 26 = .ok (.invokevirtual 149, 3) := by decide +kernel
theorem dX9_distance_29 : decode cX9_distance 29 = .ok (.if_icmp .eq 7, 3) := by decide +kernel
theorem dX9_distance_32 : decode cX9_distance 32 = .ok (.iconst 1, 1) := by decide +kernel
theorem dX9_distance_33 : decode cX9_distance 33 = .ok (.goto 4, 3) := by decide +kernel
theorem dX9_distance_36 : decode cX9_distance 36 = .ok (.iconst 0, 1) := by decide +kernel
theorem dX9_distance_37 : decode cX9_distance 37 = .ok (.iadd, 1) := by decide +kernel
theorem dX9_distance_38 : decode cX9_distance 38 = .ok (.istore_n 3, 1) := by decide +kernel
theorem dX9_distance_39 : decode cX9_distance 39 = .ok (.iinc 4 1, 3) := by decide +kernel
theorem dX9_distance_42 : decode cX9_distance 42 = .ok (.goto (-37), 3) := by decide +kernel
theorem dX9_distance_45 : decode cX9_distance 45 = .ok (.iload_n 3, 1) := by decide +kernel
theorem dX9_distance_46 : decode cX9_distance 46 = .ok (.ireturn, 1) := by decide +kernel
theorem dX9_counts_0 : decode cX9_counts 0 = .ok (.aload_n 0, 1) := by decide +kernel
theorem dX9_counts_1 : decode cX9_counts 1 = .ok (.getfield 41, 3) := by decide +kernel
theorem dX9_counts_4 : decode cX9_counts 4 = .ok (.iload_n 1, 1) := by decide +kernel
theorem dX9_counts_5 : decode cX9_counts 5 = .ok (.iaload, 1) := by decide +kernel
theorem dX9_counts_6 : decode cX9_counts 6 = .ok (.iload_n 2, 1) := by decide +kernel
theorem dX9_counts_7 : decode cX9_counts 7 = .ok (.if_icmp .ne 16, 3) := by decide +kernel
theorem dX9_counts_10 : decode cX9_counts 10 = .ok (.aload_n 0, 1) := by decide +kernel
theorem dX9_counts_11 : decode cX9_counts 11 = .ok (.getfield 50, 3) := by decide +kernel
theorem dX9_counts_14 : decode cX9_counts 14 = .ok (.iload_n 1, 1) := by decide +kernel
theorem dX9_counts_15 : decode cX9_counts 15 = .ok (.baload, 1) := by decide +kernel
theorem dX9_counts_16 : decode cX9_counts 16 = .ok (.ifCond .ne 7, 3) := by decide +kernel
theorem dX9_counts_19 : decode cX9_counts 19 = .ok (.iconst 1, 1) := by decide +kernel
theorem dX9_counts_20 : decode cX9_counts 20 = .ok (.goto 4, 3) := by decide +kernel
theorem dX9_counts_23 : decode cX9_counts 23 = .ok (.iconst 0, 1) := by decide +kernel
theorem dX9_counts_24 : decode cX9_counts 24 = .ok (.ireturn, 1) := by decide +kernel
theorem dX9_countOf_0 : decode cX9_countOf 0 = .ok (.iconst 0, 1) := by decide +kernel
theorem dX9_countOf_1 : decode cX9_countOf 1 = .ok (.istore_n 2, 1) := by decide +kernel
theorem dX9_countOf_2 : decode cX9_countOf 2 = .ok (.iconst 0, 1) := by decide +kernel
theorem dX9_countOf_3 : decode cX9_countOf 3 = .ok (.istore_n 3, 1) := by decide +kernel
theorem dX9_countOf_4 : decode cX9_countOf 4 = .ok (.iload_n 3, 1) := by decide +kernel
theorem dX9_countOf_5 : decode cX9_countOf 5 = .ok (.aload_n 0, 1) := by decide +kernel
theorem dX9_countOf_6 : decode cX9_countOf 6 = .ok (.getfield 63, 3) := by decide +kernel
theorem dX9_countOf_9 : decode cX9_countOf 9 = .ok (.if_icmp .ge 40, 3) := by decide +kernel
theorem dX9_countOf_12 : decode cX9_countOf 12 = .ok (.iload_n 2, 1) := by decide +kernel
theorem dX9_countOf_13 : decode cX9_countOf 13 = .ok (.aload_n 0, 1) := by decide +kernel
theorem dX9_countOf_14 : decode cX9_countOf 14 = .ok (.iload_n 3, 1) := by decide +kernel
theorem dX9_countOf_15 : decode cX9_countOf 15 = .ok (.aload_n 0, 1) := by decide +kernel
theorem dX9_countOf_16 : decode cX9_countOf 16 = .ok (.getfield 41, 3) := by decide +kernel
theorem dX9_countOf_19 : decode cX9_countOf 19 = .ok (.iload_n 1, 1) := by decide +kernel
theorem dX9_countOf_20 : decode cX9_countOf 20 = .ok (.iaload, 1) := by decide +kernel
theorem dX9_countOf_21 : decode cX9_countOf 21 = .ok (.invokevirtual 153, 3) := by decide +kernel
theorem dX9_countOf_24 : decode cX9_countOf 24 = .ok (.ifCond .eq 16, 3) := by decide +kernel
theorem dX9_countOf_27 : decode cX9_countOf 27 = .ok (.aload_n 0, 1) := by decide +kernel
theorem dX9_countOf_28 : decode cX9_countOf 28 = .ok (.iload_n 1, 1) := by decide +kernel
theorem dX9_countOf_29 : decode cX9_countOf 29 = .ok (.iload_n 3, 1) := by decide +kernel
theorem dX9_countOf_30 : decode cX9_countOf 30 = .ok (.invokevirtual 156, 3) := by decide +kernel
theorem dX9_countOf_33 : decode cX9_countOf 33 = .ok (.ifCond .ne 7, 3) := by decide +kernel
theorem dX9_countOf_36 : decode cX9_countOf 36 = .ok (.iconst 1, 1) := by decide +kernel
theorem dX9_countOf_37 : decode cX9_countOf 37 = .ok (.goto 4, 3) := by decide +kernel
theorem dX9_countOf_40 : decode cX9_countOf 40 = .ok (.iconst 0, 1) := by decide +kernel
theorem dX9_countOf_41 : decode cX9_countOf 41 = .ok (.iadd, 1) := by decide +kernel
theorem dX9_countOf_42 : decode cX9_countOf 42 = .ok (.istore_n 2, 1) := by decide +kernel
theorem dX9_countOf_43 : decode cX9_countOf 43 = .ok (.iinc 3 1, 3) := by decide +kernel
theorem dX9_countOf_46 : decode cX9_countOf 46 = .ok (.goto (-42), 3) := by decide +kernel
theorem dX9_countOf_49 : decode cX9_countOf 49 = .ok (.iload_n 2, 1) := by decide +kernel
theorem dX9_countOf_50 : decode cX9_countOf 50 = .ok (.ireturn, 1) := by decide +kernel
theorem dX9_spreadGroup_0 : decode cX9_spreadGroup 0 = .ok (.iconst 1, 1) := by decide +kernel
theorem dX9_spreadGroup_1 : decode cX9_spreadGroup 1 = .ok (.istore 4, 2) := by decide +kernel
theorem dX9_spreadGroup_3 : decode cX9_spreadGroup 3 = .ok (.iload 4, 2) := by decide +kernel
theorem dX9_spreadGroup_5 : decode cX9_spreadGroup 5 = .ok (.ifCond .eq 155, 3) := by decide +kernel
theorem dX9_spreadGroup_8 : decode cX9_spreadGroup 8 = .ok (.iconst 0, 1) := by decide +kernel
theorem dX9_spreadGroup_9 : decode cX9_spreadGroup 9 = .ok (.istore 4, 2) := by decide +kernel
theorem dX9_spreadGroup_11 : decode cX9_spreadGroup 11 = .ok (.iconst 0, 1) := by decide +kernel
theorem dX9_spreadGroup_12 : decode cX9_spreadGroup 12 = .ok (.istore 5, 2) := by decide +kernel
theorem dX9_spreadGroup_14 : decode cX9_spreadGroup 14 = .ok (.iload 5, 2) := by decide +kernel
theorem dX9_spreadGroup_16 : decode cX9_spreadGroup 16 = .ok (.aload_n 0, 1) := by decide +kernel
theorem dX9_spreadGroup_17 : decode cX9_spreadGroup 17 = .ok (.getfield 63, 3) := by decide +kernel
theorem dX9_spreadGroup_20 : decode cX9_spreadGroup 20 = .ok (.if_icmp .ge 137, 3) := by decide +kernel
theorem dX9_spreadGroup_23 : decode cX9_spreadGroup 23 = .ok (.iconst 0, 1) := by decide +kernel
theorem dX9_spreadGroup_24 : decode cX9_spreadGroup 24 = .ok (.istore 6, 2) := by decide +kernel
theorem dX9_spreadGroup_26 : decode cX9_spreadGroup 26 = .ok (.iload 6, 2) := by decide +kernel
theorem dX9_spreadGroup_28 : decode cX9_spreadGroup 28 = .ok (.aload_n 0, 1) := by decide +kernel
theorem dX9_spreadGroup_29 : decode cX9_spreadGroup 29 = .ok (.getfield 63, 3) := by decide +kernel
theorem dX9_spreadGroup_32 : decode cX9_spreadGroup 32 = .ok (.if_icmp .ge 119, 3) := by decide +kernel
theorem dX9_spreadGroup_35 : decode cX9_spreadGroup 35 = .ok (.aload_n 0, 1) := by decide +kernel
theorem dX9_spreadGroup_36 : decode cX9_spreadGroup 36 = .ok (.iload 5, 2) := by decide +kernel
theorem dX9_spreadGroup_38 : decode cX9_spreadGroup 38 = .ok (.iload_n 1, 1) := by decide +kernel
theorem dX9_spreadGroup_39 : decode cX9_spreadGroup 39 = .ok (.invokevirtual 153, 3) := by decide +kernel
theorem dX9_spreadGroup_42 : decode cX9_spreadGroup 42 = .ok (.ifCond .eq 109, 3) := by decide +kernel
theorem dX9_spreadGroup_45 : decode cX9_spreadGroup 45 = .ok (.aload_n 0, 1) := by decide +kernel
theorem dX9_spreadGroup_46 : decode cX9_spreadGroup 46 = .ok (.getfield 54, 3) := by decide +kernel
theorem dX9_spreadGroup_49 : decode cX9_spreadGroup 49 = .ok (.iload 5, 2) := by decide +kernel
theorem dX9_spreadGroup_51 : decode cX9_spreadGroup 51 = .ok (.iaload, 1) := by decide +kernel
theorem dX9_spreadGroup_52 : decode cX9_spreadGroup 52 = .ok (.iload_n 2, 1) := by decide +kernel
theorem dX9_spreadGroup_53 : decode cX9_spreadGroup 53 = .ok (.if_icmp .ne 98, 3) := by decide +kernel
theorem dX9_spreadGroup_56 : decode cX9_spreadGroup 56 = .ok (.aload_n 0, 1) := by decide +kernel
theorem dX9_spreadGroup_57 : decode cX9_spreadGroup 57 = .ok (.iload 6, 2) := by decide +kernel
theorem dX9_spreadGroup_59 : decode cX9_spreadGroup 59 = .ok (.iload_n 1, 1) := by decide +kernel
theorem dX9_spreadGroup_60 : decode cX9_spreadGroup 60 = .ok (.invokevirtual 153, 3) := by decide +kernel
theorem dX9_spreadGroup_63 : decode cX9_spreadGroup 63 = .ok (.ifCond .eq 29, 3) := by decide +kernel
theorem dX9_spreadGroup_66 : decode cX9_spreadGroup 66 = .ok (.aload_n 0, 1) := by decide +kernel
theorem dX9_spreadGroup_67 : decode cX9_spreadGroup 67 = .ok (.getfield 54, 3) := by decide +kernel
theorem dX9_spreadGroup_70 : decode cX9_spreadGroup 70 = .ok (.iload 6, 2) := by decide +kernel
theorem dX9_spreadGroup_72 : decode cX9_spreadGroup 72 = .ok (.iaload, 1) := by decide +kernel
theorem dX9_spreadGroup_73 : decode cX9_spreadGroup 73 = .ok (.ifCond .ge 19, 3) := by decide +kernel
theorem dX9_spreadGroup_76 : decode cX9_spreadGroup 76 = .ok (.aload_n 0, 1) := by decide +kernel
theorem dX9_spreadGroup_77 : decode cX9_spreadGroup 77 = .ok (.iload 5, 2) := by decide +kernel
theorem dX9_spreadGroup_79 : decode cX9_spreadGroup 79 = .ok (.iload 6, 2) := by decide +kernel
theorem dX9_spreadGroup_81 : decode cX9_spreadGroup 81 = .ok (.invokevirtual 156, 3) := by decide +kernel
theorem dX9_spreadGroup_84 : decode cX9_spreadGroup 84 = .ok (.iconst 1, 1) := by decide +kernel
theorem dX9_spreadGroup_85 : decode cX9_spreadGroup 85 = .ok (.if_icmp .gt 7, 3) := by decide +kernel
theorem dX9_spreadGroup_88 : decode cX9_spreadGroup 88 = .ok (.iconst 1, 1) := by decide +kernel
theorem dX9_spreadGroup_89 : decode cX9_spreadGroup 89 = .ok (.goto 4, 3) := by decide +kernel
theorem dX9_spreadGroup_92 : decode cX9_spreadGroup 92 = .ok (.iconst 0, 1) := by decide +kernel
theorem dX9_spreadGroup_93 : decode cX9_spreadGroup 93 = .ok (.istore 7, 2) := by decide +kernel
theorem dX9_spreadGroup_95 : decode cX9_spreadGroup 95 = .ok (.iload 7, 2) := by decide +kernel
theorem dX9_spreadGroup_97 : decode cX9_spreadGroup 97 = .ok (.ifCond .eq 48, 3) := by decide +kernel
theorem dX9_spreadGroup_100 : decode cX9_spreadGroup 100 = .ok (.iload_n 3, 1) := by decide +kernel
theorem dX9_spreadGroup_101 : decode cX9_spreadGroup 101 = .ok (.ifCond .eq 33, 3) := by decide +kernel
theorem dX9_spreadGroup_104 : decode cX9_spreadGroup 104 = .ok (.aload_n 0, 1) := by decide +kernel
theorem dX9_spreadGroup_105 : decode cX9_spreadGroup 105 = .ok (.iload 5, 2) := by decide +kernel
theorem dX9_spreadGroup_107 : decode cX9_spreadGroup 107 = .ok (.iload 6, 2) := by decide +kernel
theorem dX9_spreadGroup_109 : decode cX9_spreadGroup 109 = .ok (.invokevirtual 156, 3) := by decide +kernel
theorem dX9_spreadGroup_112 : decode cX9_spreadGroup 112 = .ok (.ifCond .eq 22, 3) := by decide +kernel
theorem dX9_spreadGroup_115 : decode cX9_spreadGroup 115 = .ok (.iconst 2, 1) := by decide +kernel
theorem dX9_spreadGroup_116 : decode cX9_spreadGroup 116 = .ok (.aload_n 0, 1) := by decide +kernel
theorem dX9_spreadGroup_117 : decode cX9_spreadGroup 117 = .ok (.iload 6, 2) := by decide +kernel
theorem dX9_spreadGroup_119 : decode cX9_spreadGroup 119 = .ok (.invokevirtual 159, 3) := by decide +kernel
theorem dX9_spreadGroup_122 : decode cX9_spreadGroup 122 = .ok (.imul, 1) := by decide +kernel
theorem dX9_spreadGroup_123 : decode cX9_spreadGroup 123 = .ok (.iconst 1, 1) := by decide +kernel
theorem dX9_spreadGroup_124 : decode cX9_spreadGroup 124 = .ok (.isub, 1) := by decide +kernel
theorem dX9_spreadGroup_125 : decode cX9_spreadGroup 125 = .ok (.aload_n 0, 1) := by decide +kernel
theorem dX9_spreadGroup_126 : decode cX9_spreadGroup 126 = .ok (.iload 5, 2) := by decide +kernel
theorem dX9_spreadGroup_128 : decode cX9_spreadGroup 128 = .ok (.invokevirtual 159, 3) := by decide +kernel
theorem dX9_spreadGroup_131 : decode cX9_spreadGroup 131 = .ok (.if_icmp .gt 14, 3) := by decide +kernel
theorem dX9_spreadGroup_134 : decode cX9_spreadGroup 134 = .ok (.aload_n 0, 1) := by decide +kernel
theorem dX9_spreadGroup_135 : decode cX9_spreadGroup 135 = .ok (.getfield 54, 3) := by decide +kernel
theorem dX9_spreadGroup_138 : decode cX9_spreadGroup 138 = .ok (.iload 6, 2) := by decide +kernel
theorem dX9_spreadGroup_140 : decode cX9_spreadGroup 140 = .ok (.iload_n 2, 1) := by decide +kernel
theorem dX9_spreadGroup_141 : decode cX9_spreadGroup 141 = .ok (.iastore, 1) := by decide +kernel
theorem dX9_spreadGroup_142 : decode cX9_spreadGroup 142 = .ok (.iconst 1, 1) := by decide +kernel
theorem dX9_spreadGroup_143 : decode cX9_spreadGroup 143 = .ok (.istore 4, 2) := by decide +kernel
theorem dX9_spreadGroup_145 : decode cX9_spreadGroup 145 = .ok (.iinc 6 1, 3) := by decide +kernel
theorem dX9_spreadGroup_148 : decode cX9_spreadGroup 148 = .ok (.goto (-122), 3) := by decide +kernel
theorem dX9_spreadGroup_151 : decode cX9_spreadGroup 151 = .ok (.iinc 5 1, 3) := by decide +kernel
theorem dX9_spreadGroup_154 : decode cX9_spreadGroup 154 = .ok (.goto (-140), 3) := by decide +kernel
theorem dX9_spreadGroup_157 : decode cX9_spreadGroup 157 = .ok (.goto (-154), 3) := by decide +kernel
theorem dX9_spreadGroup_160 : decode cX9_spreadGroup 160 = .ok (.return_, 1) := by decide +kernel
theorem dX9_isBefore_0 : decode cX9_isBefore 0 = .ok (.aload_n 0, 1) := by decide +kernel
theorem dX9_isBefore_1 : decode cX9_isBefore 1 = .ok (.iload_n 1, 1) := by decide +kernel
theorem dX9_isBefore_2 : decode cX9_isBefore 2 = .ok (.invokevirtual 159, 3) := by decide +kernel
theorem dX9_isBefore_5 : decode cX9_isBefore 5 = .ok (.istore_n 3, 1) := by decide +kernel
theorem dX9_isBefore_6 : decode cX9_isBefore 6 = .ok (.aload_n 0, 1) := by decide +kernel
theorem dX9_isBefore_7 : decode cX9_isBefore 7 = .ok (.iload_n 2, 1) := by decide +kernel
theorem dX9_isBefore_8 : decode cX9_isBefore 8 = .ok (.invokevirtual 159, 3) := by decide +kernel
theorem dX9_isBefore_11 : decode cX9_isBefore 11 = .ok (.istore 4, 2) := by decide +kernel
theorem dX9_isBefore_13 : decode cX9_isBefore 13 = .ok (.iload_n 3, 1) := by decide +kernel
theorem dX9_isBefore_14 : decode cX9_isBefore 14 = .ok (.iload 4, 2) := by decide +kernel
theorem dX9_isBefore_16 : decode cX9_isBefore 16 = .ok (.if_icmp .eq 15, 3) := by decide +kernel
theorem dX9_isBefore_19 : decode cX9_isBefore 19 = .ok (.iload_n 3, 1) := by decide +kernel
theorem dX9_isBefore_20 : decode cX9_isBefore 20 = .ok (.iload 4, 2) := by decide +kernel
theorem dX9_isBefore_22 : decode cX9_isBefore 22 = .ok (.if_icmp .le 7, 3) := by decide +kernel
theorem dX9_isBefore_25 : decode cX9_isBefore 25 = .ok (.iconst 1, 1) := by decide +kernel
theorem dX9_isBefore_26 : decode cX9_isBefore 26 = .ok (.goto 4, 3) := by decide +kernel
theorem dX9_isBefore_29 : decode cX9_isBefore 29 = .ok (.iconst 0, 1) := by decide +kernel
theorem dX9_isBefore_30 : decode cX9_isBefore 30 = .ok (.ireturn, 1) := by decide +kernel
theorem dX9_isBefore_31 : decode cX9_isBefore 31 = .ok (.iconst 0, 1) := by decide +kernel
theorem dX9_isBefore_32 : decode cX9_isBefore 32 = .ok (.istore 5, 2) := by decide +kernel
theorem dX9_isBefore_34 : decode cX9_isBefore 34 = .ok (.iload 5, 2) := by decide +kernel
theorem dX9_isBefore_36 : decode cX9_isBefore 36 = .ok (.aload_n 0, 1) := by decide +kernel
theorem dX9_isBefore_37 : decode cX9_isBefore 37 = .ok (.getfield 146, 3) := by decide +kernel
theorem dX9_isBefore_40 : decode cX9_isBefore 40 = .ok (.if_icmp .ge 49, 3) := by decide +kernel
theorem dX9_isBefore_43 : decode cX9_isBefore 43 = .ok (.aload_n 0, 1) := by decide +kernel
theorem dX9_isBefore_44 : decode cX9_isBefore 44 = .ok (.iload_n 1, 1) := by decide +kernel
theorem dX9_isBefore_45 : decode cX9_isBefore 45 = .ok (.iload 5, 2) := by decide +kernel
theorem dX9_isBefore_47 : decode cX9_isBefore 47 = .ok (.invokevirtual 149, 3) := by decide +kernel
theorem dX9_isBefore_50 : decode cX9_isBefore 50 = .ok (.aload_n 0, 1) := by decide +kernel
theorem dX9_isBefore_51 : decode cX9_isBefore 51 = .ok (.iload_n 2, 1) := by decide +kernel
theorem dX9_isBefore_52 : decode cX9_isBefore 52 = .ok (.iload 5, 2) := by decide +kernel
theorem dX9_isBefore_54 : decode cX9_isBefore 54 = .ok (.invokevirtual 149, 3) := by decide +kernel
theorem dX9_isBefore_57 : decode cX9_isBefore 57 = .ok (.if_icmp .eq 26, 3) := by decide +kernel
theorem dX9_isBefore_60 : decode cX9_isBefore 60 = .ok (.aload_n 0, 1) := by decide +kernel
theorem dX9_isBefore_61 : decode cX9_isBefore 61 = .ok (.iload_n 1, 1) := by decide +kernel
theorem dX9_isBefore_62 : decode cX9_isBefore 62 = .ok (.iload 5, 2) := by decide +kernel
theorem dX9_isBefore_64 : decode cX9_isBefore 64 = .ok (.invokevirtual 149, 3) := by decide +kernel
theorem dX9_isBefore_67 : decode cX9_isBefore 67 = .ok (.aload_n 0, 1) := by decide +kernel
theorem dX9_isBefore_68 : decode cX9_isBefore 68 = .ok (.iload_n 2, 1) := by decide +kernel
theorem dX9_isBefore_69 : decode cX9_isBefore 69 = .ok (.iload 5, 2) := by decide +kernel
theorem dX9_isBefore_71 : decode cX9_isBefore 71 = .ok (.invokevirtual 149, 3) := by decide +kernel
theorem dX9_isBefore_74 : decode cX9_isBefore 74 = .ok (.if_icmp .ge 7, 3) := by decide +kernel
theorem dX9_isBefore_77 : decode cX9_isBefore 77 = .ok (.iconst 1, 1) := by decide +kernel
theorem dX9_isBefore_78 : decode cX9_isBefore 78 = .ok (.goto 4, 3) := by decide +kernel
theorem dX9_isBefore_81 : decode cX9_isBefore 81 = .ok (.iconst 0, 1) := by decide +kernel
theorem dX9_isBefore_82 : decode cX9_isBefore 82 = .ok (.ireturn, 1) := by decide +kernel
theorem dX9_isBefore_83 : decode cX9_isBefore 83 = .ok (.iinc 5 1, 3) := by decide +kernel
theorem dX9_isBefore_86 : decode cX9_isBefore 86 = .ok (.goto (-52), 3) := by decide +kernel
theorem dX9_isBefore_89 : decode cX9_isBefore 89 = .ok (.iconst 0, 1) := by decide +kernel
theorem dX9_isBefore_90 : decode cX9_isBefore 90 = .ok (.ireturn, 1) := by decide +kernel
theorem dX9_groupAll_0 : decode cX9_groupAll 0 = .ok (.iconst 0, 1) := by decide +kernel
theorem dX9_groupAll_1 : decode cX9_groupAll 1 = .ok (.istore_n 3, 1) := by decide +kernel
theorem dX9_groupAll_2 : decode cX9_groupAll 2 = .ok (.iconst 0, 1) := by decide +kernel
theorem dX9_groupAll_3 : decode cX9_groupAll 3 = .ok (.istore 4, 2) := by decide +kernel
theorem dX9_groupAll_5 : decode cX9_groupAll 5 = .ok (.iload 4, 2) := by decide +kernel
theorem dX9_groupAll_7 : decode cX9_groupAll 7 = .ok (.ifCond .lt 95, 3) := by decide +kernel
theorem dX9_groupAll_10 : decode cX9_groupAll 10 = .ok (.iconst (-1), 1) := by decide +kernel
theorem dX9_groupAll_11 : decode cX9_groupAll 11 = .ok (.istore 4, 2) := by decide +kernel
theorem dX9_groupAll_13 : decode cX9_groupAll 13 = .ok (.iconst 0, 1) := by decide +kernel
theorem dX9_groupAll_14 : decode cX9_groupAll 14 = .ok (.istore 5, 2) := by decide +kernel
theorem dX9_groupAll_16 : decode cX9_groupAll 16 = .ok (.iload 5, 2) := by decide +kernel
theorem dX9_groupAll_18 : decode cX9_groupAll 18 = .ok (.aload_n 0, 1) := by decide +kernel
theorem dX9_groupAll_19 : decode cX9_groupAll 19 = .ok (.getfield 63, 3) := by decide +kernel
theorem dX9_groupAll_22 : decode cX9_groupAll 22 = .ok (.if_icmp .ge 54, 3) := by decide +kernel
theorem dX9_groupAll_25 : decode cX9_groupAll 25 = .ok (.aload_n 0, 1) := by decide +kernel
theorem dX9_groupAll_26 : decode cX9_groupAll 26 = .ok (.iload 5, 2) := by decide +kernel
theorem dX9_groupAll_28 : decode cX9_groupAll 28 = .ok (.iload_n 1, 1) := by decide +kernel
theorem dX9_groupAll_29 : decode cX9_groupAll 29 = .ok (.invokevirtual 153, 3) := by decide +kernel
theorem dX9_groupAll_32 : decode cX9_groupAll 32 = .ok (.ifCond .eq 38, 3) := by decide +kernel
theorem dX9_groupAll_35 : decode cX9_groupAll 35 = .ok (.aload_n 0, 1) := by decide +kernel
theorem dX9_groupAll_36 : decode cX9_groupAll 36 = .ok (.getfield 54, 3) := by decide +kernel
theorem dX9_groupAll_39 : decode cX9_groupAll 39 = .ok (.iload 5, 2) := by decide +kernel
theorem dX9_groupAll_41 : decode cX9_groupAll 41 = .ok (.iaload, 1) := by decide +kernel
theorem dX9_groupAll_42 : decode cX9_groupAll 42 = .ok (.ifCond .ge 28, 3) := by decide +kernel
theorem dX9_groupAll_45 : decode cX9_groupAll 45 = .ok (.iload 4, 2) := by decide +kernel
theorem dX9_groupAll_47 : decode cX9_groupAll 47 = .ok (.ifCond .lt 19, 3) := by decide +kernel
theorem dX9_groupAll_50 : decode cX9_groupAll 50 = .ok (.iload_n 2, 1) := by decide +kernel
theorem dX9_groupAll_51 : decode cX9_groupAll 51 = .ok (.iconst 1, 1) := by decide +kernel
theorem dX9_groupAll_52 : decode cX9_groupAll 52 = .ok (.if_icmp .ne 18, 3) := by decide +kernel
theorem dX9_groupAll_55 : decode cX9_groupAll 55 = .ok (.aload_n 0, 1) := by decide +kernel
theorem dX9_groupAll_56 : decode cX9_groupAll 56 = .ok (.iload 5, 2) := by decide +kernel
theorem dX9_groupAll_58 : decode cX9_groupAll 58 = .ok (.iload 4, 2) := by decide +kernel
theorem dX9_groupAll_60 : decode cX9_groupAll 60 = .ok (.invokevirtual 162, 3) := by decide +kernel
theorem dX9_groupAll_63 : decode cX9_groupAll 63 = .ok (.ifCond .eq 7, 3) := by decide +kernel
theorem dX9_groupAll_66 : decode cX9_groupAll 66 = .ok (.iload 5, 2) := by decide +kernel
theorem dX9_groupAll_68 : decode cX9_groupAll 68 = .ok (.istore 4, 2) := by decide +kernel
end
section
theorem dX9_groupAll_70 : decode cX9_groupAll 70 = .ok (.iinc 5 1, 3) := by decide +kernel
theorem dX9_groupAll_73 : decode cX9_groupAll 73 = .ok (.goto (-57), 3) := by decide +kernel
theorem dX9_groupAll_76 : decode cX9_groupAll 76 = .ok (.iload 4, 2) := by decide +kernel
theorem dX9_groupAll_78 : decode cX9_groupAll 78 = .ok (.ifCond .lt (-73), 3) := by decide +kernel
theorem dX9_groupAll_81 : decode cX9_groupAll 81 = .ok (.aload_n 0, 1) := by decide +kernel
theorem dX9_groupAll_82 : decode cX9_groupAll 82 = .ok (.getfield 54, 3) := by decide +kernel
theorem dX9_groupAll_85 : decode cX9_groupAll 85 = .ok (.iload 4, 2) := by decide +kernel
theorem dX9_groupAll_87 : decode cX9_groupAll 87 = .ok (.iload_n 3, 1) := by decide +kernel
theorem dX9_groupAll_88 : decode cX9_groupAll 88 = .ok (.iastore, 1) := by decide +kernel
theorem dX9_groupAll_89 : decode cX9_groupAll 89 = .ok (.aload_n 0, 1) := by decide +kernel
theorem dX9_groupAll_90 : decode cX9_groupAll 90 = .ok (.iload_n 1, 1) := by decide +kernel
theorem dX9_groupAll_91 : decode cX9_groupAll 91 = .ok (.iload_n 3, 1) := by decide +kernel
theorem dX9_groupAll_92 : decode cX9_groupAll 92 = .ok (.iload_n 2, 1) := by decide +kernel
theorem dX9_groupAll_93 : decode cX9_groupAll 93 = .ok (.invokevirtual 165, 3) := by decide +kernel
theorem dX9_groupAll_96 : decode cX9_groupAll 96 = .ok (.iinc 3 1, 3) := by decide +kernel
theorem dX9_groupAll_99 : decode cX9_groupAll 99 = .ok (.goto (-94), 3) := by decide +kernel
theorem dX9_groupAll_102 : decode cX9_groupAll 102 = .ok (.return_, 1) := by decide +kernel
theorem dX9_sort_0 : decode cX9_sort 0 = .ok (.aload_n 0, 1) := by decide +kernel
theorem dX9_sort_1 : decode cX9_sort 1 = .ok (.iload_n 1, 1) := by decide +kernel
theorem dX9_sort_2 : decode cX9_sort 2 = .ok (.ifCond .lt 18, 3) := by decide +kernel
theorem dX9_sort_5 : decode cX9_sort 5 = .ok (.iload_n 1, 1) := by decide +kernel
theorem dX9_sort_6 : decode cX9_sort 6 = .ok (.bipush 12, 2) := by decide +kernel
theorem dX9_sort_8 : decode cX9_sort 8 = .ok (.if_icmp .gt 12, 3) := by decide +kernel
theorem dX9_sort_11 : decode cX9_sort 11 = .ok (.iload_n 2, 1) := by decide +kernel
theorem dX9_sort_12 : decode cX9_sort 12 = .ok (.ifCond .lt 8, 3) := by decide +kernel
theorem dX9_sort_15 : decode cX9_sort 15 = .ok (.iload_n 2, 1) := by decide +kernel
theorem dX9_sort_16 : decode cX9_sort 16 = .ok (.iconst 1, 1) := by decide +kernel
theorem dX9_sort_17 : decode cX9_sort 17 = .ok (.if_icmp .le 7, 3) := by decide +kernel
theorem dX9_sort_20 : decode cX9_sort 20 = .ok (.iconst 1, 1) := by decide +kernel
theorem dX9_sort_21 : decode cX9_sort 21 = .ok (.goto 4, 3) := by decide +kernel
theorem dX9_sort_24 : decode cX9_sort 24 = .ok (.iconst 0, 1) := by decide +kernel
theorem dX9_sort_25 : decode cX9_sort 25 = .ok (.putfield 66, 3) := by decide +kernel
theorem dX9_sort_28 : decode cX9_sort 28 = .ok (.aload_n 0, 1) := by decide +kernel
theorem dX9_sort_29 : decode cX9_sort 29 = .ok (.getfield 66, 3) := by decide +kernel
theorem dX9_sort_32 : decode cX9_sort 32 = .ok (.ifCond .le 5, 3) := by decide +kernel
theorem dX9_sort_35 : decode cX9_sort 35 = .ok (.iconst 0, 1) := by decide +kernel
theorem dX9_sort_36 : decode cX9_sort 36 = .ok (.ireturn, 1) := by decide +kernel
theorem dX9_sort_37 : decode cX9_sort 37 = .ok (.aload_n 0, 1) := by decide +kernel
theorem dX9_sort_38 : decode cX9_sort 38 = .ok (.iconst 1, 1) := by decide +kernel
theorem dX9_sort_39 : decode cX9_sort 39 = .ok (.putfield 114, 3) := by decide +kernel
theorem dX9_sort_42 : decode cX9_sort 42 = .ok (.aload_n 0, 1) := by decide +kernel
theorem dX9_sort_43 : decode cX9_sort 43 = .ok (.aload_n 0, 1) := by decide +kernel
theorem dX9_sort_44 : decode cX9_sort 44 = .ok (.getfield 118, 3) := by decide +kernel
theorem dX9_sort_47 : decode cX9_sort 47 = .ok (.putfield 169, 3) := by decide +kernel
theorem dX9_sort_50 : decode cX9_sort 50 = .ok (.aload_n 0, 1) := by decide +kernel
theorem dX9_sort_51 : decode cX9_sort 51 = .ok (.iload_n 1, 1) := by decide +kernel
theorem dX9_sort_52 : decode cX9_sort 52 = .ok (.putfield 146, 3) := by decide +kernel
theorem dX9_sort_55 : decode cX9_sort 55 = .ok (.aload_n 0, 1) := by decide +kernel
theorem dX9_sort_56 : decode cX9_sort 56 = .ok (.aload_n 0, 1) := by decide +kernel
theorem dX9_sort_57 : decode cX9_sort 57 = .ok (.getfield 121, 3) := by decide +kernel
theorem dX9_sort_60 : decode cX9_sort 60 = .ok (.putfield 143, 3) := by decide +kernel
theorem dX9_sort_63 : decode cX9_sort 63 = .ok (.aload_n 0, 1) := by decide +kernel
theorem dX9_sort_64 : decode cX9_sort 64 = .ok (.invokevirtual 140, 3) := by decide +kernel
theorem dX9_sort_67 : decode cX9_sort 67 = .ok (.iconst 1, 1) := by decide +kernel
theorem dX9_sort_68 : decode cX9_sort 68 = .ok (.isub, 1) := by decide +kernel
theorem dX9_sort_69 : decode cX9_sort 69 = .ok (.iconst 2, 1) := by decide +kernel
theorem dX9_sort_70 : decode cX9_sort 70 = .ok (.idiv, 1) := by decide +kernel
theorem dX9_sort_71 : decode cX9_sort 71 = .ok (.istore_n 3, 1) := by decide +kernel
theorem dX9_sort_72 : decode cX9_sort 72 = .ok (.iconst 0, 1) := by decide +kernel
theorem dX9_sort_73 : decode cX9_sort 73 = .ok (.istore 4, 2) := by decide +kernel
theorem dX9_sort_75 : decode cX9_sort 75 = .ok (.iconst 0, 1) := by decide +kernel
theorem dX9_sort_76 : decode cX9_sort 76 = .ok (.istore 5, 2) := by decide +kernel
theorem dX9_sort_78 : decode cX9_sort 78 = .ok (.iload 5, 2) := by decide +kernel
theorem dX9_sort_80 : decode cX9_sort 80 = .ok (.aload_n 0, 1) := by decide +kernel
theorem dX9_sort_81 : decode cX9_sort 81 = .ok (.getfield 63, 3) := by decide +kernel
theorem dX9_sort_84 : decode cX9_sort 84 = .ok (.if_icmp .ge 156, 3) := by decide +kernel
theorem dX9_sort_87 : decode cX9_sort 87 = .ok (.aload_n 0, 1) := by decide +kernel
theorem dX9_sort_88 : decode cX9_sort 88 = .ok (.getfield 41, 3) := by decide +kernel
theorem dX9_sort_91 : decode cX9_sort 91 = .ok (.iload 5, 2) := by decide +kernel
theorem dX9_sort_93 : decode cX9_sort 93 = .ok (.aload_n 0, 1) := by decide +kernel
theorem dX9_sort_94 : decode cX9_sort 94 = .ok (.getfield 118, 3) := by decide +kernel
theorem dX9_sort_97 : decode cX9_sort 97 = .ok (.ifCond .ne 7, 3) := by decide +kernel
theorem dX9_sort_100 : decode cX9_sort 100 = .ok (.iconst (-1), 1) := by decide +kernel
theorem dX9_sort_101 : decode cX9_sort 101 = .ok (.goto 11, 3) := by decide +kernel
theorem dX9_sort_104 : decode cX9_sort 104 = .ok (.aload_n 0, 1) := by decide +kernel
theorem dX9_sort_105 : decode cX9_sort 105 = .ok (.iload 5, 2) := by decide +kernel
theorem dX9_sort_107 : decode cX9_sort 107 = .ok (.iload_n 1, 1) := by decide +kernel
theorem dX9_sort_108 : decode cX9_sort 108 = .ok (.iload_n 3, 1) := by decide +kernel
theorem dX9_sort_109 : decode cX9_sort 109 = .ok (.invokevirtual 172, 3) := by decide +kernel
theorem dX9_sort_112 : decode cX9_sort 112 = .ok (.iastore, 1) := by decide +kernel
theorem dX9_sort_113 : decode cX9_sort 113 = .ok (.iload 4, 2) := by decide +kernel
theorem dX9_sort_115 : decode cX9_sort 115 = .ok (.aload_n 0, 1) := by decide +kernel
theorem dX9_sort_116 : decode cX9_sort 116 = .ok (.getfield 41, 3) := by decide +kernel
theorem dX9_sort_119 : decode cX9_sort 119 = .ok (.iload 5, 2) := by decide +kernel
theorem dX9_sort_121 : decode cX9_sort 121 = .ok (.iaload, 1) := by decide +kernel
theorem dX9_sort_122 : decode cX9_sort 122 = .ok (.ifCond .ge 7, 3) := by decide +kernel
theorem dX9_sort_125 : decode cX9_sort 125 = .ok (.iconst 1, 1) := by decide +kernel
theorem dX9_sort_126 : decode cX9_sort 126 = .ok (.goto 4, 3) := by decide +kernel
theorem dX9_sort_129 : decode cX9_sort 129 = .ok (.iconst 0, 1) := by decide +kernel
theorem dX9_sort_130 : decode cX9_sort 130 = .ok (.iadd, 1) := by decide +kernel
theorem dX9_sort_131 : decode cX9_sort 131 = .ok (.istore 4, 2) := by decide +kernel
theorem dX9_sort_133 : decode cX9_sort 133 = .ok (.aload_n 0, 1) := by decide +kernel
theorem dX9_sort_134 : decode cX9_sort 134 = .ok (.getfield 44, 3) := by decide +kernel
theorem dX9_sort_137 : decode cX9_sort 137 = .ok (.iload 5, 2) := by decide +kernel
theorem dX9_sort_139 : decode cX9_sort 139 = .ok (.aload_n 0, 1) := by decide +kernel
theorem dX9_sort_140 : decode cX9_sort 140 = .ok (.getfield 41, 3) := by decide +kernel
theorem dX9_sort_143 : decode cX9_sort 143 = .ok (.iload 5, 2) := by decide +kernel
theorem dX9_sort_145 : decode cX9_sort 145 = .ok (.iaload, 1) := by decide +kernel
theorem dX9_sort_146 : decode cX9_sort 146 = .ok (.ifCond .ge 7, 3) := by decide +kernel
theorem dX9_sort_149 : decode cX9_sort 149 = .ok (.iconst 0, 1) := by decide +kernel
theorem dX9_sort_150 : decode cX9_sort 150 = .ok (.goto 9, 3) := by decide +kernel
theorem dX9_sort_153 : decode cX9_sort 153 = .ok (.aload_n 0, 1) := by decide +kernel
theorem dX9_sort_154 : decode cX9_sort 154 = .ok (.getfield 121, 3) := by decide +kernel
theorem dX9_sort_157 : decode cX9_sort 157 = .ok (.iload_n 1, 1) := by decide +kernel
theorem dX9_sort_158 : decode cX9_sort 158 = .ok (.iadd, 1) := by decide +kernel
theorem dX9_sort_159 : decode cX9_sort 159 = .ok (.iastore, 1) := by decide +kernel
theorem dX9_sort_160 : decode cX9_sort 160 = .ok (.aload_n 0, 1) := by decide +kernel
theorem dX9_sort_161 : decode cX9_sort 161 = .ok (.getfield 47, 3) := by decide +kernel
theorem dX9_sort_164 : decode cX9_sort 164 = .ok (.iload 5, 2) := by decide +kernel
theorem dX9_sort_166 : decode cX9_sort 166 = .ok (.aload_n 0, 1) := by decide +kernel
theorem dX9_sort_167 : decode cX9_sort 167 = .ok (.getfield 23, 3) := by decide +kernel
theorem dX9_sort_170 : decode cX9_sort 170 = .ok (.iload 5, 2) := by decide +kernel
theorem dX9_sort_172 : decode cX9_sort 172 = .ok (.iaload, 1) := by decide +kernel
theorem dX9_sort_173 : decode cX9_sort 173 = .ok (.iastore, 1) := by decide +kernel
theorem dX9_sort_174 : decode cX9_sort 174 = .ok (.aload_n 0, 1) := by decide +kernel
theorem dX9_sort_175 : decode cX9_sort 175 = .ok (.iload 5, 2) := by decide +kernel
theorem dX9_sort_177 : decode cX9_sort 177 = .ok (.invokevirtual 176, 3) := by decide +kernel
theorem dX9_sort_180 : decode cX9_sort 180 = .ok (.aload_n 0, 1) := by decide +kernel
theorem dX9_sort_181 : decode cX9_sort 181 = .ok (.iload 5, 2) := by decide +kernel
theorem dX9_sort_183 : decode cX9_sort 183 = .ok (.invokevirtual 180, 3) := by decide +kernel
theorem dX9_sort_186 : decode cX9_sort 186 = .ok (.aload_n 0, 1) := by decide +kernel
theorem dX9_sort_187 : decode cX9_sort 187 = .ok (.iload 5, 2) := by decide +kernel
theorem dX9_sort_189 : decode cX9_sort 189 = .ok (.invokevirtual 183, 3) := by decide +kernel
theorem dX9_sort_192 : decode cX9_sort 192 = .ok (.aload_n 0, 1) := by decide +kernel
theorem dX9_sort_193 : decode cX9_sort 193 = .ok (.getfield 50, 3) := by decide +kernel
theorem dX9_sort_196 : decode cX9_sort 196 = .ok (.iload 5, 2) := by decide +kernel
theorem dX9_sort_198 : decode cX9_sort 198 = .ok (.aload_n 0, 1) := by decide +kernel
theorem dX9_sort_199 : decode cX9_sort 199 = .ok (.getfield 47, 3) := by decide +kernel
theorem dX9_sort_202 : decode cX9_sort 202 = .ok (.iload 5, 2) := by decide +kernel
theorem dX9_sort_204 : decode cX9_sort 204 = .ok (.iaload, 1) := by decide +kernel
theorem dX9_sort_205 : decode cX9_sort 205 = .ok (.aload_n 0, 1) := by decide +kernel
theorem dX9_sort_206 : decode cX9_sort 206 = .ok (.getfield 44, 3) := by decide +kernel
theorem dX9_sort_209 : decode cX9_sort 209 = .ok (.iload 5, 2) := by decide +kernel
theorem dX9_sort_211 : decode cX9_sort 211 = .ok (.iaload, 1) := by decide +kernel
theorem dX9_sort_212 : decode cX9_sort 212 = .ok (.isub, 1) := by decide +kernel
theorem dX9_sort_213 : decode cX9_sort 213 = .ok (.aload_n 0, 1) := by decide +kernel
theorem dX9_sort_214 : decode cX9_sort 214 = .ok (.getfield 38, 3) := by decide +kernel
theorem dX9_sort_217 : decode cX9_sort 217 = .ok (.if_icmp .ge 7, 3) := by decide +kernel
theorem dX9_sort_220 : decode cX9_sort 220 = .ok (.iconst 1, 1) := by decide +kernel
theorem dX9_sort_221 : decode cX9_sort 221 = .ok (.goto 4, 3) := by decide +kernel
theorem dX9_sort_224 : decode cX9_sort 224 = .ok (.iconst 0, 1) := by decide +kernel
theorem dX9_sort_225 : decode cX9_sort 225 = .ok (.bastore, 1) := by decide +kernel
theorem dX9_sort_226 : decode cX9_sort 226 = .ok (.aload_n 0, 1) := by decide +kernel
theorem dX9_sort_227 : decode cX9_sort 227 = .ok (.getfield 54, 3) := by decide +kernel
theorem dX9_sort_230 : decode cX9_sort 230 = .ok (.iload 5, 2) := by decide +kernel
theorem dX9_sort_232 : decode cX9_sort 232 = .ok (.iconst (-1), 1) := by decide +kernel
theorem dX9_sort_233 : decode cX9_sort 233 = .ok (.iastore, 1) := by decide +kernel
theorem dX9_sort_234 : decode cX9_sort 234 = .ok (.iinc 5 1, 3) := by decide +kernel
theorem dX9_sort_237 : decode cX9_sort 237 = .ok (.goto (-159), 3) := by decide +kernel
theorem dX9_sort_240 : decode cX9_sort 240 = .ok (.iconst 0, 1) := by decide +kernel
theorem dX9_sort_241 : decode cX9_sort 241 = .ok (.istore 5, 2) := by decide +kernel
theorem dX9_sort_243 : decode cX9_sort 243 = .ok (.iload 5, 2) := by decide +kernel
theorem dX9_sort_245 : decode cX9_sort 245 = .ok (.aload_n 0, 1) := by decide +kernel
theorem dX9_sort_246 : decode cX9_sort 246 = .ok (.getfield 169, 3) := by decide +kernel
theorem dX9_sort_249 : decode cX9_sort 249 = .ok (.if_icmp .ge 16, 3) := by decide +kernel
theorem dX9_sort_252 : decode cX9_sort 252 = .ok (.aload_n 0, 1) := by decide +kernel
theorem dX9_sort_253 : decode cX9_sort 253 = .ok (.iload 5, 2) := by decide +kernel
theorem dX9_sort_255 : decode cX9_sort 255 = .ok (.iload_n 2, 1) := by decide +kernel
theorem dX9_sort_256 : decode cX9_sort 256 = .ok (.invokevirtual 186, 3) := by decide +kernel
theorem dX9_sort_259 : decode cX9_sort 259 = .ok (.iinc 5 1, 3) := by decide +kernel
theorem dX9_sort_262 : decode cX9_sort 262 = .ok (.goto (-19), 3) := by decide +kernel
theorem dX9_sort_265 : decode cX9_sort 265 = .ok (.iload 4, 2) := by decide +kernel
theorem dX9_sort_267 : decode cX9_sort 267 = .ok (.ireturn, 1) := by decide +kernel
theorem dX9_noRead_0 : decode cX9_noRead 0 = .ok (.iload_n 1, 1) := by decide +kernel
theorem dX9_noRead_1 : decode cX9_noRead 1 = .ok (.ifCond .lt 11, 3) := by decide +kernel
theorem dX9_noRead_4 : decode cX9_noRead 4 = .ok (.iload_n 1, 1) := by decide +kernel
theorem dX9_noRead_5 : decode cX9_noRead 5 = .ok (.aload_n 0, 1) := by decide +kernel
theorem dX9_noRead_6 : decode cX9_noRead 6 = .ok (.getfield 63, 3) := by decide +kernel
theorem dX9_noRead_9 : decode cX9_noRead 9 = .ok (.if_icmp .lt 7, 3) := by decide +kernel
theorem dX9_noRead_12 : decode cX9_noRead 12 = .ok (.iconst 1, 1) := by decide +kernel
theorem dX9_noRead_13 : decode cX9_noRead 13 = .ok (.goto 4, 3) := by decide +kernel
theorem dX9_noRead_16 : decode cX9_noRead 16 = .ok (.iconst 0, 1) := by decide +kernel
theorem dX9_noRead_17 : decode cX9_noRead 17 = .ok (.ireturn, 1) := by decide +kernel
theorem dX9_about_0 : decode cX9_about 0 = .ok (.aload_n 0, 1) := by decide +kernel
theorem dX9_about_1 : decode cX9_about 1 = .ok (.aload_n 0, 1) := by decide +kernel
theorem dX9_about_2 : decode cX9_about 2 = .ok (.iload_n 1, 1) := by decide +kernel
theorem dX9_about_3 : decode cX9_about 3 = .ok (.invokevirtual 190, 3) := by decide +kernel
theorem dX9_about_6 : decode cX9_about 6 = .ok (.ifCond .ne 13, 3) := by decide +kernel
theorem dX9_about_9 : decode cX9_about 9 = .ok (.iload_n 2, 1) := by decide +kernel
theorem dX9_about_10 : decode cX9_about 10 = .ok (.ifCond .lt 9, 3) := by decide +kernel
theorem dX9_about_13 : decode cX9_about 13 = .ok (.iload_n 2, 1) := by decide +kernel
theorem dX9_about_14 : decode cX9_about 14 = .ok (.bipush 6, 2) := by decide +kernel
theorem dX9_about_16 : decode cX9_about 16 = .ok (.if_icmp .le 7, 3) := by decide +kernel
theorem dX9_about_19 : decode cX9_about 19 = .ok (.iconst 1, 1) := by decide +kernel
theorem dX9_about_20 : decode cX9_about 20 = .ok (.goto 4, 3) := by decide +kernel
theorem dX9_about_23 : decode cX9_about 23 = .ok (.iconst 0, 1) := by decide +kernel
theorem dX9_about_24 : decode cX9_about 24 = .ok (.putfield 66, 3) := by decide +kernel
theorem dX9_about_27 : decode cX9_about 27 = .ok (.aload_n 0, 1) := by decide +kernel
theorem dX9_about_28 : decode cX9_about 28 = .ok (.getfield 66, 3) := by decide +kernel
theorem dX9_about_31 : decode cX9_about 31 = .ok (.ifCond .le 5, 3) := by decide +kernel
theorem dX9_about_34 : decode cX9_about 34 = .ok (.iconst 0, 1) := by decide +kernel
theorem dX9_about_35 : decode cX9_about 35 = .ok (.ireturn, 1) := by decide +kernel
theorem dX9_about_36 : decode cX9_about 36 = .ok (.iload_n 2, 1) := by decide +kernel
theorem dX9_about_37 : decode cX9_about 37 = .ok (.iconst 2, 1) := by decide +kernel
theorem dX9_about_38 : decode cX9_about 38 = .ok (.if_icmp .ge 23, 3) := by decide +kernel
theorem dX9_about_41 : decode cX9_about 41 = .ok (.iload_n 2, 1) := by decide +kernel
theorem dX9_about_42 : decode cX9_about 42 = .ok (.ifCond .ne 12, 3) := by decide +kernel
theorem dX9_about_45 : decode cX9_about 45 = .ok (.aload_n 0, 1) := by decide +kernel
theorem dX9_about_46 : decode cX9_about 46 = .ok (.getfield 17, 3) := by decide +kernel
theorem dX9_about_49 : decode cX9_about 49 = .ok (.iload_n 1, 1) := by decide +kernel
theorem dX9_about_50 : decode cX9_about 50 = .ok (.iaload, 1) := by decide +kernel
theorem dX9_about_51 : decode cX9_about 51 = .ok (.goto 9, 3) := by decide +kernel
theorem dX9_about_54 : decode cX9_about 54 = .ok (.aload_n 0, 1) := by decide +kernel
theorem dX9_about_55 : decode cX9_about 55 = .ok (.getfield 23, 3) := by decide +kernel
theorem dX9_about_58 : decode cX9_about 58 = .ok (.iload_n 1, 1) := by decide +kernel
theorem dX9_about_59 : decode cX9_about 59 = .ok (.iaload, 1) := by decide +kernel
theorem dX9_about_60 : decode cX9_about 60 = .ok (.ireturn, 1) := by decide +kernel
theorem dX9_about_61 : decode cX9_about 61 = .ok (.aload_n 0, 1) := by decide +kernel
theorem dX9_about_62 : decode cX9_about 62 = .ok (.getfield 114, 3) := by decide +kernel
theorem dX9_about_65 : decode cX9_about 65 = .ok (.ifCond .ne 5, 3) := by decide +kernel
theorem dX9_about_68 : decode cX9_about 68 = .ok (.iconst (-1), 1) := by decide +kernel
theorem dX9_about_69 : decode cX9_about 69 = .ok (.ireturn, 1) := by decide +kernel
theorem dX9_about_70 : decode cX9_about 70 = .ok (.iload_n 2, 1) := by decide +kernel
theorem dX9_about_71 : decode cX9_about 71 = .ok (.iconst 2, 1) := by decide +kernel
theorem dX9_about_72 : decode cX9_about 72 = .ok (.if_icmp .ne 12, 3) := by decide +kernel
theorem dX9_about_75 : decode cX9_about 75 = .ok (.aload_n 0, 1) := by decide +kernel
theorem dX9_about_76 : decode cX9_about 76 = .ok (.getfield 41, 3) := by decide +kernel
theorem dX9_about_79 : decode cX9_about 79 = .ok (.iload_n 1, 1) := by decide +kernel
theorem dX9_about_80 : decode cX9_about 80 = .ok (.iaload, 1) := by decide +kernel
theorem dX9_about_81 : decode cX9_about 81 = .ok (.goto 59, 3) := by decide +kernel
theorem dX9_about_84 : decode cX9_about 84 = .ok (.iload_n 2, 1) := by decide +kernel
theorem dX9_about_85 : decode cX9_about 85 = .ok (.iconst 3, 1) := by decide +kernel
theorem dX9_about_86 : decode cX9_about 86 = .ok (.if_icmp .ne 12, 3) := by decide +kernel
theorem dX9_about_89 : decode cX9_about 89 = .ok (.aload_n 0, 1) := by decide +kernel
theorem dX9_about_90 : decode cX9_about 90 = .ok (.getfield 44, 3) := by decide +kernel
theorem dX9_about_93 : decode cX9_about 93 = .ok (.iload_n 1, 1) := by decide +kernel
theorem dX9_about_94 : decode cX9_about 94 = .ok (.iaload, 1) := by decide +kernel
theorem dX9_about_95 : decode cX9_about 95 = .ok (.goto 45, 3) := by decide +kernel
theorem dX9_about_98 : decode cX9_about 98 = .ok (.iload_n 2, 1) := by decide +kernel
theorem dX9_about_99 : decode cX9_about 99 = .ok (.iconst 4, 1) := by decide +kernel
theorem dX9_about_100 : decode cX9_about 100 = .ok (.if_icmp .ne 12, 3) := by decide +kernel
theorem dX9_about_103 : decode cX9_about 103 = .ok (.aload_n 0, 1) := by decide +kernel
theorem dX9_about_104 : decode cX9_about 104 = .ok (.getfield 47, 3) := by decide +kernel
theorem dX9_about_107 : decode cX9_about 107 = .ok (.iload_n 1, 1) := by decide +kernel
theorem dX9_about_108 : decode cX9_about 108 = .ok (.iaload, 1) := by decide +kernel
theorem dX9_about_109 : decode cX9_about 109 = .ok (.goto 31, 3) := by decide +kernel
theorem dX9_about_112 : decode cX9_about 112 = .ok (.iload_n 2, 1) := by decide +kernel
theorem dX9_about_113 : decode cX9_about 113 = .ok (.iconst 5, 1) := by decide +kernel
theorem dX9_about_114 : decode cX9_about 114 = .ok (.if_icmp .ne 20, 3) := by decide +kernel
theorem dX9_about_117 : decode cX9_about 117 = .ok (.aload_n 0, 1) := by decide +kernel
theorem dX9_about_118 : decode cX9_about 118 = .ok (.getfield 50, 3) := by decide +kernel
theorem dX9_about_121 : decode cX9_about 121 = .ok (.iload_n 1, 1) := by decide +kernel
theorem dX9_about_122 : decode cX9_about 122 = .ok (.baload, 1) := by decide +kernel
theorem dX9_about_123 : decode cX9_about 123 = .ok (.ifCond .eq 7, 3) := by decide +kernel
theorem dX9_about_126 : decode cX9_about 126 = .ok (.iconst 1, 1) := by decide +kernel
theorem dX9_about_127 : decode cX9_about 127 = .ok (.goto 13, 3) := by decide +kernel
theorem dX9_about_130 : decode cX9_about 130 = .ok (.iconst 0, 1) := by decide +kernel
theorem dX9_about_131 : decode cX9_about 131 = .ok (.goto 9, 3) := by decide +kernel
theorem dX9_about_134 : decode cX9_about 134 = .ok (.aload_n 0, 1) := by decide +kernel
theorem dX9_about_135 : decode cX9_about 135 = .ok (.getfield 54, 3) := by decide +kernel
theorem dX9_about_138 : decode cX9_about 138 = .ok (.iload_n 1, 1) := by decide +kernel
theorem dX9_about_139 : decode cX9_about 139 = .ok (.iaload, 1) := by decide +kernel
theorem dX9_about_140 : decode cX9_about 140 = .ok (.ireturn, 1) := by decide +kernel
theorem dX9_letter_0 : decode cX9_letter 0 = .ok (.aload_n 0, 1) := by decide +kernel
theorem dX9_letter_1 : decode cX9_letter 1 = .ok (.aload_n 0, 1) := by decide +kernel
theorem dX9_letter_2 : decode cX9_letter 2 = .ok (.iload_n 1, 1) := by decide +kernel
theorem dX9_letter_3 : decode cX9_letter 3 = .ok (.invokevirtual 190, 3) := by decide +kernel
theorem dX9_letter_6 : decode cX9_letter 6 = .ok (.ifCond .ne 39, 3) := by decide +kernel
theorem dX9_letter_9 : decode cX9_letter 9 = .ok (.iload_n 2, 1) := by decide +kernel
theorem dX9_letter_10 : decode cX9_letter 10 = .ok (.ifCond .lt 35, 3) := by decide +kernel
theorem dX9_letter_13 : decode cX9_letter 13 = .ok (.iload_n 2, 1) := by decide +kernel
theorem dX9_letter_14 : decode cX9_letter 14 = .ok (.iconst 2, 1) := by decide +kernel
theorem dX9_letter_15 : decode cX9_letter 15 = .ok (.if_icmp .gt 30, 3) := by decide +kernel
theorem dX9_letter_18 : decode cX9_letter 18 = .ok (.iload_n 3, 1) := by decide +kernel
theorem dX9_letter_19 : decode cX9_letter 19 = .ok (.ifCond .lt 26, 3) := by decide +kernel
theorem dX9_letter_22 : decode cX9_letter 22 = .ok (.iload_n 3, 1) := by decide +kernel
theorem dX9_letter_23 : decode cX9_letter 23 = .ok (.iload_n 2, 1) := by decide +kernel
theorem dX9_letter_24 : decode cX9_letter 24 = .ok (.ifCond .ne 12, 3) := by decide +kernel
theorem dX9_letter_27 : decode cX9_letter 27 = .ok (.aload_n 0, 1) := by decide +kernel
theorem dX9_letter_28 : decode cX9_letter 28 = .ok (.getfield 17, 3) := by decide +kernel
theorem dX9_letter_31 : decode cX9_letter 31 = .ok (.iload_n 1, 1) := by decide +kernel
theorem dX9_letter_32 : decode cX9_letter 32 = .ok (.iaload, 1) := by decide +kernel
theorem dX9_letter_33 : decode cX9_letter 33 = .ok (.goto 9, 3) := by decide +kernel
theorem dX9_letter_36 : decode cX9_letter 36 = .ok (.aload_n 0, 1) := by decide +kernel
theorem dX9_letter_37 : decode cX9_letter 37 = .ok (.getfield 23, 3) := by decide +kernel
theorem dX9_letter_40 : decode cX9_letter 40 = .ok (.iload_n 1, 1) := by decide +kernel
theorem dX9_letter_41 : decode cX9_letter 41 = .ok (.iaload, 1) := by decide +kernel
theorem dX9_letter_42 : decode cX9_letter 42 = .ok (.if_icmp .lt 7, 3) := by decide +kernel
theorem dX9_letter_45 : decode cX9_letter 45 = .ok (.iconst 1, 1) := by decide +kernel
theorem dX9_letter_46 : decode cX9_letter 46 = .ok (.goto 4, 3) := by decide +kernel
theorem dX9_letter_49 : decode cX9_letter 49 = .ok (.iconst 0, 1) := by decide +kernel
theorem dX9_letter_50 : decode cX9_letter 50 = .ok (.putfield 66, 3) := by decide +kernel
theorem dX9_letter_53 : decode cX9_letter 53 = .ok (.aload_n 0, 1) := by decide +kernel
theorem dX9_letter_54 : decode cX9_letter 54 = .ok (.getfield 66, 3) := by decide +kernel
theorem dX9_letter_57 : decode cX9_letter 57 = .ok (.ifCond .le 5, 3) := by decide +kernel
theorem dX9_letter_60 : decode cX9_letter 60 = .ok (.iconst 0, 1) := by decide +kernel
theorem dX9_letter_61 : decode cX9_letter 61 = .ok (.ireturn, 1) := by decide +kernel
theorem dX9_letter_62 : decode cX9_letter 62 = .ok (.iload_n 2, 1) := by decide +kernel
theorem dX9_letter_63 : decode cX9_letter 63 = .ok (.ifCond .ne 17, 3) := by decide +kernel
theorem dX9_letter_66 : decode cX9_letter 66 = .ok (.aload_n 0, 1) := by decide +kernel
theorem dX9_letter_67 : decode cX9_letter 67 = .ok (.getfield 20, 3) := by decide +kernel
theorem dX9_letter_70 : decode cX9_letter 70 = .ok (.bipush 40, 2) := by decide +kernel
theorem dX9_letter_72 : decode cX9_letter 72 = .ok (.iload_n 1, 1) := by decide +kernel
theorem dX9_letter_73 : decode cX9_letter 73 = .ok (.imul, 1) := by decide +kernel
theorem dX9_letter_74 : decode cX9_letter 74 = .ok (.iload_n 3, 1) := by decide +kernel
theorem dX9_letter_75 : decode cX9_letter 75 = .ok (.iadd, 1) := by decide +kernel
theorem dX9_letter_76 : decode cX9_letter 76 = .ok (.iaload, 1) := by decide +kernel
theorem dX9_letter_77 : decode cX9_letter 77 = .ok (.goto 33, 3) := by decide +kernel
theorem dX9_letter_80 : decode cX9_letter 80 = .ok (.iload_n 2, 1) := by decide +kernel
theorem dX9_letter_81 : decode cX9_letter 81 = .ok (.iconst 1, 1) := by decide +kernel
theorem dX9_letter_82 : decode cX9_letter 82 = .ok (.if_icmp .ne 17, 3) := by decide +kernel
theorem dX9_letter_85 : decode cX9_letter 85 = .ok (.aload_n 0, 1) := by decide +kernel
theorem dX9_letter_86 : decode cX9_letter 86 = .ok (.getfield 26, 3) := by decide +kernel
theorem dX9_letter_89 : decode cX9_letter 89 = .ok (.bipush 120, 2) := by decide +kernel
theorem dX9_letter_91 : decode cX9_letter 91 = .ok (.iload_n 1, 1) := by decide +kernel
theorem dX9_letter_92 : decode cX9_letter 92 = .ok (.imul, 1) := by decide +kernel
theorem dX9_letter_93 : decode cX9_letter 93 = .ok (.iload_n 3, 1) := by decide +kernel
theorem dX9_letter_94 : decode cX9_letter 94 = .ok (.iadd, 1) := by decide +kernel
theorem dX9_letter_95 : decode cX9_letter 95 = .ok (.iaload, 1) := by decide +kernel
theorem dX9_letter_96 : decode cX9_letter 96 = .ok (.goto 14, 3) := by decide +kernel
theorem dX9_letter_99 : decode cX9_letter 99 = .ok (.aload_n 0, 1) := by decide +kernel
theorem dX9_letter_100 : decode cX9_letter 100 = .ok (.getfield 29, 3) := by decide +kernel
theorem dX9_letter_103 : decode cX9_letter 103 = .ok (.bipush 120, 2) := by decide +kernel
theorem dX9_letter_105 : decode cX9_letter 105 = .ok (.iload_n 1, 1) := by decide +kernel
theorem dX9_letter_106 : decode cX9_letter 106 = .ok (.imul, 1) := by decide +kernel
theorem dX9_letter_107 : decode cX9_letter 107 = .ok (.iload_n 3, 1) := by decide +kernel
theorem dX9_letter_108 : decode cX9_letter 108 = .ok (.iadd, 1) := by decide +kernel
theorem dX9_letter_109 : decode cX9_letter 109 = .ok (.iaload, 1) := by decide +kernel
theorem dX9_letter_110 : decode cX9_letter 110 = .ok (.ireturn, 1) := by decide +kernel
theorem dX9_noBin_0 : decode cX9_noBin 0 = .ok (.iload_n 1, 1) := by decide +kernel
theorem dX9_noBin_1 : decode cX9_noBin 1 = .ok (.iconst (-1), 1) := by decide +kernel
theorem dX9_noBin_2 : decode cX9_noBin 2 = .ok (.if_icmp .lt 25, 3) := by decide +kernel
theorem dX9_noBin_5 : decode cX9_noBin 5 = .ok (.iload_n 1, 1) := by decide +kernel
theorem dX9_noBin_6 : decode cX9_noBin 6 = .ok (.aload_n 0, 1) := by decide +kernel
theorem dX9_noBin_7 : decode cX9_noBin 7 = .ok (.getfield 114, 3) := by decide +kernel
theorem dX9_noBin_10 : decode cX9_noBin 10 = .ok (.ifCond .eq 10, 3) := by decide +kernel
theorem dX9_noBin_13 : decode cX9_noBin 13 = .ok (.aload_n 0, 1) := by decide +kernel
theorem dX9_noBin_14 : decode cX9_noBin 14 = .ok (.getfield 169, 3) := by decide +kernel
theorem dX9_noBin_17 : decode cX9_noBin 17 = .ok (.goto 7, 3) := by decide +kernel
theorem dX9_noBin_20 : decode cX9_noBin 20 = .ok (.aload_n 0, 1) := by decide +kernel
theorem dX9_noBin_21 : decode cX9_noBin 21 = .ok (.getfield 118, 3) := by decide +kernel
theorem dX9_noBin_24 : decode cX9_noBin 24 = .ok (.if_icmp .lt 7, 3) := by decide +kernel
theorem dX9_noBin_27 : decode cX9_noBin 27 = .ok (.iconst 1, 1) := by decide +kernel
theorem dX9_noBin_28 : decode cX9_noBin 28 = .ok (.goto 4, 3) := by decide +kernel
theorem dX9_noBin_31 : decode cX9_noBin 31 = .ok (.iconst 0, 1) := by decide +kernel
theorem dX9_noBin_32 : decode cX9_noBin 32 = .ok (.ireturn, 1) := by decide +kernel
theorem dX9_groupsOf_0 : decode cX9_groupsOf 0 = .ok (.iconst 0, 1) := by decide +kernel
theorem dX9_groupsOf_1 : decode cX9_groupsOf 1 = .ok (.istore_n 2, 1) := by decide +kernel
theorem dX9_groupsOf_2 : decode cX9_groupsOf 2 = .ok (.iconst 0, 1) := by decide +kernel
theorem dX9_groupsOf_3 : decode cX9_groupsOf 3 = .ok (.istore_n 3, 1) := by decide +kernel
theorem dX9_groupsOf_4 : decode cX9_groupsOf 4 = .ok (.iload_n 3, 1) := by decide +kernel
theorem dX9_groupsOf_5 : decode cX9_groupsOf 5 = .ok (.aload_n 0, 1) := by decide +kernel
theorem dX9_groupsOf_6 : decode cX9_groupsOf 6 = .ok (.getfield 63, 3) := by decide +kernel
theorem dX9_groupsOf_9 : decode cX9_groupsOf 9 = .ok (.if_icmp .ge 42, 3) := by decide +kernel
theorem dX9_groupsOf_12 : decode cX9_groupsOf 12 = .ok (.aload_n 0, 1) := by decide +kernel
theorem dX9_groupsOf_13 : decode cX9_groupsOf 13 = .ok (.getfield 41, 3) := by decide +kernel
theorem dX9_groupsOf_16 : decode cX9_groupsOf 16 = .ok (.iload_n 3, 1) := by decide +kernel
theorem dX9_groupsOf_17 : decode cX9_groupsOf 17 = .ok (.iaload, 1) := by decide +kernel
theorem dX9_groupsOf_18 : decode cX9_groupsOf 18 = .ok (.iload_n 1, 1) := by decide +kernel
theorem dX9_groupsOf_19 : decode cX9_groupsOf 19 = .ok (.if_icmp .ne 24, 3) := by decide +kernel
theorem dX9_groupsOf_22 : decode cX9_groupsOf 22 = .ok (.aload_n 0, 1) := by decide +kernel
theorem dX9_groupsOf_23 : decode cX9_groupsOf 23 = .ok (.getfield 54, 3) := by decide +kernel
theorem dX9_groupsOf_26 : decode cX9_groupsOf 26 = .ok (.iload_n 3, 1) := by decide +kernel
theorem dX9_groupsOf_27 : decode cX9_groupsOf 27 = .ok (.iaload, 1) := by decide +kernel
theorem dX9_groupsOf_28 : decode cX9_groupsOf 28 = .ok (.iload_n 2, 1) := by decide +kernel
theorem dX9_groupsOf_29 : decode cX9_groupsOf 29 = .ok (.if_icmp .lt 14, 3) := by decide +kernel
theorem dX9_groupsOf_32 : decode cX9_groupsOf 32 = .ok (.aload_n 0, 1) := by decide +kernel
theorem dX9_groupsOf_33 : decode cX9_groupsOf 33 = .ok (.getfield 54, 3) := by decide +kernel
theorem dX9_groupsOf_36 : decode cX9_groupsOf 36 = .ok (.iload_n 3, 1) := by decide +kernel
theorem dX9_groupsOf_37 : decode cX9_groupsOf 37 = .ok (.iaload, 1) := by decide +kernel
theorem dX9_groupsOf_38 : decode cX9_groupsOf 38 = .ok (.iconst 1, 1) := by decide +kernel
theorem dX9_groupsOf_39 : decode cX9_groupsOf 39 = .ok (.iadd, 1) := by decide +kernel
theorem dX9_groupsOf_40 : decode cX9_groupsOf 40 = .ok (.goto 4, 3) := by decide +kernel
theorem dX9_groupsOf_43 : decode cX9_groupsOf 43 = .ok (.iload_n 2, 1) := by decide +kernel
theorem dX9_groupsOf_44 : decode cX9_groupsOf 44 = .ok (.istore_n 2, 1) := by decide +kernel
theorem dX9_groupsOf_45 : decode cX9_groupsOf 45 = .ok (.iinc 3 1, 3) := by decide +kernel
theorem dX9_groupsOf_48 : decode cX9_groupsOf 48 = .ok (.goto (-44), 3) := by decide +kernel
theorem dX9_groupsOf_51 : decode cX9_groupsOf 51 = .ok (.iload_n 2, 1) := by decide +kernel
theorem dX9_groupsOf_52 : decode cX9_groupsOf 52 = .ok (.ireturn, 1) := by decide +kernel
theorem dX9_bin_0 : decode cX9_bin 0 = .ok (.aload_n 0, 1) := by decide +kernel
theorem dX9_bin_1 : decode cX9_bin 1 = .ok (.aload_n 0, 1) := by decide +kernel
theorem dX9_bin_2 : decode cX9_bin 2 = .ok (.iload_n 1, 1) := by decide +kernel
theorem dX9_bin_3 : decode cX9_bin 3 = .ok (.invokevirtual 193, 3) := by decide +kernel
theorem dX9_bin_6 : decode cX9_bin 6 = .ok (.ifCond .ne 12, 3) := by decide +kernel
theorem dX9_bin_9 : decode cX9_bin 9 = .ok (.iload_n 2, 1) := by decide +kernel
theorem dX9_bin_10 : decode cX9_bin 10 = .ok (.ifCond .lt 8, 3) := by decide +kernel
theorem dX9_bin_13 : decode cX9_bin 13 = .ok (.iload_n 2, 1) := by decide +kernel
theorem dX9_bin_14 : decode cX9_bin 14 = .ok (.iconst 2, 1) := by decide +kernel
theorem dX9_bin_15 : decode cX9_bin 15 = .ok (.if_icmp .le 7, 3) := by decide +kernel
theorem dX9_bin_18 : decode cX9_bin 18 = .ok (.iconst 1, 1) := by decide +kernel
theorem dX9_bin_19 : decode cX9_bin 19 = .ok (.goto 15, 3) := by decide +kernel
theorem dX9_bin_22 : decode cX9_bin 22 = .ok (.aload_n 0, 1) := by decide +kernel
theorem dX9_bin_23 : decode cX9_bin 23 = .ok (.getfield 114, 3) := by decide +kernel
theorem dX9_bin_26 : decode cX9_bin 26 = .ok (.ifCond .ne 7, 3) := by decide +kernel
theorem dX9_bin_29 : decode cX9_bin 29 = .ok (.iconst 2, 1) := by decide +kernel
theorem dX9_bin_30 : decode cX9_bin 30 = .ok (.goto 4, 3) := by decide +kernel
theorem dX9_bin_33 : decode cX9_bin 33 = .ok (.iconst 0, 1) := by decide +kernel
theorem dX9_bin_34 : decode cX9_bin 34 = .ok (.putfield 66, 3) := by decide +kernel
theorem dX9_bin_37 : decode cX9_bin 37 = .ok (.aload_n 0, 1) := by decide +kernel
theorem dX9_bin_38 : decode cX9_bin 38 = .ok (.getfield 66, 3) := by decide +kernel
theorem dX9_bin_41 : decode cX9_bin 41 = .ok (.ifCond .le 5, 3) := by decide +kernel
theorem dX9_bin_44 : decode cX9_bin 44 = .ok (.iconst 0, 1) := by decide +kernel
theorem dX9_bin_45 : decode cX9_bin 45 = .ok (.ireturn, 1) := by decide +kernel
theorem dX9_bin_46 : decode cX9_bin 46 = .ok (.iconst 0, 1) := by decide +kernel
theorem dX9_bin_47 : decode cX9_bin 47 = .ok (.istore_n 3, 1) := by decide +kernel
theorem dX9_bin_48 : decode cX9_bin 48 = .ok (.iconst 0, 1) := by decide +kernel
theorem dX9_bin_49 : decode cX9_bin 49 = .ok (.istore 4, 2) := by decide +kernel
theorem dX9_bin_51 : decode cX9_bin 51 = .ok (.iconst 0, 1) := by decide +kernel
theorem dX9_bin_52 : decode cX9_bin 52 = .ok (.istore 5, 2) := by decide +kernel
theorem dX9_bin_54 : decode cX9_bin 54 = .ok (.iload 5, 2) := by decide +kernel
theorem dX9_bin_56 : decode cX9_bin 56 = .ok (.aload_n 0, 1) := by decide +kernel
theorem dX9_bin_57 : decode cX9_bin 57 = .ok (.getfield 63, 3) := by decide +kernel
theorem dX9_bin_60 : decode cX9_bin 60 = .ok (.if_icmp .ge 59, 3) := by decide +kernel
theorem dX9_bin_63 : decode cX9_bin 63 = .ok (.iload_n 3, 1) := by decide +kernel
theorem dX9_bin_64 : decode cX9_bin 64 = .ok (.aload_n 0, 1) := by decide +kernel
theorem dX9_bin_65 : decode cX9_bin 65 = .ok (.getfield 41, 3) := by decide +kernel
theorem dX9_bin_68 : decode cX9_bin 68 = .ok (.iload 5, 2) := by decide +kernel
theorem dX9_bin_70 : decode cX9_bin 70 = .ok (.iaload, 1) := by decide +kernel
theorem dX9_bin_71 : decode cX9_bin 71 = .ok (.iload_n 1, 1) := by decide +kernel
theorem dX9_bin_72 : decode cX9_bin 72 = .ok (.if_icmp .ne 7, 3) := by decide +kernel
theorem dX9_bin_75 : decode cX9_bin 75 = .ok (.iconst 1, 1) := by decide +kernel
theorem dX9_bin_76 : decode cX9_bin 76 = .ok (.goto 4, 3) := by decide +kernel
theorem dX9_bin_79 : decode cX9_bin 79 = .ok (.iconst 0, 1) := by decide +kernel
theorem dX9_bin_80 : decode cX9_bin 80 = .ok (.iadd, 1) := by decide +kernel
theorem dX9_bin_81 : decode cX9_bin 81 = .ok (.istore_n 3, 1) := by decide +kernel
theorem dX9_bin_82 : decode cX9_bin 82 = .ok (.iload 4, 2) := by decide +kernel
theorem dX9_bin_84 : decode cX9_bin 84 = .ok (.aload_n 0, 1) := by decide +kernel
theorem dX9_bin_85 : decode cX9_bin 85 = .ok (.getfield 41, 3) := by decide +kernel
theorem dX9_bin_88 : decode cX9_bin 88 = .ok (.iload 5, 2) := by decide +kernel
theorem dX9_bin_90 : decode cX9_bin 90 = .ok (.iaload, 1) := by decide +kernel
theorem dX9_bin_91 : decode cX9_bin 91 = .ok (.iload_n 1, 1) := by decide +kernel
theorem dX9_bin_92 : decode cX9_bin 92 = .ok (.if_icmp .ne 17, 3) := by decide +kernel
theorem dX9_bin_95 : decode cX9_bin 95 = .ok (.aload_n 0, 1) := by decide +kernel
theorem dX9_bin_96 : decode cX9_bin 96 = .ok (.getfield 50, 3) := by decide +kernel
theorem dX9_bin_99 : decode cX9_bin 99 = .ok (.iload 5, 2) := by decide +kernel
theorem dX9_bin_101 : decode cX9_bin 101 = .ok (.baload, 1) := by decide +kernel
theorem dX9_bin_102 : decode cX9_bin 102 = .ok (.ifCond .eq 7, 3) := by decide +kernel
theorem dX9_bin_105 : decode cX9_bin 105 = .ok (.iconst 1, 1) := by decide +kernel
theorem dX9_bin_106 : decode cX9_bin 106 = .ok (.goto 4, 3) := by decide +kernel
theorem dX9_bin_109 : decode cX9_bin 109 = .ok (.iconst 0, 1) := by decide +kernel
theorem dX9_bin_110 : decode cX9_bin 110 = .ok (.iadd, 1) := by decide +kernel
theorem dX9_bin_111 : decode cX9_bin 111 = .ok (.istore 4, 2) := by decide +kernel
theorem dX9_bin_113 : decode cX9_bin 113 = .ok (.iinc 5 1, 3) := by decide +kernel
theorem dX9_bin_116 : decode cX9_bin 116 = .ok (.goto (-62), 3) := by decide +kernel
theorem dX9_bin_119 : decode cX9_bin 119 = .ok (.iload_n 2, 1) := by decide +kernel
theorem dX9_bin_120 : decode cX9_bin 120 = .ok (.ifCond .ne 7, 3) := by decide +kernel
theorem dX9_bin_123 : decode cX9_bin 123 = .ok (.iload_n 3, 1) := by decide +kernel
theorem dX9_bin_124 : decode cX9_bin 124 = .ok (.goto 18, 3) := by decide +kernel
theorem dX9_bin_127 : decode cX9_bin 127 = .ok (.iload_n 2, 1) := by decide +kernel
theorem dX9_bin_128 : decode cX9_bin 128 = .ok (.iconst 1, 1) := by decide +kernel
theorem dX9_bin_129 : decode cX9_bin 129 = .ok (.if_icmp .ne 8, 3) := by decide +kernel
theorem dX9_bin_132 : decode cX9_bin 132 = .ok (.iload 4, 2) := by decide +kernel
theorem dX9_bin_134 : decode cX9_bin 134 = .ok (.goto 8, 3) := by decide +kernel
theorem dX9_bin_137 : decode cX9_bin 137 = .ok (.aload_n 0, 1) := by decide +kernel
theorem dX9_bin_138 : decode cX9_bin 138 = .ok (.iload_n 1, 1) := by decide +kernel
theorem dX9_bin_139 : decode cX9_bin 139 = .ok (.invokevirtual 196, 3) := by decide +kernel
theorem dX9_bin_142 : decode cX9_bin 142 = .ok (.ireturn, 1) := by decide +kernel
theorem dX9_bestOf_0 : decode cX9_bestOf 0 = .ok (.iconst (-1), 1) := by decide +kernel
theorem dX9_bestOf_1 : decode cX9_bestOf 1 = .ok (.istore_n 3, 1) := by decide +kernel
theorem dX9_bestOf_2 : decode cX9_bestOf 2 = .ok (.iconst (-1), 1) := by decide +kernel
theorem dX9_bestOf_3 : decode cX9_bestOf 3 = .ok (.istore 4, 2) := by decide +kernel
theorem dX9_bestOf_5 : decode cX9_bestOf 5 = .ok (.iconst 0, 1) := by decide +kernel
theorem dX9_bestOf_6 : decode cX9_bestOf 6 = .ok (.istore 5, 2) := by decide +kernel
theorem dX9_bestOf_8 : decode cX9_bestOf 8 = .ok (.iload 5, 2) := by decide +kernel
theorem dX9_bestOf_10 : decode cX9_bestOf 10 = .ok (.aload_n 0, 1) := by decide +kernel
theorem dX9_bestOf_11 : decode cX9_bestOf 11 = .ok (.getfield 63, 3) := by decide +kernel
theorem dX9_bestOf_14 : decode cX9_bestOf 14 = .ok (.if_icmp .ge 109, 3) := by decide +kernel
theorem dX9_bestOf_17 : decode cX9_bestOf 17 = .ok (.aload_n 0, 1) := by decide +kernel
theorem dX9_bestOf_18 : decode cX9_bestOf 18 = .ok (.getfield 41, 3) := by decide +kernel
theorem dX9_bestOf_21 : decode cX9_bestOf 21 = .ok (.iload 5, 2) := by decide +kernel
theorem dX9_bestOf_23 : decode cX9_bestOf 23 = .ok (.iaload, 1) := by decide +kernel
theorem dX9_bestOf_24 : decode cX9_bestOf 24 = .ok (.iload_n 1, 1) := by decide +kernel
theorem dX9_bestOf_25 : decode cX9_bestOf 25 = .ok (.if_icmp .ne 92, 3) := by decide +kernel
theorem dX9_bestOf_28 : decode cX9_bestOf 28 = .ok (.aload_n 0, 1) := by decide +kernel
theorem dX9_bestOf_29 : decode cX9_bestOf 29 = .ok (.getfield 54, 3) := by decide +kernel
theorem dX9_bestOf_32 : decode cX9_bestOf 32 = .ok (.iload 5, 2) := by decide +kernel
theorem dX9_bestOf_34 : decode cX9_bestOf 34 = .ok (.iaload, 1) := by decide +kernel
theorem dX9_bestOf_35 : decode cX9_bestOf 35 = .ok (.iload_n 2, 1) := by decide +kernel
theorem dX9_bestOf_36 : decode cX9_bestOf 36 = .ok (.if_icmp .ne 81, 3) := by decide +kernel
theorem dX9_bestOf_39 : decode cX9_bestOf 39 = .ok (.iconst 0, 1) := by decide +kernel
theorem dX9_bestOf_40 : decode cX9_bestOf 40 = .ok (.istore 6, 2) := by decide +kernel
theorem dX9_bestOf_42 : decode cX9_bestOf 42 = .ok (.aload_n 0, 1) := by decide +kernel
theorem dX9_bestOf_43 : decode cX9_bestOf 43 = .ok (.getfield 44, 3) := by decide +kernel
theorem dX9_bestOf_46 : decode cX9_bestOf 46 = .ok (.iload 5, 2) := by decide +kernel
theorem dX9_bestOf_48 : decode cX9_bestOf 48 = .ok (.iaload, 1) := by decide +kernel
theorem dX9_bestOf_49 : decode cX9_bestOf 49 = .ok (.istore 7, 2) := by decide +kernel
theorem dX9_bestOf_51 : decode cX9_bestOf 51 = .ok (.iload 7, 2) := by decide +kernel
theorem dX9_bestOf_53 : decode cX9_bestOf 53 = .ok (.aload_n 0, 1) := by decide +kernel
theorem dX9_bestOf_54 : decode cX9_bestOf 54 = .ok (.getfield 47, 3) := by decide +kernel
theorem dX9_bestOf_57 : decode cX9_bestOf 57 = .ok (.iload 5, 2) := by decide +kernel
theorem dX9_bestOf_59 : decode cX9_bestOf 59 = .ok (.iaload, 1) := by decide +kernel
theorem dX9_bestOf_60 : decode cX9_bestOf 60 = .ok (.if_icmp .ge 27, 3) := by decide +kernel
theorem dX9_bestOf_63 : decode cX9_bestOf 63 = .ok (.iload 6, 2) := by decide +kernel
theorem dX9_bestOf_65 : decode cX9_bestOf 65 = .ok (.aload_n 0, 1) := by decide +kernel
theorem dX9_bestOf_66 : decode cX9_bestOf 66 = .ok (.getfield 29, 3) := by decide +kernel
theorem dX9_bestOf_69 : decode cX9_bestOf 69 = .ok (.bipush 120, 2) := by decide +kernel
theorem dX9_bestOf_71 : decode cX9_bestOf 71 = .ok (.iload 5, 2) := by decide +kernel
theorem dX9_bestOf_73 : decode cX9_bestOf 73 = .ok (.imul, 1) := by decide +kernel
theorem dX9_bestOf_74 : decode cX9_bestOf 74 = .ok (.iload 7, 2) := by decide +kernel
theorem dX9_bestOf_76 : decode cX9_bestOf 76 = .ok (.iadd, 1) := by decide +kernel
theorem dX9_bestOf_77 : decode cX9_bestOf 77 = .ok (.iaload, 1) := by decide +kernel
theorem dX9_bestOf_78 : decode cX9_bestOf 78 = .ok (.iadd, 1) := by decide +kernel
theorem dX9_bestOf_79 : decode cX9_bestOf 79 = .ok (.istore 6, 2) := by decide +kernel
theorem dX9_bestOf_81 : decode cX9_bestOf 81 = .ok (.iinc 7 1, 3) := by decide +kernel
theorem dX9_bestOf_84 : decode cX9_bestOf 84 = .ok (.goto (-33), 3) := by decide +kernel
theorem dX9_bestOf_87 : decode cX9_bestOf 87 = .ok (.iload 6, 2) := by decide +kernel
theorem dX9_bestOf_89 : decode cX9_bestOf 89 = .ok (.iload 4, 2) := by decide +kernel
theorem dX9_bestOf_91 : decode cX9_bestOf 91 = .ok (.if_icmp .le 8, 3) := by decide +kernel
theorem dX9_bestOf_94 : decode cX9_bestOf 94 = .ok (.iload 5, 2) := by decide +kernel
theorem dX9_bestOf_96 : decode cX9_bestOf 96 = .ok (.goto 4, 3) := by decide +kernel
theorem dX9_bestOf_99 : decode cX9_bestOf 99 = .ok (.iload_n 3, 1) := by decide +kernel
theorem dX9_bestOf_100 : decode cX9_bestOf 100 = .ok (.istore_n 3, 1) := by decide +kernel
theorem dX9_bestOf_101 : decode cX9_bestOf 101 = .ok (.iload 6, 2) := by decide +kernel
theorem dX9_bestOf_103 : decode cX9_bestOf 103 = .ok (.iload 4, 2) := by decide +kernel
theorem dX9_bestOf_105 : decode cX9_bestOf 105 = .ok (.if_icmp .le 8, 3) := by decide +kernel
theorem dX9_bestOf_108 : decode cX9_bestOf 108 = .ok (.iload 6, 2) := by decide +kernel
theorem dX9_bestOf_110 : decode cX9_bestOf 110 = .ok (.goto 5, 3) := by decide +kernel
theorem dX9_bestOf_113 : decode cX9_bestOf 113 = .ok (.iload 4, 2) := by decide +kernel
theorem dX9_bestOf_115 : decode cX9_bestOf 115 = .ok (.istore 4, 2) := by decide +kernel
theorem dX9_bestOf_117 : decode cX9_bestOf 117 = .ok (.iinc 5 1, 3) := by decide +kernel
theorem dX9_bestOf_120 : decode cX9_bestOf 120 = .ok (.goto (-112), 3) := by decide +kernel
theorem dX9_bestOf_123 : decode cX9_bestOf 123 = .ok (.iload_n 3, 1) := by decide +kernel
theorem dX9_bestOf_124 : decode cX9_bestOf 124 = .ok (.ireturn, 1) := by decide +kernel
theorem dX9_group_0 : decode cX9_group 0 = .ok (.aload_n 0, 1) := by decide +kernel
theorem dX9_group_1 : decode cX9_group 1 = .ok (.aload_n 0, 1) := by decide +kernel
theorem dX9_group_2 : decode cX9_group 2 = .ok (.iload_n 1, 1) := by decide +kernel
theorem dX9_group_3 : decode cX9_group 3 = .ok (.invokevirtual 193, 3) := by decide +kernel
theorem dX9_group_6 : decode cX9_group 6 = .ok (.ifCond .ne 12, 3) := by decide +kernel
theorem dX9_group_9 : decode cX9_group 9 = .ok (.iload_n 3, 1) := by decide +kernel
theorem dX9_group_10 : decode cX9_group 10 = .ok (.ifCond .lt 8, 3) := by decide +kernel
theorem dX9_group_13 : decode cX9_group 13 = .ok (.iload_n 3, 1) := by decide +kernel
theorem dX9_group_14 : decode cX9_group 14 = .ok (.iconst 2, 1) := by decide +kernel
theorem dX9_group_15 : decode cX9_group 15 = .ok (.if_icmp .le 7, 3) := by decide +kernel
theorem dX9_group_18 : decode cX9_group 18 = .ok (.iconst 1, 1) := by decide +kernel
theorem dX9_group_19 : decode cX9_group 19 = .ok (.goto 32, 3) := by decide +kernel
theorem dX9_group_22 : decode cX9_group 22 = .ok (.aload_n 0, 1) := by decide +kernel
theorem dX9_group_23 : decode cX9_group 23 = .ok (.getfield 114, 3) := by decide +kernel
theorem dX9_group_26 : decode cX9_group 26 = .ok (.ifCond .ne 7, 3) := by decide +kernel
theorem dX9_group_29 : decode cX9_group 29 = .ok (.iconst 2, 1) := by decide +kernel
theorem dX9_group_30 : decode cX9_group 30 = .ok (.goto 21, 3) := by decide +kernel
theorem dX9_group_33 : decode cX9_group 33 = .ok (.iload_n 2, 1) := by decide +kernel
theorem dX9_group_34 : decode cX9_group 34 = .ok (.ifCond .lt 12, 3) := by decide +kernel
theorem dX9_group_37 : decode cX9_group 37 = .ok (.iload_n 2, 1) := by decide +kernel
theorem dX9_group_38 : decode cX9_group 38 = .ok (.aload_n 0, 1) := by decide +kernel
theorem dX9_group_39 : decode cX9_group 39 = .ok (.iload_n 1, 1) := by decide +kernel
theorem dX9_group_40 : decode cX9_group 40 = .ok (.invokevirtual 196, 3) := by decide +kernel
theorem dX9_group_43 : decode cX9_group 43 = .ok (.if_icmp .lt 7, 3) := by decide +kernel
theorem dX9_group_46 : decode cX9_group 46 = .ok (.iconst 1, 1) := by decide +kernel
theorem dX9_group_47 : decode cX9_group 47 = .ok (.goto 4, 3) := by decide +kernel
theorem dX9_group_50 : decode cX9_group 50 = .ok (.iconst 0, 1) := by decide +kernel
theorem dX9_group_51 : decode cX9_group 51 = .ok (.putfield 66, 3) := by decide +kernel
theorem dX9_group_54 : decode cX9_group 54 = .ok (.aload_n 0, 1) := by decide +kernel
theorem dX9_group_55 : decode cX9_group 55 = .ok (.getfield 66, 3) := by decide +kernel
theorem dX9_group_58 : decode cX9_group 58 = .ok (.ifCond .le 5, 3) := by decide +kernel
theorem dX9_group_61 : decode cX9_group 61 = .ok (.iconst 0, 1) := by decide +kernel
theorem dX9_group_62 : decode cX9_group 62 = .ok (.ireturn, 1) := by decide +kernel
theorem dX9_group_63 : decode cX9_group 63 = .ok (.iload_n 3, 1) := by decide +kernel
theorem dX9_group_64 : decode cX9_group 64 = .ok (.iconst 1, 1) := by decide +kernel
theorem dX9_group_65 : decode cX9_group 65 = .ok (.if_icmp .ne 10, 3) := by decide +kernel
theorem dX9_group_68 : decode cX9_group 68 = .ok (.aload_n 0, 1) := by decide +kernel
theorem dX9_group_69 : decode cX9_group 69 = .ok (.iload_n 1, 1) := by decide +kernel
theorem dX9_group_70 : decode cX9_group 70 = .ok (.iload_n 2, 1) := by decide +kernel
theorem dX9_group_71 : decode cX9_group 71 = .ok (.invokevirtual 199, 3) := by decide +kernel
theorem dX9_group_74 : decode cX9_group 74 = .ok (.ireturn, 1) := by decide +kernel
theorem dX9_group_75 : decode cX9_group 75 = .ok (.iconst 0, 1) := by decide +kernel
theorem dX9_group_76 : decode cX9_group 76 = .ok (.istore 4, 2) := by decide +kernel
theorem dX9_group_78 : decode cX9_group 78 = .ok (.iconst 0, 1) := by decide +kernel
theorem dX9_group_79 : decode cX9_group 79 = .ok (.istore 5, 2) := by decide +kernel
theorem dX9_group_81 : decode cX9_group 81 = .ok (.iload 5, 2) := by decide +kernel
theorem dX9_group_83 : decode cX9_group 83 = .ok (.aload_n 0, 1) := by decide +kernel
theorem dX9_group_84 : decode cX9_group 84 = .ok (.getfield 63, 3) := by decide +kernel
theorem dX9_group_87 : decode cX9_group 87 = .ok (.if_icmp .ge 117, 3) := by decide +kernel
theorem dX9_group_90 : decode cX9_group 90 = .ok (.aload_n 0, 1) := by decide +kernel
theorem dX9_group_91 : decode cX9_group 91 = .ok (.getfield 41, 3) := by decide +kernel
theorem dX9_group_94 : decode cX9_group 94 = .ok (.iload 5, 2) := by decide +kernel
theorem dX9_group_96 : decode cX9_group 96 = .ok (.iaload, 1) := by decide +kernel
theorem dX9_group_97 : decode cX9_group 97 = .ok (.iload_n 1, 1) := by decide +kernel
theorem dX9_group_98 : decode cX9_group 98 = .ok (.if_icmp .ne 18, 3) := by decide +kernel
theorem dX9_group_101 : decode cX9_group 101 = .ok (.aload_n 0, 1) := by decide +kernel
theorem dX9_group_102 : decode cX9_group 102 = .ok (.getfield 54, 3) := by decide +kernel
theorem dX9_group_105 : decode cX9_group 105 = .ok (.iload 5, 2) := by decide +kernel
theorem dX9_group_107 : decode cX9_group 107 = .ok (.iaload, 1) := by decide +kernel
theorem dX9_group_108 : decode cX9_group 108 = .ok (.iload_n 2, 1) := by decide +kernel
theorem dX9_group_109 : decode cX9_group 109 = .ok (.if_icmp .ne 7, 3) := by decide +kernel
theorem dX9_group_112 : decode cX9_group 112 = .ok (.iconst 1, 1) := by decide +kernel
theorem dX9_group_113 : decode cX9_group 113 = .ok (.goto 4, 3) := by decide +kernel
theorem dX9_group_116 : decode cX9_group 116 = .ok (.iconst 0, 1) := by decide +kernel
theorem dX9_group_117 : decode cX9_group 117 = .ok (.istore 6, 2) := by decide +kernel
theorem dX9_group_119 : decode cX9_group 119 = .ok (.iconst 0, 1) := by decide +kernel
theorem dX9_group_120 : decode cX9_group 120 = .ok (.istore 7, 2) := by decide +kernel
theorem dX9_group_122 : decode cX9_group 122 = .ok (.iload 7, 2) := by decide +kernel
theorem dX9_group_124 : decode cX9_group 124 = .ok (.iload 5, 2) := by decide +kernel
theorem dX9_group_126 : decode cX9_group 126 = .ok (.if_icmp .ge 57, 3) := by decide +kernel
theorem dX9_group_129 : decode cX9_group 129 = .ok (.iload_n 3, 1) := by decide +kernel
theorem dX9_group_130 : decode cX9_group 130 = .ok (.iconst 2, 1) := by decide +kernel
theorem dX9_group_131 : decode cX9_group 131 = .ok (.if_icmp .ne 52, 3) := by decide +kernel
theorem dX9_group_134 : decode cX9_group 134 = .ok (.iload 6, 2) := by decide +kernel
theorem dX9_group_136 : decode cX9_group 136 = .ok (.aload_n 0, 1) := by decide +kernel
theorem dX9_group_137 : decode cX9_group 137 = .ok (.getfield 41, 3) := by decide +kernel
theorem dX9_group_140 : decode cX9_group 140 = .ok (.iload 7, 2) := by decide +kernel
theorem dX9_group_142 : decode cX9_group 142 = .ok (.iaload, 1) := by decide +kernel
theorem dX9_group_143 : decode cX9_group 143 = .ok (.iload_n 1, 1) := by decide +kernel
theorem dX9_group_144 : decode cX9_group 144 = .ok (.if_icmp .ne 25, 3) := by decide +kernel
theorem dX9_group_147 : decode cX9_group 147 = .ok (.aload_n 0, 1) := by decide +kernel
theorem dX9_group_148 : decode cX9_group 148 = .ok (.getfield 54, 3) := by decide +kernel
theorem dX9_group_151 : decode cX9_group 151 = .ok (.iload 7, 2) := by decide +kernel
theorem dX9_group_153 : decode cX9_group 153 = .ok (.iaload, 1) := by decide +kernel
theorem dX9_group_154 : decode cX9_group 154 = .ok (.iload_n 2, 1) := by decide +kernel
theorem dX9_group_155 : decode cX9_group 155 = .ok (.if_icmp .ne 14, 3) := by decide +kernel
theorem dX9_group_158 : decode cX9_group 158 = .ok (.aload_n 0, 1) := by decide +kernel
theorem dX9_group_159 : decode cX9_group 159 = .ok (.iload 5, 2) := by decide +kernel
theorem dX9_group_161 : decode cX9_group 161 = .ok (.iload 7, 2) := by decide +kernel
theorem dX9_group_163 : decode cX9_group 163 = .ok (.invokevirtual 156, 3) := by decide +kernel
theorem dX9_group_166 : decode cX9_group 166 = .ok (.ifCond .eq 7, 3) := by decide +kernel
theorem dX9_group_169 : decode cX9_group 169 = .ok (.iconst 1, 1) := by decide +kernel
theorem dX9_group_170 : decode cX9_group 170 = .ok (.goto 4, 3) := by decide +kernel
theorem dX9_group_173 : decode cX9_group 173 = .ok (.iconst 0, 1) := by decide +kernel
theorem dX9_group_174 : decode cX9_group 174 = .ok (.iand, 1) := by decide +kernel
theorem dX9_group_175 : decode cX9_group 175 = .ok (.istore 6, 2) := by decide +kernel
theorem dX9_group_177 : decode cX9_group 177 = .ok (.iinc 7 1, 3) := by decide +kernel
theorem dX9_group_180 : decode cX9_group 180 = .ok (.goto (-58), 3) := by decide +kernel
theorem dX9_group_183 : decode cX9_group 183 = .ok (.iload 4, 2) := by decide +kernel
theorem dX9_group_185 : decode cX9_group 185 = .ok (.iload 6, 2) := by decide +kernel
theorem dX9_group_187 : decode cX9_group 187 = .ok (.ifCond .eq 7, 3) := by decide +kernel
theorem dX9_group_190 : decode cX9_group 190 = .ok (.iconst 1, 1) := by decide +kernel
theorem dX9_group_191 : decode cX9_group 191 = .ok (.goto 4, 3) := by decide +kernel
theorem dX9_group_194 : decode cX9_group 194 = .ok (.iconst 0, 1) := by decide +kernel
theorem dX9_group_195 : decode cX9_group 195 = .ok (.iadd, 1) := by decide +kernel
theorem dX9_group_196 : decode cX9_group 196 = .ok (.istore 4, 2) := by decide +kernel
theorem dX9_group_198 : decode cX9_group 198 = .ok (.iinc 5 1, 3) := by decide +kernel
theorem dX9_group_201 : decode cX9_group 201 = .ok (.goto (-120), 3) := by decide +kernel
theorem dX9_group_204 : decode cX9_group 204 = .ok (.iload 4, 2) := by decide +kernel
theorem dX9_group_206 : decode cX9_group 206 = .ok (.ireturn, 1) := by decide +kernel
theorem dX9_put_0 : decode cX9_put 0 = .ok (.aload_n 0, 1) := by decide +kernel
theorem dX9_put_1 : decode cX9_put 1 = .ok (.getfield 202, 3) := by decide +kernel
theorem dX9_put_4 : decode cX9_put 4 = .ok (.sipush 12000, 3) := by decide +kernel
theorem dX9_put_7 : decode cX9_put 7 = .ok (.if_icmp .ge 13, 3) := by decide +kernel
theorem dX9_put_10 : decode cX9_put 10 = .ok (.aload_n 0, 1) := by decide +kernel
theorem dX9_put_11 : decode cX9_put 11 = .ok (.getfield 60, 3) := by decide +kernel
theorem dX9_put_14 : decode cX9_put 14 = .ok (.aload_n 0, 1) := by decide +kernel
theorem dX9_put_15 : decode cX9_put 15 = .ok (.getfield 202, 3) := by decide +kernel
theorem dX9_put_18 : decode cX9_put 18 = .ok (.iload_n 1, 1) := by decide +kernel
theorem dX9_put_19 : decode cX9_put 19 = .ok (.iastore, 1) := by decide +kernel
theorem dX9_put_20 : decode cX9_put 20 = .ok (.aload_n 0, 1) := by decide +kernel
theorem dX9_put_21 : decode cX9_put 21 = .ok (.dup, 1) := by decide +kernel
theorem dX9_put_22 : decode cX9_put 22 = .ok (.getfield 202, 3) := by decide +kernel
theorem dX9_put_25 : decode cX9_put 25 = .ok (.iconst 1, 1) := by decide +kernel
theorem dX9_put_26 : decode cX9_put 26 = .ok (.iadd, 1) := by decide +kernel
theorem dX9_put_27 : decode cX9_put 27 = .ok (.putfield 202, 3) := by decide +kernel
theorem dX9_put_30 : decode cX9_put 30 = .ok (.return_, 1) := by decide +kernel
theorem dX9_putRead_0 : decode cX9_putRead 0 = .ok (.aload_n 0, 1) := by decide +kernel
theorem dX9_putRead_1 : decode cX9_putRead 1 = .ok (.iload_n 1, 1) := by decide +kernel
theorem dX9_putRead_2 : decode cX9_putRead 2 = .ok (.ifCond .ne 8, 3) := by decide +kernel
theorem dX9_putRead_5 : decode cX9_putRead 5 = .ok (.bipush 64, 2) := by decide +kernel
theorem dX9_putRead_7 : decode cX9_putRead 7 = .ok (.goto 5, 3) := by decide +kernel
theorem dX9_putRead_10 : decode cX9_putRead 10 = .ok (.bipush 62, 2) := by decide +kernel
theorem dX9_putRead_12 : decode cX9_putRead 12 = .ok (.invokevirtual 205, 3) := by decide +kernel
theorem dX9_putRead_15 : decode cX9_putRead 15 = .ok (.iconst 0, 1) := by decide +kernel
theorem dX9_putRead_16 : decode cX9_putRead 16 = .ok (.istore 5, 2) := by decide +kernel
theorem dX9_putRead_18 : decode cX9_putRead 18 = .ok (.iload 5, 2) := by decide +kernel
theorem dX9_putRead_20 : decode cX9_putRead 20 = .ok (.aload_n 0, 1) := by decide +kernel
theorem dX9_putRead_21 : decode cX9_putRead 21 = .ok (.getfield 17, 3) := by decide +kernel
theorem dX9_putRead_24 : decode cX9_putRead 24 = .ok (.iload_n 2, 1) := by decide +kernel
theorem dX9_putRead_25 : decode cX9_putRead 25 = .ok (.iaload, 1) := by decide +kernel
theorem dX9_putRead_26 : decode cX9_putRead 26 = .ok (.if_icmp .ge 25, 3) := by decide +kernel
theorem dX9_putRead_29 : decode cX9_putRead 29 = .ok (.aload_n 0, 1) := by decide +kernel
theorem dX9_putRead_30 : decode cX9_putRead 30 = .ok (.aload_n 0, 1) := by decide +kernel
theorem dX9_putRead_31 : decode cX9_putRead 31 = .ok (.getfield 20, 3) := by decide +kernel
theorem dX9_putRead_34 : decode cX9_putRead 34 = .ok (.bipush 40, 2) := by decide +kernel
theorem dX9_putRead_36 : decode cX9_putRead 36 = .ok (.iload_n 2, 1) := by decide +kernel
theorem dX9_putRead_37 : decode cX9_putRead 37 = .ok (.imul, 1) := by decide +kernel
theorem dX9_putRead_38 : decode cX9_putRead 38 = .ok (.iload 5, 2) := by decide +kernel
theorem dX9_putRead_40 : decode cX9_putRead 40 = .ok (.iadd, 1) := by decide +kernel
theorem dX9_putRead_41 : decode cX9_putRead 41 = .ok (.iaload, 1) := by decide +kernel
theorem dX9_putRead_42 : decode cX9_putRead 42 = .ok (.invokevirtual 205, 3) := by decide +kernel
theorem dX9_putRead_45 : decode cX9_putRead 45 = .ok (.iinc 5 1, 3) := by decide +kernel
theorem dX9_putRead_48 : decode cX9_putRead 48 = .ok (.goto (-30), 3) := by decide +kernel
theorem dX9_putRead_51 : decode cX9_putRead 51 = .ok (.aload_n 0, 1) := by decide +kernel
theorem dX9_putRead_52 : decode cX9_putRead 52 = .ok (.bipush 10, 2) := by decide +kernel
theorem dX9_putRead_54 : decode cX9_putRead 54 = .ok (.invokevirtual 205, 3) := by decide +kernel
theorem dX9_putRead_57 : decode cX9_putRead 57 = .ok (.iload_n 3, 1) := by decide +kernel
theorem dX9_putRead_58 : decode cX9_putRead 58 = .ok (.istore 5, 2) := by decide +kernel
theorem dX9_putRead_60 : decode cX9_putRead 60 = .ok (.iload 5, 2) := by decide +kernel
theorem dX9_putRead_62 : decode cX9_putRead 62 = .ok (.iload 4, 2) := by decide +kernel
theorem dX9_putRead_64 : decode cX9_putRead 64 = .ok (.if_icmp .ge 57, 3) := by decide +kernel
theorem dX9_putRead_67 : decode cX9_putRead 67 = .ok (.aload_n 0, 1) := by decide +kernel
theorem dX9_putRead_68 : decode cX9_putRead 68 = .ok (.aload_n 0, 1) := by decide +kernel
theorem dX9_putRead_69 : decode cX9_putRead 69 = .ok (.getfield 26, 3) := by decide +kernel
theorem dX9_putRead_72 : decode cX9_putRead 72 = .ok (.bipush 120, 2) := by decide +kernel
theorem dX9_putRead_74 : decode cX9_putRead 74 = .ok (.iload_n 2, 1) := by decide +kernel
theorem dX9_putRead_75 : decode cX9_putRead 75 = .ok (.imul, 1) := by decide +kernel
theorem dX9_putRead_76 : decode cX9_putRead 76 = .ok (.iload 5, 2) := by decide +kernel
theorem dX9_putRead_78 : decode cX9_putRead 78 = .ok (.iadd, 1) := by decide +kernel
theorem dX9_putRead_79 : decode cX9_putRead 79 = .ok (.iaload, 1) := by decide +kernel
theorem dX9_putRead_80 : decode cX9_putRead 80 = .ok (.invokevirtual 205, 3) := by decide +kernel
theorem dX9_putRead_83 : decode cX9_putRead 83 = .ok (.iload_n 1, 1) := by decide +kernel
theorem dX9_putRead_84 : decode cX9_putRead 84 = .ok (.iconst 1, 1) := by decide +kernel
theorem dX9_putRead_85 : decode cX9_putRead 85 = .ok (.if_icmp .ne 30, 3) := by decide +kernel
theorem dX9_putRead_88 : decode cX9_putRead 88 = .ok (.iload 5, 2) := by decide +kernel
theorem dX9_putRead_90 : decode cX9_putRead 90 = .ok (.iload_n 3, 1) := by decide +kernel
theorem dX9_putRead_91 : decode cX9_putRead 91 = .ok (.isub, 1) := by decide +kernel
theorem dX9_putRead_92 : decode cX9_putRead 92 = .ok (.bipush 60, 2) := by decide +kernel
theorem dX9_putRead_94 : decode cX9_putRead 94 = .ok (.irem, 1) := by decide +kernel
theorem dX9_putRead_95 : decode cX9_putRead 95 = .ok (.bipush 59, 2) := by decide +kernel
theorem dX9_putRead_97 : decode cX9_putRead 97 = .ok (.if_icmp .ne 18, 3) := by decide +kernel
theorem dX9_putRead_100 : decode cX9_putRead 100 = .ok (.iload 5, 2) := by decide +kernel
theorem dX9_putRead_102 : decode cX9_putRead 102 = .ok (.iconst 1, 1) := by decide +kernel
theorem dX9_putRead_103 : decode cX9_putRead 103 = .ok (.iadd, 1) := by decide +kernel
theorem dX9_putRead_104 : decode cX9_putRead 104 = .ok (.iload 4, 2) := by decide +kernel
theorem dX9_putRead_106 : decode cX9_putRead 106 = .ok (.if_icmp .ge 9, 3) := by decide +kernel
theorem dX9_putRead_109 : decode cX9_putRead 109 = .ok (.aload_n 0, 1) := by decide +kernel
theorem dX9_putRead_110 : decode cX9_putRead 110 = .ok (.bipush 10, 2) := by decide +kernel
theorem dX9_putRead_112 : decode cX9_putRead 112 = .ok (.invokevirtual 205, 3) := by decide +kernel
theorem dX9_putRead_115 : decode cX9_putRead 115 = .ok (.iinc 5 1, 3) := by decide +kernel
theorem dX9_putRead_118 : decode cX9_putRead 118 = .ok (.goto (-58), 3) := by decide +kernel
theorem dX9_putRead_121 : decode cX9_putRead 121 = .ok (.aload_n 0, 1) := by decide +kernel
theorem dX9_putRead_122 : decode cX9_putRead 122 = .ok (.bipush 10, 2) := by decide +kernel
theorem dX9_putRead_124 : decode cX9_putRead 124 = .ok (.invokevirtual 205, 3) := by decide +kernel
theorem dX9_putRead_127 : decode cX9_putRead 127 = .ok (.iload_n 1, 1) := by decide +kernel
theorem dX9_putRead_128 : decode cX9_putRead 128 = .ok (.ifCond .ne 56, 3) := by decide +kernel
theorem dX9_putRead_131 : decode cX9_putRead 131 = .ok (.aload_n 0, 1) := by decide +kernel
theorem dX9_putRead_132 : decode cX9_putRead 132 = .ok (.bipush 43, 2) := by decide +kernel
theorem dX9_putRead_134 : decode cX9_putRead 134 = .ok (.invokevirtual 205, 3) := by decide +kernel
theorem dX9_putRead_137 : decode cX9_putRead 137 = .ok (.aload_n 0, 1) := by decide +kernel
theorem dX9_putRead_138 : decode cX9_putRead 138 = .ok (.bipush 10, 2) := by decide +kernel
theorem dX9_putRead_140 : decode cX9_putRead 140 = .ok (.invokevirtual 205, 3) := by decide +kernel
theorem dX9_putRead_143 : decode cX9_putRead 143 = .ok (.iload_n 3, 1) := by decide +kernel
theorem dX9_putRead_144 : decode cX9_putRead 144 = .ok (.istore 5, 2) := by decide +kernel
theorem dX9_putRead_146 : decode cX9_putRead 146 = .ok (.iload 5, 2) := by decide +kernel
theorem dX9_putRead_148 : decode cX9_putRead 148 = .ok (.iload 4, 2) := by decide +kernel
theorem dX9_putRead_150 : decode cX9_putRead 150 = .ok (.if_icmp .ge 28, 3) := by decide +kernel
theorem dX9_putRead_153 : decode cX9_putRead 153 = .ok (.aload_n 0, 1) := by decide +kernel
theorem dX9_putRead_154 : decode cX9_putRead 154 = .ok (.bipush 33, 2) := by decide +kernel
theorem dX9_putRead_156 : decode cX9_putRead 156 = .ok (.aload_n 0, 1) := by decide +kernel
theorem dX9_putRead_157 : decode cX9_putRead 157 = .ok (.getfield 29, 3) := by decide +kernel
theorem dX9_putRead_160 : decode cX9_putRead 160 = .ok (.bipush 120, 2) := by decide +kernel
theorem dX9_putRead_162 : decode cX9_putRead 162 = .ok (.iload_n 2, 1) := by decide +kernel
theorem dX9_putRead_163 : decode cX9_putRead 163 = .ok (.imul, 1) := by decide +kernel
theorem dX9_putRead_164 : decode cX9_putRead 164 = .ok (.iload 5, 2) := by decide +kernel
theorem dX9_putRead_166 : decode cX9_putRead 166 = .ok (.iadd, 1) := by decide +kernel
theorem dX9_putRead_167 : decode cX9_putRead 167 = .ok (.iaload, 1) := by decide +kernel
theorem dX9_putRead_168 : decode cX9_putRead 168 = .ok (.iadd, 1) := by decide +kernel
theorem dX9_putRead_169 : decode cX9_putRead 169 = .ok (.invokevirtual 205, 3) := by decide +kernel
theorem dX9_putRead_172 : decode cX9_putRead 172 = .ok (.iinc 5 1, 3) := by decide +kernel
theorem dX9_putRead_175 : decode cX9_putRead 175 = .ok (.goto (-29), 3) := by decide +kernel
theorem dX9_putRead_178 : decode cX9_putRead 178 = .ok (.aload_n 0, 1) := by decide +kernel
theorem dX9_putRead_179 : decode cX9_putRead 179 = .ok (.bipush 10, 2) := by decide +kernel
theorem dX9_putRead_181 : decode cX9_putRead 181 = .ok (.invokevirtual 205, 3) := by decide +kernel
theorem dX9_putRead_184 : decode cX9_putRead 184 = .ok (.return_, 1) := by decide +kernel
theorem dX9_write_0 : decode cX9_write 0 = .ok (.aload_n 0, 1) := by decide +kernel
theorem dX9_write_1 : decode cX9_write 1 = .ok (.iload_n 1, 1) := by decide +kernel
theorem dX9_write_2 : decode cX9_write 2 = .ok (.ifCond .lt 8, 3) := by decide +kernel
theorem dX9_write_5 : decode cX9_write 5 = .ok (.iload_n 1, 1) := by decide +kernel
theorem dX9_write_6 : decode cX9_write 6 = .ok (.iconst 1, 1) := by decide +kernel
theorem dX9_write_7 : decode cX9_write 7 = .ok (.if_icmp .le 7, 3) := by decide +kernel
theorem dX9_write_10 : decode cX9_write 10 = .ok (.iconst 1, 1) := by decide +kernel
theorem dX9_write_11 : decode cX9_write 11 = .ok (.goto 39, 3) := by decide +kernel
theorem dX9_write_14 : decode cX9_write 14 = .ok (.iload_n 2, 1) := by decide +kernel
theorem dX9_write_15 : decode cX9_write 15 = .ok (.bipush (-2), 2) := by decide +kernel
theorem dX9_write_17 : decode cX9_write 17 = .ok (.if_icmp .eq 15, 3) := by decide +kernel
theorem dX9_write_20 : decode cX9_write 20 = .ok (.aload_n 0, 1) := by decide +kernel
theorem dX9_write_21 : decode cX9_write 21 = .ok (.iload_n 2, 1) := by decide +kernel
theorem dX9_write_22 : decode cX9_write 22 = .ok (.invokevirtual 193, 3) := by decide +kernel
theorem dX9_write_25 : decode cX9_write 25 = .ok (.ifCond .eq 7, 3) := by decide +kernel
theorem dX9_write_28 : decode cX9_write 28 = .ok (.iconst 2, 1) := by decide +kernel
theorem dX9_write_29 : decode cX9_write 29 = .ok (.goto 21, 3) := by decide +kernel
theorem dX9_write_32 : decode cX9_write 32 = .ok (.iload_n 2, 1) := by decide +kernel
theorem dX9_write_33 : decode cX9_write 33 = .ok (.bipush (-2), 2) := by decide +kernel
theorem dX9_write_35 : decode cX9_write 35 = .ok (.if_icmp .eq 14, 3) := by decide +kernel
theorem dX9_write_38 : decode cX9_write 38 = .ok (.aload_n 0, 1) := by decide +kernel
theorem dX9_write_39 : decode cX9_write 39 = .ok (.getfield 114, 3) := by decide +kernel
theorem dX9_write_42 : decode cX9_write 42 = .ok (.ifCond .ne 7, 3) := by decide +kernel
theorem dX9_write_45 : decode cX9_write 45 = .ok (.iconst 3, 1) := by decide +kernel
theorem dX9_write_46 : decode cX9_write 46 = .ok (.goto 4, 3) := by decide +kernel
theorem dX9_write_49 : decode cX9_write 49 = .ok (.iconst 0, 1) := by decide +kernel
theorem dX9_write_50 : decode cX9_write 50 = .ok (.putfield 66, 3) := by decide +kernel
theorem dX9_write_53 : decode cX9_write 53 = .ok (.aload_n 0, 1) := by decide +kernel
theorem dX9_write_54 : decode cX9_write 54 = .ok (.getfield 66, 3) := by decide +kernel
theorem dX9_write_57 : decode cX9_write 57 = .ok (.ifCond .le 5, 3) := by decide +kernel
theorem dX9_write_60 : decode cX9_write 60 = .ok (.iconst 0, 1) := by decide +kernel
theorem dX9_write_61 : decode cX9_write 61 = .ok (.ireturn, 1) := by decide +kernel
theorem dX9_write_62 : decode cX9_write 62 = .ok (.aload_n 0, 1) := by decide +kernel
theorem dX9_write_63 : decode cX9_write 63 = .ok (.iconst 0, 1) := by decide +kernel
theorem dX9_write_64 : decode cX9_write 64 = .ok (.putfield 202, 3) := by decide +kernel
theorem dX9_write_67 : decode cX9_write 67 = .ok (.iconst 0, 1) := by decide +kernel
theorem dX9_write_68 : decode cX9_write 68 = .ok (.istore 4, 2) := by decide +kernel
theorem dX9_write_70 : decode cX9_write 70 = .ok (.iload 4, 2) := by decide +kernel
theorem dX9_write_72 : decode cX9_write 72 = .ok (.aload_n 0, 1) := by decide +kernel
theorem dX9_write_73 : decode cX9_write 73 = .ok (.getfield 63, 3) := by decide +kernel
theorem dX9_write_76 : decode cX9_write 76 = .ok (.if_icmp .ge 124, 3) := by decide +kernel
theorem dX9_write_79 : decode cX9_write 79 = .ok (.iload_n 2, 1) := by decide +kernel
theorem dX9_write_80 : decode cX9_write 80 = .ok (.bipush (-2), 2) := by decide +kernel
theorem dX9_write_82 : decode cX9_write 82 = .ok (.if_icmp .ne 21, 3) := by decide +kernel
theorem dX9_write_85 : decode cX9_write 85 = .ok (.aload_n 0, 1) := by decide +kernel
theorem dX9_write_86 : decode cX9_write 86 = .ok (.iload_n 1, 1) := by decide +kernel
theorem dX9_write_87 : decode cX9_write 87 = .ok (.iload 4, 2) := by decide +kernel
theorem dX9_write_89 : decode cX9_write 89 = .ok (.iconst 0, 1) := by decide +kernel
theorem dX9_write_90 : decode cX9_write 90 = .ok (.aload_n 0, 1) := by decide +kernel
theorem dX9_write_91 : decode cX9_write 91 = .ok (.getfield 23, 3) := by decide +kernel
theorem dX9_write_94 : decode cX9_write 94 = .ok (.iload 4, 2) := by decide +kernel
theorem dX9_write_96 : decode cX9_write 96 = .ok (.iaload, 1) := by decide +kernel
theorem dX9_write_97 : decode cX9_write 97 = .ok (.invokevirtual 208, 3) := by decide +kernel
theorem dX9_write_100 : decode cX9_write 100 = .ok (.goto 94, 3) := by decide +kernel
theorem dX9_write_103 : decode cX9_write 103 = .ok (.aload_n 0, 1) := by decide +kernel
theorem dX9_write_104 : decode cX9_write 104 = .ok (.iload 4, 2) := by decide +kernel
theorem dX9_write_106 : decode cX9_write 106 = .ok (.iload_n 2, 1) := by decide +kernel
theorem dX9_write_107 : decode cX9_write 107 = .ok (.invokevirtual 153, 3) := by decide +kernel
theorem dX9_write_110 : decode cX9_write 110 = .ok (.ifCond .eq 24, 3) := by decide +kernel
theorem dX9_write_113 : decode cX9_write 113 = .ok (.aload_n 0, 1) := by decide +kernel
theorem dX9_write_114 : decode cX9_write 114 = .ok (.getfield 44, 3) := by decide +kernel
theorem dX9_write_117 : decode cX9_write 117 = .ok (.iload 4, 2) := by decide +kernel
theorem dX9_write_119 : decode cX9_write 119 = .ok (.iaload, 1) := by decide +kernel
theorem dX9_write_120 : decode cX9_write 120 = .ok (.aload_n 0, 1) := by decide +kernel
theorem dX9_write_121 : decode cX9_write 121 = .ok (.getfield 47, 3) := by decide +kernel
theorem dX9_write_124 : decode cX9_write 124 = .ok (.iload 4, 2) := by decide +kernel
theorem dX9_write_126 : decode cX9_write 126 = .ok (.iaload, 1) := by decide +kernel
theorem dX9_write_127 : decode cX9_write 127 = .ok (.if_icmp .ge 7, 3) := by decide +kernel
theorem dX9_write_130 : decode cX9_write 130 = .ok (.iconst 1, 1) := by decide +kernel
theorem dX9_write_131 : decode cX9_write 131 = .ok (.goto 4, 3) := by decide +kernel
theorem dX9_write_134 : decode cX9_write 134 = .ok (.iconst 0, 1) := by decide +kernel
theorem dX9_write_135 : decode cX9_write 135 = .ok (.istore 5, 2) := by decide +kernel
theorem dX9_write_137 : decode cX9_write 137 = .ok (.iload 5, 2) := by decide +kernel
theorem dX9_write_139 : decode cX9_write 139 = .ok (.ifCond .eq 55, 3) := by decide +kernel
theorem dX9_write_142 : decode cX9_write 142 = .ok (.iload_n 3, 1) := by decide +kernel
theorem dX9_write_143 : decode cX9_write 143 = .ok (.ifCond .eq 30, 3) := by decide +kernel
theorem dX9_write_146 : decode cX9_write 146 = .ok (.aload_n 0, 1) := by decide +kernel
theorem dX9_write_147 : decode cX9_write 147 = .ok (.getfield 54, 3) := by decide +kernel
theorem dX9_write_150 : decode cX9_write 150 = .ok (.iload 4, 2) := by decide +kernel
theorem dX9_write_152 : decode cX9_write 152 = .ok (.iaload, 1) := by decide +kernel
theorem dX9_write_153 : decode cX9_write 153 = .ok (.ifCond .lt 41, 3) := by decide +kernel
theorem dX9_write_156 : decode cX9_write 156 = .ok (.aload_n 0, 1) := by decide +kernel
theorem dX9_write_157 : decode cX9_write 157 = .ok (.iload_n 2, 1) := by decide +kernel
theorem dX9_write_158 : decode cX9_write 158 = .ok (.aload_n 0, 1) := by decide +kernel
theorem dX9_write_159 : decode cX9_write 159 = .ok (.getfield 54, 3) := by decide +kernel
theorem dX9_write_162 : decode cX9_write 162 = .ok (.iload 4, 2) := by decide +kernel
theorem dX9_write_164 : decode cX9_write 164 = .ok (.iaload, 1) := by decide +kernel
theorem dX9_write_165 : decode cX9_write 165 = .ok (.invokevirtual 199, 3) := by decide +kernel
theorem dX9_write_168 : decode cX9_write 168 = .ok (.iload 4, 2) := by decide +kernel
theorem dX9_write_170 : decode cX9_write 170 = .ok (.if_icmp .ne 24, 3) := by decide +kernel
theorem dX9_write_173 : decode cX9_write 173 = .ok (.aload_n 0, 1) := by decide +kernel
theorem dX9_write_174 : decode cX9_write 174 = .ok (.iload_n 1, 1) := by decide +kernel
theorem dX9_write_175 : decode cX9_write 175 = .ok (.iload 4, 2) := by decide +kernel
theorem dX9_write_177 : decode cX9_write 177 = .ok (.aload_n 0, 1) := by decide +kernel
theorem dX9_write_178 : decode cX9_write 178 = .ok (.getfield 44, 3) := by decide +kernel
theorem dX9_write_181 : decode cX9_write 181 = .ok (.iload 4, 2) := by decide +kernel
theorem dX9_write_183 : decode cX9_write 183 = .ok (.iaload, 1) := by decide +kernel
theorem dX9_write_184 : decode cX9_write 184 = .ok (.aload_n 0, 1) := by decide +kernel
theorem dX9_write_185 : decode cX9_write 185 = .ok (.getfield 47, 3) := by decide +kernel
theorem dX9_write_188 : decode cX9_write 188 = .ok (.iload 4, 2) := by decide +kernel
theorem dX9_write_190 : decode cX9_write 190 = .ok (.iaload, 1) := by decide +kernel
theorem dX9_write_191 : decode cX9_write 191 = .ok (.invokevirtual 208, 3) := by decide +kernel
theorem dX9_write_194 : decode cX9_write 194 = .ok (.iinc 4 1, 3) := by decide +kernel
theorem dX9_write_197 : decode cX9_write 197 = .ok (.goto (-127), 3) := by decide +kernel
theorem dX9_write_200 : decode cX9_write 200 = .ok (.aload_n 0, 1) := by decide +kernel
theorem dX9_write_201 : decode cX9_write 201 = .ok (.getfield 202, 3) := by decide +kernel
theorem dX9_write_204 : decode cX9_write 204 = .ok (.sipush 12000, 3) := by decide +kernel
theorem dX9_write_207 : decode cX9_write 207 = .ok (.if_icmp .le 5, 3) := by decide +kernel
theorem dX9_write_210 : decode cX9_write 210 = .ok (.iconst (-1), 1) := by decide +kernel
theorem dX9_write_211 : decode cX9_write 211 = .ok (.ireturn, 1) := by decide +kernel
theorem dX9_write_212 : decode cX9_write 212 = .ok (.iconst 0, 1) := by decide +kernel
theorem dX9_write_213 : decode cX9_write 213 = .ok (.istore 4, 2) := by decide +kernel
theorem dX9_write_215 : decode cX9_write 215 = .ok (.iload 4, 2) := by decide +kernel
theorem dX9_write_217 : decode cX9_write 217 = .ok (.aload_n 0, 1) := by decide +kernel
theorem dX9_write_218 : decode cX9_write 218 = .ok (.getfield 202, 3) := by decide +kernel
theorem dX9_write_221 : decode cX9_write 221 = .ok (.if_icmp .ge 23, 3) := by decide +kernel
theorem dX9_write_224 : decode cX9_write 224 = .ok (.aload_n 0, 1) := by decide +kernel
theorem dX9_write_225 : decode cX9_write 225 = .ok (.getfield 57, 3) := by decide +kernel
theorem dX9_write_228 : decode cX9_write 228 = .ok (.iload 4, 2) := by decide +kernel
theorem dX9_write_230 : decode cX9_write 230 = .ok (.aload_n 0, 1) := by decide +kernel
theorem dX9_write_231 : decode cX9_write 231 = .ok (.getfield 60, 3) := by decide +kernel
theorem dX9_write_234 : decode cX9_write 234 = .ok (.iload 4, 2) := by decide +kernel
theorem dX9_write_236 : decode cX9_write 236 = .ok (.iaload, 1) := by decide +kernel
theorem dX9_write_237 : decode cX9_write 237 = .ok (.iastore, 1) := by decide +kernel
theorem dX9_write_238 : decode cX9_write 238 = .ok (.iinc 4 1, 3) := by decide +kernel
theorem dX9_write_241 : decode cX9_write 241 = .ok (.goto (-26), 3) := by decide +kernel
theorem dX9_write_244 : decode cX9_write 244 = .ok (.aload_n 0, 1) := by decide +kernel
theorem dX9_write_245 : decode cX9_write 245 = .ok (.aload_n 0, 1) := by decide +kernel
theorem dX9_write_246 : decode cX9_write 246 = .ok (.getfield 202, 3) := by decide +kernel
theorem dX9_write_249 : decode cX9_write 249 = .ok (.putfield 212, 3) := by decide +kernel
theorem dX9_write_252 : decode cX9_write 252 = .ok (.aload_n 0, 1) := by decide +kernel
theorem dX9_write_253 : decode cX9_write 253 = .ok (.getfield 212, 3) := by decide +kernel
theorem dX9_write_256 : decode cX9_write 256 = .ok (.ireturn, 1) := by decide +kernel
theorem dX9_out_0 : decode cX9_out 0 = .ok (.aload_n 0, 1) := by decide +kernel
theorem dX9_out_1 : decode cX9_out 1 = .ok (.iload_n 1, 1) := by decide +kernel
theorem dX9_out_2 : decode cX9_out 2 = .ok (.ifCond .lt 11, 3) := by decide +kernel
theorem dX9_out_5 : decode cX9_out 5 = .ok (.iload_n 1, 1) := by decide +kernel
theorem dX9_out_6 : decode cX9_out 6 = .ok (.aload_n 0, 1) := by decide +kernel
theorem dX9_out_7 : decode cX9_out 7 = .ok (.getfield 212, 3) := by decide +kernel
theorem dX9_out_10 : decode cX9_out 10 = .ok (.if_icmp .lt 7, 3) := by decide +kernel
theorem dX9_out_13 : decode cX9_out 13 = .ok (.iconst 1, 1) := by decide +kernel
theorem dX9_out_14 : decode cX9_out 14 = .ok (.goto 4, 3) := by decide +kernel
theorem dX9_out_17 : decode cX9_out 17 = .ok (.iconst 0, 1) := by decide +kernel
theorem dX9_out_18 : decode cX9_out 18 = .ok (.putfield 66, 3) := by decide +kernel
theorem dX9_out_21 : decode cX9_out 21 = .ok (.aload_n 0, 1) := by decide +kernel
theorem dX9_out_22 : decode cX9_out 22 = .ok (.getfield 66, 3) := by decide +kernel
theorem dX9_out_25 : decode cX9_out 25 = .ok (.ifCond .le 7, 3) := by decide +kernel
theorem dX9_out_28 : decode cX9_out 28 = .ok (.iconst 0, 1) := by decide +kernel
theorem dX9_out_29 : decode cX9_out 29 = .ok (.goto 9, 3) := by decide +kernel
theorem dX9_out_32 : decode cX9_out 32 = .ok (.aload_n 0, 1) := by decide +kernel
theorem dX9_out_33 : decode cX9_out 33 = .ok (.getfield 57, 3) := by decide +kernel
theorem dX9_out_36 : decode cX9_out 36 = .ok (.iload_n 1, 1) := by decide +kernel
theorem dX9_out_37 : decode cX9_out 37 = .ok (.iaload, 1) := by decide +kernel
theorem dX9_out_38 : decode cX9_out 38 = .ok (.ireturn, 1) := by decide +kernel
theorem dX9_again_0 : decode cX9_again 0 = .ok (.aload_n 0, 1) := by decide +kernel
theorem dX9_again_1 : decode cX9_again 1 = .ok (.iconst 0, 1) := by decide +kernel
theorem dX9_again_2 : decode cX9_again 2 = .ok (.putfield 66, 3) := by decide +kernel
theorem dX9_again_5 : decode cX9_again 5 = .ok (.aload_n 0, 1) := by decide +kernel
theorem dX9_again_6 : decode cX9_again 6 = .ok (.getfield 212, 3) := by decide +kernel
theorem dX9_again_9 : decode cX9_again 9 = .ok (.sipush 6000, 3) := by decide +kernel
theorem dX9_again_12 : decode cX9_again 12 = .ok (.if_icmp .le 5, 3) := by decide +kernel
theorem dX9_again_15 : decode cX9_again 15 = .ok (.iconst (-1), 1) := by decide +kernel
theorem dX9_again_16 : decode cX9_again 16 = .ok (.ireturn, 1) := by decide +kernel
theorem dX9_again_17 : decode cX9_again 17 = .ok (.iconst 0, 1) := by decide +kernel
theorem dX9_again_18 : decode cX9_again 18 = .ok (.istore_n 1, 1) := by decide +kernel
theorem dX9_again_19 : decode cX9_again 19 = .ok (.iload_n 1, 1) := by decide +kernel
theorem dX9_again_20 : decode cX9_again 20 = .ok (.aload_n 0, 1) := by decide +kernel
theorem dX9_again_21 : decode cX9_again 21 = .ok (.getfield 212, 3) := by decide +kernel
theorem dX9_again_24 : decode cX9_again 24 = .ok (.if_icmp .ge 21, 3) := by decide +kernel
theorem dX9_again_27 : decode cX9_again 27 = .ok (.aload_n 0, 1) := by decide +kernel
theorem dX9_again_28 : decode cX9_again 28 = .ok (.getfield 7, 3) := by decide +kernel
theorem dX9_again_31 : decode cX9_again 31 = .ok (.iload_n 1, 1) := by decide +kernel
theorem dX9_again_32 : decode cX9_again 32 = .ok (.aload_n 0, 1) := by decide +kernel
theorem dX9_again_33 : decode cX9_again 33 = .ok (.getfield 57, 3) := by decide +kernel
theorem dX9_again_36 : decode cX9_again 36 = .ok (.iload_n 1, 1) := by decide +kernel
theorem dX9_again_37 : decode cX9_again 37 = .ok (.iaload, 1) := by decide +kernel
theorem dX9_again_38 : decode cX9_again 38 = .ok (.iastore, 1) := by decide +kernel
theorem dX9_again_39 : decode cX9_again 39 = .ok (.iinc 1 1, 3) := by decide +kernel
theorem dX9_again_42 : decode cX9_again 42 = .ok (.goto (-23), 3) := by decide +kernel
theorem dX9_again_45 : decode cX9_again 45 = .ok (.aload_n 0, 1) := by decide +kernel
theorem dX9_again_46 : decode cX9_again 46 = .ok (.aload_n 0, 1) := by decide +kernel
theorem dX9_again_47 : decode cX9_again 47 = .ok (.getfield 212, 3) := by decide +kernel
theorem dX9_again_50 : decode cX9_again 50 = .ok (.putfield 69, 3) := by decide +kernel
theorem dX9_again_53 : decode cX9_again 53 = .ok (.aload_n 0, 1) := by decide +kernel
theorem dX9_again_54 : decode cX9_again 54 = .ok (.getfield 69, 3) := by decide +kernel
theorem dX9_again_57 : decode cX9_again 57 = .ok (.ireturn, 1) := by decide +kernel
end
section
theorem dJ9_max_7cf53_0 : decode cJ9_max_7cf53 0 = .ok (.iload_n 0, 1) := by decide +kernel
theorem dJ9_max_7cf53_1 : decode cJ9_max_7cf53 1 = .ok (.iload_n 1, 1) := by decide +kernel
theorem dJ9_max_7cf53_2 : decode cJ9_max_7cf53 2 = .ok (.if_icmp .lt 7, 3) := by decide +kernel
theorem dJ9_max_7cf53_5 : decode cJ9_max_7cf53 5 = .ok (.iload_n 0, 1) := by decide +kernel
theorem dJ9_max_7cf53_6 : decode cJ9_max_7cf53 6 = .ok (.goto 4, 3) := by decide +kernel
theorem dJ9_max_7cf53_9 : decode cJ9_max_7cf53 9 = .ok (.iload_n 1, 1) := by decide +kernel
theorem dJ9_max_7cf53_10 : decode cJ9_max_7cf53 10 = .ok (.ireturn, 1) := by decide +kernel
theorem dJ9_min_7cf53_0 : decode cJ9_min_7cf53 0 = .ok (.iload_n 0, 1) := by decide +kernel
theorem dJ9_min_7cf53_1 : decode cJ9_min_7cf53 1 = .ok (.iload_n 1, 1) := by decide +kernel
theorem dJ9_min_7cf53_2 : decode cJ9_min_7cf53 2 = .ok (.if_icmp .gt 7, 3) := by decide +kernel
theorem dJ9_min_7cf53_5 : decode cJ9_min_7cf53 5 = .ok (.iload_n 0, 1) := by decide +kernel
theorem dJ9_min_7cf53_6 : decode cJ9_min_7cf53 6 = .ok (.goto 4, 3) := by decide +kernel
theorem dJ9_min_7cf53_9 : decode cJ9_min_7cf53 9 = .ok (.iload_n 1, 1) := by decide +kernel
theorem dJ9_min_7cf53_10 : decode cJ9_min_7cf53 10 = .ok (.ireturn, 1) := by decide +kernel
theorem dL_feed_0 : decode cL_feed 0 = .ok (.aload 4, 2) := by decide +kernel
theorem dL_feed_2 : decode cL_feed 2 = .ok (.iconst 0, 1) := by decide +kernel
theorem dL_feed_3 : decode cL_feed 3 = .ok (.aload_n 0, 1) := by decide +kernel
theorem dL_feed_4 : decode cL_feed 4 = .ok (.iload_n 1, 1) := by decide +kernel
theorem dL_feed_5 : decode cL_feed 5 = .ok (.lload_n 2, 1) := by decide +kernel
theorem dL_feed_6 : decode cL_feed 6 = .ok (.invokevirtual 7, 3) := by decide +kernel
theorem dL_feed_9 : decode cL_feed 9 = .ok (.i2l, 1) := by decide +kernel
theorem dL_feed_10 : decode cL_feed 10 = .ok (.lastore, 1) := by decide +kernel
theorem dL_feed_11 : decode cL_feed 11 = .ok (.goto 7, 3) := by decide +kernel
theorem dL_feed_14 : decode cL_feed 14 = .ok (.astore 5, 2) := by decide +kernel
theorem dL_feed_16 : decode cL_feed 16 = .ok (.iconst 1, 1) := by decide +kernel
theorem dL_feed_17 : decode cL_feed 17 = .ok (.ireturn, 1) := by decide +kernel
theorem dL_feed_18 : decode cL_feed 18 = .ok (.iconst 0, 1) := by decide +kernel
theorem dL_feed_19 : decode cL_feed 19 = .ok (.ireturn, 1) := by decide +kernel
theorem dL_read_0 : decode cL_read 0 = .ok (.aload_n 2, 1) := by decide +kernel
theorem dL_read_1 : decode cL_read 1 = .ok (.iconst 0, 1) := by decide +kernel
theorem dL_read_2 : decode cL_read 2 = .ok (.aload_n 0, 1) := by decide +kernel
theorem dL_read_3 : decode cL_read 3 = .ok (.iload_n 1, 1) := by decide +kernel
theorem dL_read_4 : decode cL_read 4 = .ok (.invokevirtual 15, 3) := by decide +kernel
theorem dL_read_7 : decode cL_read 7 = .ok (.i2l, 1) := by decide +kernel
theorem dL_read_8 : decode cL_read 8 = .ok (.lastore, 1) := by decide +kernel
theorem dL_read_9 : decode cL_read 9 = .ok (.goto 6, 3) := by decide +kernel
theorem dL_read_12 : decode cL_read 12 = .ok (.astore_n 3, 1) := by decide +kernel
theorem dL_read_13 : decode cL_read 13 = .ok (.iconst 1, 1) := by decide +kernel
theorem dL_read_14 : decode cL_read 14 = .ok (.ireturn, 1) := by decide +kernel
theorem dL_read_15 : decode cL_read 15 = .ok (.iconst 0, 1) := by decide +kernel
theorem dL_read_16 : decode cL_read 16 = .ok (.ireturn, 1) := by decide +kernel
theorem dL_told_0 : decode cL_told 0 = .ok (.aload_n 2, 1) := by decide +kernel
theorem dL_told_1 : decode cL_told 1 = .ok (.iconst 0, 1) := by decide +kernel
theorem dL_told_2 : decode cL_told 2 = .ok (.aload_n 0, 1) := by decide +kernel
theorem dL_told_3 : decode cL_told 3 = .ok (.iload_n 1, 1) := by decide +kernel
theorem dL_told_4 : decode cL_told 4 = .ok (.invokevirtual 19, 3) := by decide +kernel
theorem dL_told_7 : decode cL_told 7 = .ok (.i2l, 1) := by decide +kernel
theorem dL_told_8 : decode cL_told 8 = .ok (.lastore, 1) := by decide +kernel
theorem dL_told_9 : decode cL_told 9 = .ok (.goto 6, 3) := by decide +kernel
theorem dL_told_12 : decode cL_told 12 = .ok (.astore_n 3, 1) := by decide +kernel
theorem dL_told_13 : decode cL_told 13 = .ok (.iconst 1, 1) := by decide +kernel
theorem dL_told_14 : decode cL_told 14 = .ok (.ireturn, 1) := by decide +kernel
theorem dL_told_15 : decode cL_told 15 = .ok (.iconst 0, 1) := by decide +kernel
theorem dL_told_16 : decode cL_told 16 = .ok (.ireturn, 1) := by decide +kernel
theorem dL_sort_0 : decode cL_sort 0 = .ok (.aload_n 3, 1) := by decide +kernel
theorem dL_sort_1 : decode cL_sort 1 = .ok (.iconst 0, 1) := by decide +kernel
theorem dL_sort_2 : decode cL_sort 2 = .ok (.aload_n 0, 1) := by decide +kernel
theorem dL_sort_3 : decode cL_sort 3 = .ok (.iload_n 1, 1) := by decide +kernel
theorem dL_sort_4 : decode cL_sort 4 = .ok (.iload_n 2, 1) := by decide +kernel
theorem dL_sort_5 : decode cL_sort 5 = .ok (.invokevirtual 24, 3) := by decide +kernel
theorem dL_sort_8 : decode cL_sort 8 = .ok (.i2l, 1) := by decide +kernel
theorem dL_sort_9 : decode cL_sort 9 = .ok (.lastore, 1) := by decide +kernel
theorem dL_sort_10 : decode cL_sort 10 = .ok (.goto 7, 3) := by decide +kernel
theorem dL_sort_13 : decode cL_sort 13 = .ok (.astore 4, 2) := by decide +kernel
theorem dL_sort_15 : decode cL_sort 15 = .ok (.iconst 1, 1) := by decide +kernel
theorem dL_sort_16 : decode cL_sort 16 = .ok (.ireturn, 1) := by decide +kernel
theorem dL_sort_17 : decode cL_sort 17 = .ok (.iconst 0, 1) := by decide +kernel
theorem dL_sort_18 : decode cL_sort 18 = .ok (.ireturn, 1) := by decide +kernel
theorem dL_about_0 : decode cL_about 0 = .ok (.aload_n 3, 1) := by decide +kernel
theorem dL_about_1 : decode cL_about 1 = .ok (.iconst 0, 1) := by decide +kernel
theorem dL_about_2 : decode cL_about 2 = .ok (.aload_n 0, 1) := by decide +kernel
theorem dL_about_3 : decode cL_about 3 = .ok (.iload_n 1, 1) := by decide +kernel
theorem dL_about_4 : decode cL_about 4 = .ok (.iload_n 2, 1) := by decide +kernel
theorem dL_about_5 : decode cL_about 5 = .ok (.invokevirtual 28, 3) := by decide +kernel
theorem dL_about_8 : decode cL_about 8 = .ok (.i2l, 1) := by decide +kernel
theorem dL_about_9 : decode cL_about 9 = .ok (.lastore, 1) := by decide +kernel
theorem dL_about_10 : decode cL_about 10 = .ok (.goto 7, 3) := by decide +kernel
theorem dL_about_13 : decode cL_about 13 = .ok (.astore 4, 2) := by decide +kernel
theorem dL_about_15 : decode cL_about 15 = .ok (.iconst 1, 1) := by decide +kernel
theorem dL_about_16 : decode cL_about 16 = .ok (.ireturn, 1) := by decide +kernel
theorem dL_about_17 : decode cL_about 17 = .ok (.iconst 0, 1) := by decide +kernel
theorem dL_about_18 : decode cL_about 18 = .ok (.ireturn, 1) := by decide +kernel
theorem dL_letter_0 : decode cL_letter 0 = .ok (.aload 4, 2) := by decide +kernel
theorem dL_letter_2 : decode cL_letter 2 = .ok (.iconst 0, 1) := by decide +kernel
theorem dL_letter_3 : decode cL_letter 3 = .ok (.aload_n 0, 1) := by decide +kernel
theorem dL_letter_4 : decode cL_letter 4 = .ok (.iload_n 1, 1) := by decide +kernel
theorem dL_letter_5 : decode cL_letter 5 = .ok (.iload_n 2, 1) := by decide +kernel
theorem dL_letter_6 : decode cL_letter 6 = .ok (.iload_n 3, 1) := by decide +kernel
theorem dL_letter_7 : decode cL_letter 7 = .ok (.invokevirtual 31, 3) := by decide +kernel
theorem dL_letter_10 : decode cL_letter 10 = .ok (.i2l, 1) := by decide +kernel
theorem dL_letter_11 : decode cL_letter 11 = .ok (.lastore, 1) := by decide +kernel
theorem dL_letter_12 : decode cL_letter 12 = .ok (.goto 7, 3) := by decide +kernel
theorem dL_letter_15 : decode cL_letter 15 = .ok (.astore 5, 2) := by decide +kernel
theorem dL_letter_17 : decode cL_letter 17 = .ok (.iconst 1, 1) := by decide +kernel
theorem dL_letter_18 : decode cL_letter 18 = .ok (.ireturn, 1) := by decide +kernel
theorem dL_letter_19 : decode cL_letter 19 = .ok (.iconst 0, 1) := by decide +kernel
theorem dL_letter_20 : decode cL_letter 20 = .ok (.ireturn, 1) := by decide +kernel
theorem dL_bin_0 : decode cL_bin 0 = .ok (.aload_n 3, 1) := by decide +kernel
theorem dL_bin_1 : decode cL_bin 1 = .ok (.iconst 0, 1) := by decide +kernel
theorem dL_bin_2 : decode cL_bin 2 = .ok (.aload_n 0, 1) := by decide +kernel
theorem dL_bin_3 : decode cL_bin 3 = .ok (.iload_n 1, 1) := by decide +kernel
theorem dL_bin_4 : decode cL_bin 4 = .ok (.iload_n 2, 1) := by decide +kernel
theorem dL_bin_5 : decode cL_bin 5 = .ok (.invokevirtual 35, 3) := by decide +kernel
theorem dL_bin_8 : decode cL_bin 8 = .ok (.i2l, 1) := by decide +kernel
theorem dL_bin_9 : decode cL_bin 9 = .ok (.lastore, 1) := by decide +kernel
theorem dL_bin_10 : decode cL_bin 10 = .ok (.goto 11, 3) := by decide +kernel
theorem dL_bin_13 : decode cL_bin 13 = .ok (.astore 4, 2) := by decide +kernel
theorem dL_bin_15 : decode cL_bin 15 = .ok (.iconst 1, 1) := by decide +kernel
theorem dL_bin_16 : decode cL_bin 16 = .ok (.ireturn, 1) := by decide +kernel
theorem dL_bin_17 : decode cL_bin 17 = .ok (.astore 4, 2) := by decide +kernel
theorem dL_bin_19 : decode cL_bin 19 = .ok (.iconst 2, 1) := by decide +kernel
theorem dL_bin_20 : decode cL_bin 20 = .ok (.ireturn, 1) := by decide +kernel
theorem dL_bin_21 : decode cL_bin 21 = .ok (.iconst 0, 1) := by decide +kernel
theorem dL_bin_22 : decode cL_bin 22 = .ok (.ireturn, 1) := by decide +kernel
theorem dL_group_0 : decode cL_group 0 = .ok (.aload 4, 2) := by decide +kernel
theorem dL_group_2 : decode cL_group 2 = .ok (.iconst 0, 1) := by decide +kernel
theorem dL_group_3 : decode cL_group 3 = .ok (.aload_n 0, 1) := by decide +kernel
theorem dL_group_4 : decode cL_group 4 = .ok (.iload_n 1, 1) := by decide +kernel
theorem dL_group_5 : decode cL_group 5 = .ok (.iload_n 2, 1) := by decide +kernel
theorem dL_group_6 : decode cL_group 6 = .ok (.iload_n 3, 1) := by decide +kernel
theorem dL_group_7 : decode cL_group 7 = .ok (.invokevirtual 40, 3) := by decide +kernel
theorem dL_group_10 : decode cL_group 10 = .ok (.i2l, 1) := by decide +kernel
theorem dL_group_11 : decode cL_group 11 = .ok (.lastore, 1) := by decide +kernel
theorem dL_group_12 : decode cL_group 12 = .ok (.goto 11, 3) := by decide +kernel
theorem dL_group_15 : decode cL_group 15 = .ok (.astore 5, 2) := by decide +kernel
theorem dL_group_17 : decode cL_group 17 = .ok (.iconst 1, 1) := by decide +kernel
theorem dL_group_18 : decode cL_group 18 = .ok (.ireturn, 1) := by decide +kernel
theorem dL_group_19 : decode cL_group 19 = .ok (.astore 5, 2) := by decide +kernel
theorem dL_group_21 : decode cL_group 21 = .ok (.iconst 2, 1) := by decide +kernel
theorem dL_group_22 : decode cL_group 22 = .ok (.ireturn, 1) := by decide +kernel
theorem dL_group_23 : decode cL_group 23 = .ok (.iconst 0, 1) := by decide +kernel
theorem dL_group_24 : decode cL_group 24 = .ok (.ireturn, 1) := by decide +kernel
theorem dL_write_0 : decode cL_write 0 = .ok (.aload 4, 2) := by decide +kernel
theorem dL_write_2 : decode cL_write 2 = .ok (.iconst 0, 1) := by decide +kernel
theorem dL_write_3 : decode cL_write 3 = .ok (.aload_n 0, 1) := by decide +kernel
theorem dL_write_4 : decode cL_write 4 = .ok (.iload_n 1, 1) := by decide +kernel
theorem dL_write_5 : decode cL_write 5 = .ok (.iload_n 2, 1) := by decide +kernel
theorem dL_write_6 : decode cL_write 6 = .ok (.iload_n 3, 1) := by decide +kernel
theorem dL_write_7 : decode cL_write 7 = .ok (.invokevirtual 43, 3) := by decide +kernel
theorem dL_write_10 : decode cL_write 10 = .ok (.i2l, 1) := by decide +kernel
theorem dL_write_11 : decode cL_write 11 = .ok (.lastore, 1) := by decide +kernel
theorem dL_write_12 : decode cL_write 12 = .ok (.goto 15, 3) := by decide +kernel
theorem dL_write_15 : decode cL_write 15 = .ok (.astore 5, 2) := by decide +kernel
theorem dL_write_17 : decode cL_write 17 = .ok (.iconst 1, 1) := by decide +kernel
theorem dL_write_18 : decode cL_write 18 = .ok (.ireturn, 1) := by decide +kernel
theorem dL_write_19 : decode cL_write 19 = .ok (.astore 5, 2) := by decide +kernel
theorem dL_write_21 : decode cL_write 21 = .ok (.iconst 2, 1) := by decide +kernel
theorem dL_write_22 : decode cL_write 22 = .ok (.ireturn, 1) := by decide +kernel
theorem dL_write_23 : decode cL_write 23 = .ok (.astore 5, 2) := by decide +kernel
theorem dL_write_25 : decode cL_write 25 = .ok (.iconst 3, 1) := by decide +kernel
theorem dL_write_26 : decode cL_write 26 = .ok (.ireturn, 1) := by decide +kernel
theorem dL_write_27 : decode cL_write 27 = .ok (.iconst 0, 1) := by decide +kernel
theorem dL_write_28 : decode cL_write 28 = .ok (.ireturn, 1) := by decide +kernel
theorem dL_out_0 : decode cL_out 0 = .ok (.aload_n 2, 1) := by decide +kernel
theorem dL_out_1 : decode cL_out 1 = .ok (.iconst 0, 1) := by decide +kernel
theorem dL_out_2 : decode cL_out 2 = .ok (.aload_n 0, 1) := by decide +kernel
theorem dL_out_3 : decode cL_out 3 = .ok (.iload_n 1, 1) := by decide +kernel
theorem dL_out_4 : decode cL_out 4 = .ok (.invokevirtual 47, 3) := by decide +kernel
theorem dL_out_7 : decode cL_out 7 = .ok (.i2l, 1) := by decide +kernel
theorem dL_out_8 : decode cL_out 8 = .ok (.lastore, 1) := by decide +kernel
theorem dL_out_9 : decode cL_out 9 = .ok (.goto 6, 3) := by decide +kernel
theorem dL_out_12 : decode cL_out 12 = .ok (.astore_n 3, 1) := by decide +kernel
theorem dL_out_13 : decode cL_out 13 = .ok (.iconst 1, 1) := by decide +kernel
theorem dL_out_14 : decode cL_out 14 = .ok (.ireturn, 1) := by decide +kernel
theorem dL_out_15 : decode cL_out 15 = .ok (.iconst 0, 1) := by decide +kernel
theorem dL_out_16 : decode cL_out 16 = .ok (.ireturn, 1) := by decide +kernel
theorem dL_law_0 : decode cL_law 0 = .ok (.new 8, 3) := by decide +kernel
theorem dL_law_3 : decode cL_law 3 = .ok (.dup, 1) := by decide +kernel
theorem dL_law_4 : decode cL_law 4 = .ok (.invokespecial 50, 3) := by decide +kernel
theorem dL_law_7 : decode cL_law 7 = .ok (.astore_n 1, 1) := by decide +kernel
theorem dL_law_8 : decode cL_law 8 = .ok (.new 51, 3) := by decide +kernel
theorem dL_law_11 : decode cL_law 11 = .ok (.dup, 1) := by decide +kernel
theorem dL_law_12 : decode cL_law 12 = .ok (.invokespecial 53, 3) := by decide +kernel
theorem dL_law_15 : decode cL_law 15 = .ok (.astore_n 2, 1) := by decide +kernel
theorem dL_law_16 : decode cL_law 16 = .ok (.iconst 1, 1) := by decide +kernel
theorem dL_law_17 : decode cL_law 17 = .ok (.newarray .long, 2) := by decide +kernel
theorem dL_law_19 : decode cL_law 19 = .ok (.astore_n 3, 1) := by decide +kernel
theorem dL_law_20 : decode cL_law 20 = .ok (.iconst 0, 1) := by decide +kernel
theorem dL_law_21 : decode cL_law 21 = .ok (.istore 4, 2) := by decide +kernel
theorem dL_law_23 : decode cL_law 23 = .ok (.iload 4, 2) := by decide +kernel
theorem dL_law_25 : decode cL_law 25 = .ok (.aload_n 0, 1) := by decide +kernel
theorem dL_law_26 : decode cL_law 26 = .ok (.arraylength, 1) := by decide +kernel
theorem dL_law_27 : decode cL_law 27 = .ok (.iconst 4, 1) := by decide +kernel
theorem dL_law_28 : decode cL_law 28 = .ok (.isub, 1) := by decide +kernel
theorem dL_law_29 : decode cL_law 29 = .ok (.if_icmp .gt 918, 3) := by decide +kernel
theorem dL_law_32 : decode cL_law 32 = .ok (.aload_n 0, 1) := by decide +kernel
theorem dL_law_33 : decode cL_law 33 = .ok (.iload 4, 2) := by decide +kernel
theorem dL_law_35 : decode cL_law 35 = .ok (.iaload, 1) := by decide +kernel
theorem dL_law_36 : decode cL_law 36 = .ok (.bipush 15, 2) := by decide +kernel
theorem dL_law_38 : decode cL_law 38 = .ok (.iand, 1) := by decide +kernel
theorem dL_law_39 : decode cL_law 39 = .ok (.tableswitch 902 0 14 #[73, 173, 229, 242, 255, 268, 317, 373, 441, 509, 589, 657, 737, 833, 889], 73) := by decide +kernel
theorem dL_law_112 : decode cL_law 112 = .ok (.aload_n 1, 1) := by decide +kernel
theorem dL_law_113 : decode cL_law 113 = .ok (.aload_n 0, 1) := by decide +kernel
theorem dL_law_114 : decode cL_law 114 = .ok (.iload 4, 2) := by decide +kernel
theorem dL_law_116 : decode cL_law 116 = .ok (.iconst 1, 1) := by decide +kernel
theorem dL_law_117 : decode cL_law 117 = .ok (.iadd, 1) := by decide +kernel
theorem dL_law_118 : decode cL_law 118 = .ok (.iaload, 1) := by decide +kernel
theorem dL_law_119 : decode cL_law 119 = .ok (.aload_n 0, 1) := by decide +kernel
theorem dL_law_120 : decode cL_law 120 = .ok (.iload 4, 2) := by decide +kernel
theorem dL_law_122 : decode cL_law 122 = .ok (.iconst 2, 1) := by decide +kernel
theorem dL_law_123 : decode cL_law 123 = .ok (.iadd, 1) := by decide +kernel
theorem dL_law_124 : decode cL_law 124 = .ok (.iaload, 1) := by decide +kernel
theorem dL_law_125 : decode cL_law 125 = .ok (.i2l, 1) := by decide +kernel
theorem dL_law_126 : decode cL_law 126 = .ok (.bipush 32, 2) := by decide +kernel
theorem dL_law_128 : decode cL_law 128 = .ok (.lshl, 1) := by decide +kernel
theorem dL_law_129 : decode cL_law 129 = .ok (.aload_n 0, 1) := by decide +kernel
theorem dL_law_130 : decode cL_law 130 = .ok (.iload 4, 2) := by decide +kernel
theorem dL_law_132 : decode cL_law 132 = .ok (.iconst 3, 1) := by decide +kernel
theorem dL_law_133 : decode cL_law 133 = .ok (.iadd, 1) := by decide +kernel
theorem dL_law_134 : decode cL_law 134 = .ok (.iaload, 1) := by decide +kernel
theorem dL_law_135 : decode cL_law 135 = .ok (.i2l, 1) := by decide +kernel
theorem dL_law_136 : decode cL_law 136 = .ok (.ldc2_w 54, 3) := by decide +kernel
theorem dL_law_139 : decode cL_law 139 = .ok (.land, 1) := by decide +kernel
theorem dL_law_140 : decode cL_law 140 = .ok (.lor, 1) := by decide +kernel
theorem dL_law_141 : decode cL_law 141 = .ok (.aload_n 3, 1) := by decide +kernel
theorem dL_law_142 : decode cL_law 142 = .ok (.invokestatic 56, 3) := by decide +kernel
theorem dL_law_145 : decode cL_law 145 = .ok (.istore 5, 2) := by decide +kernel
theorem dL_law_147 : decode cL_law 147 = .ok (.aload_n 2, 1) := by decide +kernel
theorem dL_law_148 : decode cL_law 148 = .ok (.aload_n 0, 1) := by decide +kernel
theorem dL_law_149 : decode cL_law 149 = .ok (.iload 4, 2) := by decide +kernel
theorem dL_law_151 : decode cL_law 151 = .ok (.iconst 1, 1) := by decide +kernel
theorem dL_law_152 : decode cL_law 152 = .ok (.iadd, 1) := by decide +kernel
theorem dL_law_153 : decode cL_law 153 = .ok (.iaload, 1) := by decide +kernel
theorem dL_law_154 : decode cL_law 154 = .ok (.aload_n 0, 1) := by decide +kernel
theorem dL_law_155 : decode cL_law 155 = .ok (.iload 4, 2) := by decide +kernel
theorem dL_law_157 : decode cL_law 157 = .ok (.iconst 2, 1) := by decide +kernel
theorem dL_law_158 : decode cL_law 158 = .ok (.iadd, 1) := by decide +kernel
theorem dL_law_159 : decode cL_law 159 = .ok (.iaload, 1) := by decide +kernel
theorem dL_law_160 : decode cL_law 160 = .ok (.i2l, 1) := by decide +kernel
theorem dL_law_161 : decode cL_law 161 = .ok (.bipush 32, 2) := by decide +kernel
theorem dL_law_163 : decode cL_law 163 = .ok (.lshl, 1) := by decide +kernel
theorem dL_law_164 : decode cL_law 164 = .ok (.aload_n 0, 1) := by decide +kernel
theorem dL_law_165 : decode cL_law 165 = .ok (.iload 4, 2) := by decide +kernel
theorem dL_law_167 : decode cL_law 167 = .ok (.iconst 3, 1) := by decide +kernel
theorem dL_law_168 : decode cL_law 168 = .ok (.iadd, 1) := by decide +kernel
theorem dL_law_169 : decode cL_law 169 = .ok (.iaload, 1) := by decide +kernel
theorem dL_law_170 : decode cL_law 170 = .ok (.i2l, 1) := by decide +kernel
theorem dL_law_171 : decode cL_law 171 = .ok (.ldc2_w 54, 3) := by decide +kernel
theorem dL_law_174 : decode cL_law 174 = .ok (.land, 1) := by decide +kernel
theorem dL_law_175 : decode cL_law 175 = .ok (.lor, 1) := by decide +kernel
theorem dL_law_176 : decode cL_law 176 = .ok (.invokevirtual 61, 3) := by decide +kernel
theorem dL_law_179 : decode cL_law 179 = .ok (.istore 6, 2) := by decide +kernel
theorem dL_law_181 : decode cL_law 181 = .ok (.aload_n 2, 1) := by decide +kernel
theorem dL_law_182 : decode cL_law 182 = .ok (.invokevirtual 62, 3) := by decide +kernel
theorem dL_law_185 : decode cL_law 185 = .ok (.iload 5, 2) := by decide +kernel
theorem dL_law_187 : decode cL_law 187 = .ok (.if_icmp .eq 5, 3) := by decide +kernel
theorem dL_law_190 : decode cL_law 190 = .ok (.iconst 0, 1) := by decide +kernel
theorem dL_law_191 : decode cL_law 191 = .ok (.ireturn, 1) := by decide +kernel
theorem dL_law_192 : decode cL_law 192 = .ok (.iload 5, 2) := by decide +kernel
theorem dL_law_194 : decode cL_law 194 = .ok (.ifCond .ne 15, 3) := by decide +kernel
theorem dL_law_197 : decode cL_law 197 = .ok (.aload_n 3, 1) := by decide +kernel
theorem dL_law_198 : decode cL_law 198 = .ok (.iconst 0, 1) := by decide +kernel
theorem dL_law_199 : decode cL_law 199 = .ok (.laload, 1) := by decide +kernel
theorem dL_law_200 : decode cL_law 200 = .ok (.iload 6, 2) := by decide +kernel
theorem dL_law_202 : decode cL_law 202 = .ok (.i2l, 1) := by decide +kernel
theorem dL_law_203 : decode cL_law 203 = .ok (.lcmp, 1) := by decide +kernel
theorem dL_law_204 : decode cL_law 204 = .ok (.ifCond .eq 5, 3) := by decide +kernel
theorem dL_law_207 : decode cL_law 207 = .ok (.iconst 0, 1) := by decide +kernel
theorem dL_law_208 : decode cL_law 208 = .ok (.ireturn, 1) := by decide +kernel
theorem dL_law_209 : decode cL_law 209 = .ok (.goto 732, 3) := by decide +kernel
theorem dL_law_212 : decode cL_law 212 = .ok (.aload_n 1, 1) := by decide +kernel
theorem dL_law_213 : decode cL_law 213 = .ok (.aload_n 0, 1) := by decide +kernel
theorem dL_law_214 : decode cL_law 214 = .ok (.iload 4, 2) := by decide +kernel
theorem dL_law_216 : decode cL_law 216 = .ok (.iconst 1, 1) := by decide +kernel
theorem dL_law_217 : decode cL_law 217 = .ok (.iadd, 1) := by decide +kernel
theorem dL_law_218 : decode cL_law 218 = .ok (.iaload, 1) := by decide +kernel
theorem dL_law_219 : decode cL_law 219 = .ok (.aload_n 3, 1) := by decide +kernel
theorem dL_law_220 : decode cL_law 220 = .ok (.invokestatic 66, 3) := by decide +kernel
theorem dL_law_223 : decode cL_law 223 = .ok (.istore 5, 2) := by decide +kernel
theorem dL_law_225 : decode cL_law 225 = .ok (.aload_n 2, 1) := by decide +kernel
theorem dL_law_226 : decode cL_law 226 = .ok (.aload_n 0, 1) := by decide +kernel
theorem dL_law_227 : decode cL_law 227 = .ok (.iload 4, 2) := by decide +kernel
theorem dL_law_229 : decode cL_law 229 = .ok (.iconst 1, 1) := by decide +kernel
theorem dL_law_230 : decode cL_law 230 = .ok (.iadd, 1) := by decide +kernel
theorem dL_law_231 : decode cL_law 231 = .ok (.iaload, 1) := by decide +kernel
theorem dL_law_232 : decode cL_law 232 = .ok (.invokevirtual 69, 3) := by decide +kernel
theorem dL_law_235 : decode cL_law 235 = .ok (.istore 6, 2) := by decide +kernel
theorem dL_law_237 : decode cL_law 237 = .ok (.aload_n 2, 1) := by decide +kernel
theorem dL_law_238 : decode cL_law 238 = .ok (.invokevirtual 62, 3) := by decide +kernel
theorem dL_law_241 : decode cL_law 241 = .ok (.iload 5, 2) := by decide +kernel
theorem dL_law_243 : decode cL_law 243 = .ok (.if_icmp .eq 5, 3) := by decide +kernel
theorem dL_law_246 : decode cL_law 246 = .ok (.iconst 0, 1) := by decide +kernel
theorem dL_law_247 : decode cL_law 247 = .ok (.ireturn, 1) := by decide +kernel
theorem dL_law_248 : decode cL_law 248 = .ok (.iload 5, 2) := by decide +kernel
theorem dL_law_250 : decode cL_law 250 = .ok (.ifCond .ne 15, 3) := by decide +kernel
theorem dL_law_253 : decode cL_law 253 = .ok (.aload_n 3, 1) := by decide +kernel
theorem dL_law_254 : decode cL_law 254 = .ok (.iconst 0, 1) := by decide +kernel
theorem dL_law_255 : decode cL_law 255 = .ok (.laload, 1) := by decide +kernel
theorem dL_law_256 : decode cL_law 256 = .ok (.iload 6, 2) := by decide +kernel
theorem dL_law_258 : decode cL_law 258 = .ok (.i2l, 1) := by decide +kernel
theorem dL_law_259 : decode cL_law 259 = .ok (.lcmp, 1) := by decide +kernel
theorem dL_law_260 : decode cL_law 260 = .ok (.ifCond .eq 5, 3) := by decide +kernel
theorem dL_law_263 : decode cL_law 263 = .ok (.iconst 0, 1) := by decide +kernel
theorem dL_law_264 : decode cL_law 264 = .ok (.ireturn, 1) := by decide +kernel
theorem dL_law_265 : decode cL_law 265 = .ok (.goto 676, 3) := by decide +kernel
theorem dL_law_268 : decode cL_law 268 = .ok (.aload_n 1, 1) := by decide +kernel
theorem dL_law_269 : decode cL_law 269 = .ok (.invokevirtual 70, 3) := by decide +kernel
theorem dL_law_272 : decode cL_law 272 = .ok (.aload_n 2, 1) := by decide +kernel
theorem dL_law_273 : decode cL_law 273 = .ok (.invokevirtual 73, 3) := by decide +kernel
theorem dL_law_276 : decode cL_law 276 = .ok (.if_icmp .eq 665, 3) := by decide +kernel
theorem dL_law_279 : decode cL_law 279 = .ok (.iconst 0, 1) := by decide +kernel
theorem dL_law_280 : decode cL_law 280 = .ok (.ireturn, 1) := by decide +kernel
theorem dL_law_281 : decode cL_law 281 = .ok (.aload_n 1, 1) := by decide +kernel
theorem dL_law_282 : decode cL_law 282 = .ok (.invokevirtual 74, 3) := by decide +kernel
theorem dL_law_285 : decode cL_law 285 = .ok (.aload_n 2, 1) := by decide +kernel
theorem dL_law_286 : decode cL_law 286 = .ok (.invokevirtual 77, 3) := by decide +kernel
theorem dL_law_289 : decode cL_law 289 = .ok (.if_icmp .eq 652, 3) := by decide +kernel
theorem dL_law_292 : decode cL_law 292 = .ok (.iconst 0, 1) := by decide +kernel
theorem dL_law_293 : decode cL_law 293 = .ok (.ireturn, 1) := by decide +kernel
theorem dL_law_294 : decode cL_law 294 = .ok (.aload_n 1, 1) := by decide +kernel
theorem dL_law_295 : decode cL_law 295 = .ok (.invokevirtual 78, 3) := by decide +kernel
theorem dL_law_298 : decode cL_law 298 = .ok (.aload_n 2, 1) := by decide +kernel
theorem dL_law_299 : decode cL_law 299 = .ok (.invokevirtual 81, 3) := by decide +kernel
theorem dL_law_302 : decode cL_law 302 = .ok (.if_icmp .eq 639, 3) := by decide +kernel
theorem dL_law_305 : decode cL_law 305 = .ok (.iconst 0, 1) := by decide +kernel
theorem dL_law_306 : decode cL_law 306 = .ok (.ireturn, 1) := by decide +kernel
theorem dL_law_307 : decode cL_law 307 = .ok (.aload_n 1, 1) := by decide +kernel
theorem dL_law_308 : decode cL_law 308 = .ok (.aload_n 0, 1) := by decide +kernel
theorem dL_law_309 : decode cL_law 309 = .ok (.iload 4, 2) := by decide +kernel
theorem dL_law_311 : decode cL_law 311 = .ok (.iconst 1, 1) := by decide +kernel
theorem dL_law_312 : decode cL_law 312 = .ok (.iadd, 1) := by decide +kernel
theorem dL_law_313 : decode cL_law 313 = .ok (.iaload, 1) := by decide +kernel
theorem dL_law_314 : decode cL_law 314 = .ok (.aload_n 0, 1) := by decide +kernel
theorem dL_law_315 : decode cL_law 315 = .ok (.iload 4, 2) := by decide +kernel
theorem dL_law_317 : decode cL_law 317 = .ok (.iconst 2, 1) := by decide +kernel
theorem dL_law_318 : decode cL_law 318 = .ok (.iadd, 1) := by decide +kernel
theorem dL_law_319 : decode cL_law 319 = .ok (.iaload, 1) := by decide +kernel
theorem dL_law_320 : decode cL_law 320 = .ok (.aload_n 0, 1) := by decide +kernel
theorem dL_law_321 : decode cL_law 321 = .ok (.iload 4, 2) := by decide +kernel
theorem dL_law_323 : decode cL_law 323 = .ok (.iconst 3, 1) := by decide +kernel
theorem dL_law_324 : decode cL_law 324 = .ok (.iadd, 1) := by decide +kernel
theorem dL_law_325 : decode cL_law 325 = .ok (.iaload, 1) := by decide +kernel
theorem dL_law_326 : decode cL_law 326 = .ok (.invokevirtual 82, 3) := by decide +kernel
theorem dL_law_329 : decode cL_law 329 = .ok (.aload_n 2, 1) := by decide +kernel
theorem dL_law_330 : decode cL_law 330 = .ok (.aload_n 0, 1) := by decide +kernel
theorem dL_law_331 : decode cL_law 331 = .ok (.iload 4, 2) := by decide +kernel
theorem dL_law_333 : decode cL_law 333 = .ok (.iconst 1, 1) := by decide +kernel
theorem dL_law_334 : decode cL_law 334 = .ok (.iadd, 1) := by decide +kernel
theorem dL_law_335 : decode cL_law 335 = .ok (.iaload, 1) := by decide +kernel
theorem dL_law_336 : decode cL_law 336 = .ok (.aload_n 0, 1) := by decide +kernel
theorem dL_law_337 : decode cL_law 337 = .ok (.iload 4, 2) := by decide +kernel
theorem dL_law_339 : decode cL_law 339 = .ok (.iconst 2, 1) := by decide +kernel
theorem dL_law_340 : decode cL_law 340 = .ok (.iadd, 1) := by decide +kernel
theorem dL_law_341 : decode cL_law 341 = .ok (.iaload, 1) := by decide +kernel
theorem dL_law_342 : decode cL_law 342 = .ok (.aload_n 0, 1) := by decide +kernel
theorem dL_law_343 : decode cL_law 343 = .ok (.iload 4, 2) := by decide +kernel
theorem dL_law_345 : decode cL_law 345 = .ok (.iconst 3, 1) := by decide +kernel
theorem dL_law_346 : decode cL_law 346 = .ok (.iadd, 1) := by decide +kernel
theorem dL_law_347 : decode cL_law 347 = .ok (.iaload, 1) := by decide +kernel
theorem dL_law_348 : decode cL_law 348 = .ok (.invokevirtual 86, 3) := by decide +kernel
theorem dL_law_351 : decode cL_law 351 = .ok (.if_icmp .eq 590, 3) := by decide +kernel
theorem dL_law_354 : decode cL_law 354 = .ok (.iconst 0, 1) := by decide +kernel
theorem dL_law_355 : decode cL_law 355 = .ok (.ireturn, 1) := by decide +kernel
theorem dL_law_356 : decode cL_law 356 = .ok (.aload_n 1, 1) := by decide +kernel
theorem dL_law_357 : decode cL_law 357 = .ok (.aload_n 0, 1) := by decide +kernel
theorem dL_law_358 : decode cL_law 358 = .ok (.iload 4, 2) := by decide +kernel
theorem dL_law_360 : decode cL_law 360 = .ok (.iconst 1, 1) := by decide +kernel
theorem dL_law_361 : decode cL_law 361 = .ok (.iadd, 1) := by decide +kernel
theorem dL_law_362 : decode cL_law 362 = .ok (.iaload, 1) := by decide +kernel
theorem dL_law_363 : decode cL_law 363 = .ok (.aload_n 3, 1) := by decide +kernel
theorem dL_law_364 : decode cL_law 364 = .ok (.invokestatic 87, 3) := by decide +kernel
theorem dL_law_367 : decode cL_law 367 = .ok (.istore 5, 2) := by decide +kernel
theorem dL_law_369 : decode cL_law 369 = .ok (.aload_n 2, 1) := by decide +kernel
theorem dL_law_370 : decode cL_law 370 = .ok (.aload_n 0, 1) := by decide +kernel
theorem dL_law_371 : decode cL_law 371 = .ok (.iload 4, 2) := by decide +kernel
theorem dL_law_373 : decode cL_law 373 = .ok (.iconst 1, 1) := by decide +kernel
theorem dL_law_374 : decode cL_law 374 = .ok (.iadd, 1) := by decide +kernel
theorem dL_law_375 : decode cL_law 375 = .ok (.iaload, 1) := by decide +kernel
theorem dL_law_376 : decode cL_law 376 = .ok (.invokevirtual 89, 3) := by decide +kernel
theorem dL_law_379 : decode cL_law 379 = .ok (.istore 6, 2) := by decide +kernel
theorem dL_law_381 : decode cL_law 381 = .ok (.aload_n 2, 1) := by decide +kernel
theorem dL_law_382 : decode cL_law 382 = .ok (.invokevirtual 62, 3) := by decide +kernel
theorem dL_law_385 : decode cL_law 385 = .ok (.iload 5, 2) := by decide +kernel
theorem dL_law_387 : decode cL_law 387 = .ok (.if_icmp .eq 5, 3) := by decide +kernel
theorem dL_law_390 : decode cL_law 390 = .ok (.iconst 0, 1) := by decide +kernel
theorem dL_law_391 : decode cL_law 391 = .ok (.ireturn, 1) := by decide +kernel
theorem dL_law_392 : decode cL_law 392 = .ok (.iload 5, 2) := by decide +kernel
theorem dL_law_394 : decode cL_law 394 = .ok (.ifCond .ne 15, 3) := by decide +kernel
theorem dL_law_397 : decode cL_law 397 = .ok (.aload_n 3, 1) := by decide +kernel
theorem dL_law_398 : decode cL_law 398 = .ok (.iconst 0, 1) := by decide +kernel
theorem dL_law_399 : decode cL_law 399 = .ok (.laload, 1) := by decide +kernel
theorem dL_law_400 : decode cL_law 400 = .ok (.iload 6, 2) := by decide +kernel
theorem dL_law_402 : decode cL_law 402 = .ok (.i2l, 1) := by decide +kernel
theorem dL_law_403 : decode cL_law 403 = .ok (.lcmp, 1) := by decide +kernel
theorem dL_law_404 : decode cL_law 404 = .ok (.ifCond .eq 5, 3) := by decide +kernel
theorem dL_law_407 : decode cL_law 407 = .ok (.iconst 0, 1) := by decide +kernel
theorem dL_law_408 : decode cL_law 408 = .ok (.ireturn, 1) := by decide +kernel
theorem dL_law_409 : decode cL_law 409 = .ok (.goto 532, 3) := by decide +kernel
theorem dL_law_412 : decode cL_law 412 = .ok (.aload_n 1, 1) := by decide +kernel
theorem dL_law_413 : decode cL_law 413 = .ok (.aload_n 0, 1) := by decide +kernel
theorem dL_law_414 : decode cL_law 414 = .ok (.iload 4, 2) := by decide +kernel
theorem dL_law_416 : decode cL_law 416 = .ok (.iconst 1, 1) := by decide +kernel
theorem dL_law_417 : decode cL_law 417 = .ok (.iadd, 1) := by decide +kernel
theorem dL_law_418 : decode cL_law 418 = .ok (.iaload, 1) := by decide +kernel
theorem dL_law_419 : decode cL_law 419 = .ok (.aload_n 0, 1) := by decide +kernel
theorem dL_law_420 : decode cL_law 420 = .ok (.iload 4, 2) := by decide +kernel
theorem dL_law_422 : decode cL_law 422 = .ok (.iconst 2, 1) := by decide +kernel
theorem dL_law_423 : decode cL_law 423 = .ok (.iadd, 1) := by decide +kernel
theorem dL_law_424 : decode cL_law 424 = .ok (.iaload, 1) := by decide +kernel
theorem dL_law_425 : decode cL_law 425 = .ok (.aload_n 3, 1) := by decide +kernel
theorem dL_law_426 : decode cL_law 426 = .ok (.invokestatic 90, 3) := by decide +kernel
theorem dL_law_429 : decode cL_law 429 = .ok (.istore 5, 2) := by decide +kernel
theorem dL_law_431 : decode cL_law 431 = .ok (.aload_n 2, 1) := by decide +kernel
theorem dL_law_432 : decode cL_law 432 = .ok (.aload_n 0, 1) := by decide +kernel
theorem dL_law_433 : decode cL_law 433 = .ok (.iload 4, 2) := by decide +kernel
theorem dL_law_435 : decode cL_law 435 = .ok (.iconst 1, 1) := by decide +kernel
theorem dL_law_436 : decode cL_law 436 = .ok (.iadd, 1) := by decide +kernel
theorem dL_law_437 : decode cL_law 437 = .ok (.iaload, 1) := by decide +kernel
theorem dL_law_438 : decode cL_law 438 = .ok (.aload_n 0, 1) := by decide +kernel
theorem dL_law_439 : decode cL_law 439 = .ok (.iload 4, 2) := by decide +kernel
theorem dL_law_441 : decode cL_law 441 = .ok (.iconst 2, 1) := by decide +kernel
theorem dL_law_442 : decode cL_law 442 = .ok (.iadd, 1) := by decide +kernel
theorem dL_law_443 : decode cL_law 443 = .ok (.iaload, 1) := by decide +kernel
theorem dL_law_444 : decode cL_law 444 = .ok (.invokevirtual 93, 3) := by decide +kernel
theorem dL_law_447 : decode cL_law 447 = .ok (.istore 6, 2) := by decide +kernel
theorem dL_law_449 : decode cL_law 449 = .ok (.aload_n 2, 1) := by decide +kernel
theorem dL_law_450 : decode cL_law 450 = .ok (.invokevirtual 62, 3) := by decide +kernel
theorem dL_law_453 : decode cL_law 453 = .ok (.iload 5, 2) := by decide +kernel
theorem dL_law_455 : decode cL_law 455 = .ok (.if_icmp .eq 5, 3) := by decide +kernel
theorem dL_law_458 : decode cL_law 458 = .ok (.iconst 0, 1) := by decide +kernel
theorem dL_law_459 : decode cL_law 459 = .ok (.ireturn, 1) := by decide +kernel
theorem dL_law_460 : decode cL_law 460 = .ok (.iload 5, 2) := by decide +kernel
theorem dL_law_462 : decode cL_law 462 = .ok (.ifCond .ne 15, 3) := by decide +kernel
theorem dL_law_465 : decode cL_law 465 = .ok (.aload_n 3, 1) := by decide +kernel
theorem dL_law_466 : decode cL_law 466 = .ok (.iconst 0, 1) := by decide +kernel
theorem dL_law_467 : decode cL_law 467 = .ok (.laload, 1) := by decide +kernel
theorem dL_law_468 : decode cL_law 468 = .ok (.iload 6, 2) := by decide +kernel
theorem dL_law_470 : decode cL_law 470 = .ok (.i2l, 1) := by decide +kernel
theorem dL_law_471 : decode cL_law 471 = .ok (.lcmp, 1) := by decide +kernel
theorem dL_law_472 : decode cL_law 472 = .ok (.ifCond .eq 5, 3) := by decide +kernel
theorem dL_law_475 : decode cL_law 475 = .ok (.iconst 0, 1) := by decide +kernel
theorem dL_law_476 : decode cL_law 476 = .ok (.ireturn, 1) := by decide +kernel
theorem dL_law_477 : decode cL_law 477 = .ok (.goto 464, 3) := by decide +kernel
theorem dL_law_480 : decode cL_law 480 = .ok (.aload_n 1, 1) := by decide +kernel
theorem dL_law_481 : decode cL_law 481 = .ok (.aload_n 0, 1) := by decide +kernel
theorem dL_law_482 : decode cL_law 482 = .ok (.iload 4, 2) := by decide +kernel
theorem dL_law_484 : decode cL_law 484 = .ok (.iconst 1, 1) := by decide +kernel
theorem dL_law_485 : decode cL_law 485 = .ok (.iadd, 1) := by decide +kernel
theorem dL_law_486 : decode cL_law 486 = .ok (.iaload, 1) := by decide +kernel
theorem dL_law_487 : decode cL_law 487 = .ok (.aload_n 0, 1) := by decide +kernel
theorem dL_law_488 : decode cL_law 488 = .ok (.iload 4, 2) := by decide +kernel
theorem dL_law_490 : decode cL_law 490 = .ok (.iconst 2, 1) := by decide +kernel
theorem dL_law_491 : decode cL_law 491 = .ok (.iadd, 1) := by decide +kernel
theorem dL_law_492 : decode cL_law 492 = .ok (.iaload, 1) := by decide +kernel
theorem dL_law_493 : decode cL_law 493 = .ok (.aload_n 3, 1) := by decide +kernel
theorem dL_law_494 : decode cL_law 494 = .ok (.invokestatic 94, 3) := by decide +kernel
theorem dL_law_497 : decode cL_law 497 = .ok (.istore 5, 2) := by decide +kernel
theorem dL_law_499 : decode cL_law 499 = .ok (.aload_n 2, 1) := by decide +kernel
theorem dL_law_500 : decode cL_law 500 = .ok (.aload_n 0, 1) := by decide +kernel
theorem dL_law_501 : decode cL_law 501 = .ok (.iload 4, 2) := by decide +kernel
theorem dL_law_503 : decode cL_law 503 = .ok (.iconst 1, 1) := by decide +kernel
theorem dL_law_504 : decode cL_law 504 = .ok (.iadd, 1) := by decide +kernel
theorem dL_law_505 : decode cL_law 505 = .ok (.iaload, 1) := by decide +kernel
theorem dL_law_506 : decode cL_law 506 = .ok (.aload_n 0, 1) := by decide +kernel
theorem dL_law_507 : decode cL_law 507 = .ok (.iload 4, 2) := by decide +kernel
theorem dL_law_509 : decode cL_law 509 = .ok (.iconst 2, 1) := by decide +kernel
theorem dL_law_510 : decode cL_law 510 = .ok (.iadd, 1) := by decide +kernel
theorem dL_law_511 : decode cL_law 511 = .ok (.iaload, 1) := by decide +kernel
theorem dL_law_512 : decode cL_law 512 = .ok (.invokevirtual 96, 3) := by decide +kernel
theorem dL_law_515 : decode cL_law 515 = .ok (.istore 6, 2) := by decide +kernel
theorem dL_law_517 : decode cL_law 517 = .ok (.aload_n 2, 1) := by decide +kernel
theorem dL_law_518 : decode cL_law 518 = .ok (.invokevirtual 62, 3) := by decide +kernel
theorem dL_law_521 : decode cL_law 521 = .ok (.iload 5, 2) := by decide +kernel
theorem dL_law_523 : decode cL_law 523 = .ok (.if_icmp .eq 5, 3) := by decide +kernel
theorem dL_law_526 : decode cL_law 526 = .ok (.iconst 0, 1) := by decide +kernel
theorem dL_law_527 : decode cL_law 527 = .ok (.ireturn, 1) := by decide +kernel
theorem dL_law_528 : decode cL_law 528 = .ok (.iload 5, 2) := by decide +kernel
theorem dL_law_530 : decode cL_law 530 = .ok (.ifCond .ne 15, 3) := by decide +kernel
theorem dL_law_533 : decode cL_law 533 = .ok (.aload_n 3, 1) := by decide +kernel
theorem dL_law_534 : decode cL_law 534 = .ok (.iconst 0, 1) := by decide +kernel
theorem dL_law_535 : decode cL_law 535 = .ok (.laload, 1) := by decide +kernel
theorem dL_law_536 : decode cL_law 536 = .ok (.iload 6, 2) := by decide +kernel
theorem dL_law_538 : decode cL_law 538 = .ok (.i2l, 1) := by decide +kernel
theorem dL_law_539 : decode cL_law 539 = .ok (.lcmp, 1) := by decide +kernel
theorem dL_law_540 : decode cL_law 540 = .ok (.ifCond .eq 5, 3) := by decide +kernel
theorem dL_law_543 : decode cL_law 543 = .ok (.iconst 0, 1) := by decide +kernel
theorem dL_law_544 : decode cL_law 544 = .ok (.ireturn, 1) := by decide +kernel
theorem dL_law_545 : decode cL_law 545 = .ok (.goto 396, 3) := by decide +kernel
theorem dL_law_548 : decode cL_law 548 = .ok (.aload_n 1, 1) := by decide +kernel
theorem dL_law_549 : decode cL_law 549 = .ok (.aload_n 0, 1) := by decide +kernel
theorem dL_law_550 : decode cL_law 550 = .ok (.iload 4, 2) := by decide +kernel
theorem dL_law_552 : decode cL_law 552 = .ok (.iconst 1, 1) := by decide +kernel
theorem dL_law_553 : decode cL_law 553 = .ok (.iadd, 1) := by decide +kernel
theorem dL_law_554 : decode cL_law 554 = .ok (.iaload, 1) := by decide +kernel
theorem dL_law_555 : decode cL_law 555 = .ok (.aload_n 0, 1) := by decide +kernel
theorem dL_law_556 : decode cL_law 556 = .ok (.iload 4, 2) := by decide +kernel
theorem dL_law_558 : decode cL_law 558 = .ok (.iconst 2, 1) := by decide +kernel
theorem dL_law_559 : decode cL_law 559 = .ok (.iadd, 1) := by decide +kernel
theorem dL_law_560 : decode cL_law 560 = .ok (.iaload, 1) := by decide +kernel
theorem dL_law_561 : decode cL_law 561 = .ok (.aload_n 0, 1) := by decide +kernel
theorem dL_law_562 : decode cL_law 562 = .ok (.iload 4, 2) := by decide +kernel
theorem dL_law_564 : decode cL_law 564 = .ok (.iconst 3, 1) := by decide +kernel
theorem dL_law_565 : decode cL_law 565 = .ok (.iadd, 1) := by decide +kernel
theorem dL_law_566 : decode cL_law 566 = .ok (.iaload, 1) := by decide +kernel
theorem dL_law_567 : decode cL_law 567 = .ok (.aload_n 3, 1) := by decide +kernel
theorem dL_law_568 : decode cL_law 568 = .ok (.invokestatic 97, 3) := by decide +kernel
theorem dL_law_571 : decode cL_law 571 = .ok (.istore 5, 2) := by decide +kernel
theorem dL_law_573 : decode cL_law 573 = .ok (.aload_n 2, 1) := by decide +kernel
theorem dL_law_574 : decode cL_law 574 = .ok (.aload_n 0, 1) := by decide +kernel
theorem dL_law_575 : decode cL_law 575 = .ok (.iload 4, 2) := by decide +kernel
theorem dL_law_577 : decode cL_law 577 = .ok (.iconst 1, 1) := by decide +kernel
theorem dL_law_578 : decode cL_law 578 = .ok (.iadd, 1) := by decide +kernel
theorem dL_law_579 : decode cL_law 579 = .ok (.iaload, 1) := by decide +kernel
theorem dL_law_580 : decode cL_law 580 = .ok (.aload_n 0, 1) := by decide +kernel
theorem dL_law_581 : decode cL_law 581 = .ok (.iload 4, 2) := by decide +kernel
theorem dL_law_583 : decode cL_law 583 = .ok (.iconst 2, 1) := by decide +kernel
theorem dL_law_584 : decode cL_law 584 = .ok (.iadd, 1) := by decide +kernel
theorem dL_law_585 : decode cL_law 585 = .ok (.iaload, 1) := by decide +kernel
theorem dL_law_586 : decode cL_law 586 = .ok (.aload_n 0, 1) := by decide +kernel
theorem dL_law_587 : decode cL_law 587 = .ok (.iload 4, 2) := by decide +kernel
theorem dL_law_589 : decode cL_law 589 = .ok (.iconst 3, 1) := by decide +kernel
theorem dL_law_590 : decode cL_law 590 = .ok (.iadd, 1) := by decide +kernel
theorem dL_law_591 : decode cL_law 591 = .ok (.iaload, 1) := by decide +kernel
theorem dL_law_592 : decode cL_law 592 = .ok (.invokevirtual 100, 3) := by decide +kernel
theorem dL_law_595 : decode cL_law 595 = .ok (.istore 6, 2) := by decide +kernel
theorem dL_law_597 : decode cL_law 597 = .ok (.aload_n 2, 1) := by decide +kernel
theorem dL_law_598 : decode cL_law 598 = .ok (.invokevirtual 62, 3) := by decide +kernel
theorem dL_law_601 : decode cL_law 601 = .ok (.iload 5, 2) := by decide +kernel
theorem dL_law_603 : decode cL_law 603 = .ok (.if_icmp .eq 5, 3) := by decide +kernel
theorem dL_law_606 : decode cL_law 606 = .ok (.iconst 0, 1) := by decide +kernel
theorem dL_law_607 : decode cL_law 607 = .ok (.ireturn, 1) := by decide +kernel
theorem dL_law_608 : decode cL_law 608 = .ok (.iload 5, 2) := by decide +kernel
theorem dL_law_610 : decode cL_law 610 = .ok (.ifCond .ne 15, 3) := by decide +kernel
theorem dL_law_613 : decode cL_law 613 = .ok (.aload_n 3, 1) := by decide +kernel
theorem dL_law_614 : decode cL_law 614 = .ok (.iconst 0, 1) := by decide +kernel
theorem dL_law_615 : decode cL_law 615 = .ok (.laload, 1) := by decide +kernel
theorem dL_law_616 : decode cL_law 616 = .ok (.iload 6, 2) := by decide +kernel
theorem dL_law_618 : decode cL_law 618 = .ok (.i2l, 1) := by decide +kernel
theorem dL_law_619 : decode cL_law 619 = .ok (.lcmp, 1) := by decide +kernel
theorem dL_law_620 : decode cL_law 620 = .ok (.ifCond .eq 5, 3) := by decide +kernel
theorem dL_law_623 : decode cL_law 623 = .ok (.iconst 0, 1) := by decide +kernel
theorem dL_law_624 : decode cL_law 624 = .ok (.ireturn, 1) := by decide +kernel
theorem dL_law_625 : decode cL_law 625 = .ok (.goto 316, 3) := by decide +kernel
theorem dL_law_628 : decode cL_law 628 = .ok (.aload_n 1, 1) := by decide +kernel
theorem dL_law_629 : decode cL_law 629 = .ok (.aload_n 0, 1) := by decide +kernel
theorem dL_law_630 : decode cL_law 630 = .ok (.iload 4, 2) := by decide +kernel
theorem dL_law_632 : decode cL_law 632 = .ok (.iconst 1, 1) := by decide +kernel
theorem dL_law_633 : decode cL_law 633 = .ok (.iadd, 1) := by decide +kernel
theorem dL_law_634 : decode cL_law 634 = .ok (.iaload, 1) := by decide +kernel
theorem dL_law_635 : decode cL_law 635 = .ok (.aload_n 0, 1) := by decide +kernel
theorem dL_law_636 : decode cL_law 636 = .ok (.iload 4, 2) := by decide +kernel
theorem dL_law_638 : decode cL_law 638 = .ok (.iconst 2, 1) := by decide +kernel
theorem dL_law_639 : decode cL_law 639 = .ok (.iadd, 1) := by decide +kernel
theorem dL_law_640 : decode cL_law 640 = .ok (.iaload, 1) := by decide +kernel
theorem dL_law_641 : decode cL_law 641 = .ok (.aload_n 3, 1) := by decide +kernel
theorem dL_law_642 : decode cL_law 642 = .ok (.invokestatic 101, 3) := by decide +kernel
theorem dL_law_645 : decode cL_law 645 = .ok (.istore 5, 2) := by decide +kernel
theorem dL_law_647 : decode cL_law 647 = .ok (.aload_n 2, 1) := by decide +kernel
theorem dL_law_648 : decode cL_law 648 = .ok (.aload_n 0, 1) := by decide +kernel
theorem dL_law_649 : decode cL_law 649 = .ok (.iload 4, 2) := by decide +kernel
theorem dL_law_651 : decode cL_law 651 = .ok (.iconst 1, 1) := by decide +kernel
theorem dL_law_652 : decode cL_law 652 = .ok (.iadd, 1) := by decide +kernel
theorem dL_law_653 : decode cL_law 653 = .ok (.iaload, 1) := by decide +kernel
theorem dL_law_654 : decode cL_law 654 = .ok (.aload_n 0, 1) := by decide +kernel
theorem dL_law_655 : decode cL_law 655 = .ok (.iload 4, 2) := by decide +kernel
theorem dL_law_657 : decode cL_law 657 = .ok (.iconst 2, 1) := by decide +kernel
theorem dL_law_658 : decode cL_law 658 = .ok (.iadd, 1) := by decide +kernel
theorem dL_law_659 : decode cL_law 659 = .ok (.iaload, 1) := by decide +kernel
theorem dL_law_660 : decode cL_law 660 = .ok (.invokevirtual 103, 3) := by decide +kernel
theorem dL_law_663 : decode cL_law 663 = .ok (.istore 6, 2) := by decide +kernel
theorem dL_law_665 : decode cL_law 665 = .ok (.aload_n 2, 1) := by decide +kernel
theorem dL_law_666 : decode cL_law 666 = .ok (.invokevirtual 62, 3) := by decide +kernel
theorem dL_law_669 : decode cL_law 669 = .ok (.iload 5, 2) := by decide +kernel
theorem dL_law_671 : decode cL_law 671 = .ok (.if_icmp .eq 5, 3) := by decide +kernel
theorem dL_law_674 : decode cL_law 674 = .ok (.iconst 0, 1) := by decide +kernel
theorem dL_law_675 : decode cL_law 675 = .ok (.ireturn, 1) := by decide +kernel
theorem dL_law_676 : decode cL_law 676 = .ok (.iload 5, 2) := by decide +kernel
theorem dL_law_678 : decode cL_law 678 = .ok (.ifCond .ne 15, 3) := by decide +kernel
theorem dL_law_681 : decode cL_law 681 = .ok (.aload_n 3, 1) := by decide +kernel
theorem dL_law_682 : decode cL_law 682 = .ok (.iconst 0, 1) := by decide +kernel
theorem dL_law_683 : decode cL_law 683 = .ok (.laload, 1) := by decide +kernel
theorem dL_law_684 : decode cL_law 684 = .ok (.iload 6, 2) := by decide +kernel
theorem dL_law_686 : decode cL_law 686 = .ok (.i2l, 1) := by decide +kernel
theorem dL_law_687 : decode cL_law 687 = .ok (.lcmp, 1) := by decide +kernel
theorem dL_law_688 : decode cL_law 688 = .ok (.ifCond .eq 5, 3) := by decide +kernel
theorem dL_law_691 : decode cL_law 691 = .ok (.iconst 0, 1) := by decide +kernel
theorem dL_law_692 : decode cL_law 692 = .ok (.ireturn, 1) := by decide +kernel
theorem dL_law_693 : decode cL_law 693 = .ok (.goto 248, 3) := by decide +kernel
theorem dL_law_696 : decode cL_law 696 = .ok (.aload_n 1, 1) := by decide +kernel
theorem dL_law_697 : decode cL_law 697 = .ok (.aload_n 0, 1) := by decide +kernel
theorem dL_law_698 : decode cL_law 698 = .ok (.iload 4, 2) := by decide +kernel
theorem dL_law_700 : decode cL_law 700 = .ok (.iconst 1, 1) := by decide +kernel
theorem dL_law_701 : decode cL_law 701 = .ok (.iadd, 1) := by decide +kernel
theorem dL_law_702 : decode cL_law 702 = .ok (.iaload, 1) := by decide +kernel
theorem dL_law_703 : decode cL_law 703 = .ok (.aload_n 0, 1) := by decide +kernel
theorem dL_law_704 : decode cL_law 704 = .ok (.iload 4, 2) := by decide +kernel
theorem dL_law_706 : decode cL_law 706 = .ok (.iconst 2, 1) := by decide +kernel
theorem dL_law_707 : decode cL_law 707 = .ok (.iadd, 1) := by decide +kernel
theorem dL_law_708 : decode cL_law 708 = .ok (.iaload, 1) := by decide +kernel
theorem dL_law_709 : decode cL_law 709 = .ok (.aload_n 0, 1) := by decide +kernel
theorem dL_law_710 : decode cL_law 710 = .ok (.iload 4, 2) := by decide +kernel
theorem dL_law_712 : decode cL_law 712 = .ok (.iconst 3, 1) := by decide +kernel
theorem dL_law_713 : decode cL_law 713 = .ok (.iadd, 1) := by decide +kernel
theorem dL_law_714 : decode cL_law 714 = .ok (.iaload, 1) := by decide +kernel
theorem dL_law_715 : decode cL_law 715 = .ok (.aload_n 3, 1) := by decide +kernel
theorem dL_law_716 : decode cL_law 716 = .ok (.invokestatic 104, 3) := by decide +kernel
theorem dL_law_719 : decode cL_law 719 = .ok (.istore 5, 2) := by decide +kernel
theorem dL_law_721 : decode cL_law 721 = .ok (.aload_n 2, 1) := by decide +kernel
theorem dL_law_722 : decode cL_law 722 = .ok (.aload_n 0, 1) := by decide +kernel
theorem dL_law_723 : decode cL_law 723 = .ok (.iload 4, 2) := by decide +kernel
theorem dL_law_725 : decode cL_law 725 = .ok (.iconst 1, 1) := by decide +kernel
theorem dL_law_726 : decode cL_law 726 = .ok (.iadd, 1) := by decide +kernel
theorem dL_law_727 : decode cL_law 727 = .ok (.iaload, 1) := by decide +kernel
theorem dL_law_728 : decode cL_law 728 = .ok (.aload_n 0, 1) := by decide +kernel
theorem dL_law_729 : decode cL_law 729 = .ok (.iload 4, 2) := by decide +kernel
theorem dL_law_731 : decode cL_law 731 = .ok (.iconst 2, 1) := by decide +kernel
theorem dL_law_732 : decode cL_law 732 = .ok (.iadd, 1) := by decide +kernel
theorem dL_law_733 : decode cL_law 733 = .ok (.iaload, 1) := by decide +kernel
theorem dL_law_734 : decode cL_law 734 = .ok (.aload_n 0, 1) := by decide +kernel
theorem dL_law_735 : decode cL_law 735 = .ok (.iload 4, 2) := by decide +kernel
theorem dL_law_737 : decode cL_law 737 = .ok (.iconst 3, 1) := by decide +kernel
theorem dL_law_738 : decode cL_law 738 = .ok (.iadd, 1) := by decide +kernel
theorem dL_law_739 : decode cL_law 739 = .ok (.iaload, 1) := by decide +kernel
theorem dL_law_740 : decode cL_law 740 = .ok (.invokevirtual 106, 3) := by decide +kernel
theorem dL_law_743 : decode cL_law 743 = .ok (.istore 6, 2) := by decide +kernel
theorem dL_law_745 : decode cL_law 745 = .ok (.aload_n 2, 1) := by decide +kernel
theorem dL_law_746 : decode cL_law 746 = .ok (.invokevirtual 62, 3) := by decide +kernel
theorem dL_law_749 : decode cL_law 749 = .ok (.iload 5, 2) := by decide +kernel
theorem dL_law_751 : decode cL_law 751 = .ok (.if_icmp .eq 5, 3) := by decide +kernel
theorem dL_law_754 : decode cL_law 754 = .ok (.iconst 0, 1) := by decide +kernel
theorem dL_law_755 : decode cL_law 755 = .ok (.ireturn, 1) := by decide +kernel
theorem dL_law_756 : decode cL_law 756 = .ok (.iload 5, 2) := by decide +kernel
theorem dL_law_758 : decode cL_law 758 = .ok (.ifCond .ne 15, 3) := by decide +kernel
theorem dL_law_761 : decode cL_law 761 = .ok (.aload_n 3, 1) := by decide +kernel
theorem dL_law_762 : decode cL_law 762 = .ok (.iconst 0, 1) := by decide +kernel
theorem dL_law_763 : decode cL_law 763 = .ok (.laload, 1) := by decide +kernel
theorem dL_law_764 : decode cL_law 764 = .ok (.iload 6, 2) := by decide +kernel
theorem dL_law_766 : decode cL_law 766 = .ok (.i2l, 1) := by decide +kernel
theorem dL_law_767 : decode cL_law 767 = .ok (.lcmp, 1) := by decide +kernel
theorem dL_law_768 : decode cL_law 768 = .ok (.ifCond .eq 5, 3) := by decide +kernel
theorem dL_law_771 : decode cL_law 771 = .ok (.iconst 0, 1) := by decide +kernel
theorem dL_law_772 : decode cL_law 772 = .ok (.ireturn, 1) := by decide +kernel
theorem dL_law_773 : decode cL_law 773 = .ok (.goto 168, 3) := by decide +kernel
theorem dL_law_776 : decode cL_law 776 = .ok (.aload_n 1, 1) := by decide +kernel
theorem dL_law_777 : decode cL_law 777 = .ok (.aload_n 0, 1) := by decide +kernel
theorem dL_law_778 : decode cL_law 778 = .ok (.iload 4, 2) := by decide +kernel
theorem dL_law_780 : decode cL_law 780 = .ok (.iconst 1, 1) := by decide +kernel
theorem dL_law_781 : decode cL_law 781 = .ok (.iadd, 1) := by decide +kernel
theorem dL_law_782 : decode cL_law 782 = .ok (.iaload, 1) := by decide +kernel
theorem dL_law_783 : decode cL_law 783 = .ok (.aload_n 0, 1) := by decide +kernel
theorem dL_law_784 : decode cL_law 784 = .ok (.iload 4, 2) := by decide +kernel
theorem dL_law_786 : decode cL_law 786 = .ok (.iconst 2, 1) := by decide +kernel
theorem dL_law_787 : decode cL_law 787 = .ok (.iadd, 1) := by decide +kernel
theorem dL_law_788 : decode cL_law 788 = .ok (.iaload, 1) := by decide +kernel
theorem dL_law_789 : decode cL_law 789 = .ok (.aload_n 0, 1) := by decide +kernel
theorem dL_law_790 : decode cL_law 790 = .ok (.iload 4, 2) := by decide +kernel
theorem dL_law_792 : decode cL_law 792 = .ok (.iconst 3, 1) := by decide +kernel
theorem dL_law_793 : decode cL_law 793 = .ok (.iadd, 1) := by decide +kernel
theorem dL_law_794 : decode cL_law 794 = .ok (.iaload, 1) := by decide +kernel
theorem dL_law_795 : decode cL_law 795 = .ok (.ifCond .eq 7, 3) := by decide +kernel
theorem dL_law_798 : decode cL_law 798 = .ok (.iconst 1, 1) := by decide +kernel
theorem dL_law_799 : decode cL_law 799 = .ok (.goto 4, 3) := by decide +kernel
theorem dL_law_802 : decode cL_law 802 = .ok (.iconst 0, 1) := by decide +kernel
theorem dL_law_803 : decode cL_law 803 = .ok (.aload_n 3, 1) := by decide +kernel
theorem dL_law_804 : decode cL_law 804 = .ok (.invokestatic 107, 3) := by decide +kernel
theorem dL_law_807 : decode cL_law 807 = .ok (.istore 5, 2) := by decide +kernel
theorem dL_law_809 : decode cL_law 809 = .ok (.aload_n 2, 1) := by decide +kernel
theorem dL_law_810 : decode cL_law 810 = .ok (.aload_n 0, 1) := by decide +kernel
theorem dL_law_811 : decode cL_law 811 = .ok (.iload 4, 2) := by decide +kernel
theorem dL_law_813 : decode cL_law 813 = .ok (.iconst 1, 1) := by decide +kernel
theorem dL_law_814 : decode cL_law 814 = .ok (.iadd, 1) := by decide +kernel
theorem dL_law_815 : decode cL_law 815 = .ok (.iaload, 1) := by decide +kernel
theorem dL_law_816 : decode cL_law 816 = .ok (.aload_n 0, 1) := by decide +kernel
theorem dL_law_817 : decode cL_law 817 = .ok (.iload 4, 2) := by decide +kernel
theorem dL_law_819 : decode cL_law 819 = .ok (.iconst 2, 1) := by decide +kernel
theorem dL_law_820 : decode cL_law 820 = .ok (.iadd, 1) := by decide +kernel
theorem dL_law_821 : decode cL_law 821 = .ok (.iaload, 1) := by decide +kernel
theorem dL_law_822 : decode cL_law 822 = .ok (.aload_n 0, 1) := by decide +kernel
theorem dL_law_823 : decode cL_law 823 = .ok (.iload 4, 2) := by decide +kernel
theorem dL_law_825 : decode cL_law 825 = .ok (.iconst 3, 1) := by decide +kernel
theorem dL_law_826 : decode cL_law 826 = .ok (.iadd, 1) := by decide +kernel
theorem dL_law_827 : decode cL_law 827 = .ok (.iaload, 1) := by decide +kernel
theorem dL_law_828 : decode cL_law 828 = .ok (.ifCond .eq 7, 3) := by decide +kernel
theorem dL_law_831 : decode cL_law 831 = .ok (.iconst 1, 1) := by decide +kernel
theorem dL_law_832 : decode cL_law 832 = .ok (.goto 4, 3) := by decide +kernel
theorem dL_law_835 : decode cL_law 835 = .ok (.iconst 0, 1) := by decide +kernel
theorem dL_law_836 : decode cL_law 836 = .ok (.invokevirtual 110, 3) := by decide +kernel
theorem dL_law_839 : decode cL_law 839 = .ok (.istore 6, 2) := by decide +kernel
theorem dL_law_841 : decode cL_law 841 = .ok (.aload_n 2, 1) := by decide +kernel
theorem dL_law_842 : decode cL_law 842 = .ok (.invokevirtual 62, 3) := by decide +kernel
theorem dL_law_845 : decode cL_law 845 = .ok (.iload 5, 2) := by decide +kernel
theorem dL_law_847 : decode cL_law 847 = .ok (.if_icmp .eq 5, 3) := by decide +kernel
theorem dL_law_850 : decode cL_law 850 = .ok (.iconst 0, 1) := by decide +kernel
theorem dL_law_851 : decode cL_law 851 = .ok (.ireturn, 1) := by decide +kernel
theorem dL_law_852 : decode cL_law 852 = .ok (.iload 5, 2) := by decide +kernel
theorem dL_law_854 : decode cL_law 854 = .ok (.ifCond .ne 15, 3) := by decide +kernel
theorem dL_law_857 : decode cL_law 857 = .ok (.aload_n 3, 1) := by decide +kernel
theorem dL_law_858 : decode cL_law 858 = .ok (.iconst 0, 1) := by decide +kernel
theorem dL_law_859 : decode cL_law 859 = .ok (.laload, 1) := by decide +kernel
theorem dL_law_860 : decode cL_law 860 = .ok (.iload 6, 2) := by decide +kernel
theorem dL_law_862 : decode cL_law 862 = .ok (.i2l, 1) := by decide +kernel
theorem dL_law_863 : decode cL_law 863 = .ok (.lcmp, 1) := by decide +kernel
theorem dL_law_864 : decode cL_law 864 = .ok (.ifCond .eq 5, 3) := by decide +kernel
theorem dL_law_867 : decode cL_law 867 = .ok (.iconst 0, 1) := by decide +kernel
theorem dL_law_868 : decode cL_law 868 = .ok (.ireturn, 1) := by decide +kernel
theorem dL_law_869 : decode cL_law 869 = .ok (.goto 72, 3) := by decide +kernel
theorem dL_law_872 : decode cL_law 872 = .ok (.aload_n 1, 1) := by decide +kernel
theorem dL_law_873 : decode cL_law 873 = .ok (.aload_n 0, 1) := by decide +kernel
theorem dL_law_874 : decode cL_law 874 = .ok (.iload 4, 2) := by decide +kernel
theorem dL_law_876 : decode cL_law 876 = .ok (.iconst 1, 1) := by decide +kernel
theorem dL_law_877 : decode cL_law 877 = .ok (.iadd, 1) := by decide +kernel
theorem dL_law_878 : decode cL_law 878 = .ok (.iaload, 1) := by decide +kernel
theorem dL_law_879 : decode cL_law 879 = .ok (.aload_n 3, 1) := by decide +kernel
theorem dL_law_880 : decode cL_law 880 = .ok (.invokestatic 111, 3) := by decide +kernel
theorem dL_law_883 : decode cL_law 883 = .ok (.istore 5, 2) := by decide +kernel
theorem dL_law_885 : decode cL_law 885 = .ok (.aload_n 2, 1) := by decide +kernel
theorem dL_law_886 : decode cL_law 886 = .ok (.aload_n 0, 1) := by decide +kernel
theorem dL_law_887 : decode cL_law 887 = .ok (.iload 4, 2) := by decide +kernel
theorem dL_law_889 : decode cL_law 889 = .ok (.iconst 1, 1) := by decide +kernel
theorem dL_law_890 : decode cL_law 890 = .ok (.iadd, 1) := by decide +kernel
theorem dL_law_891 : decode cL_law 891 = .ok (.iaload, 1) := by decide +kernel
theorem dL_law_892 : decode cL_law 892 = .ok (.invokevirtual 113, 3) := by decide +kernel
theorem dL_law_895 : decode cL_law 895 = .ok (.istore 6, 2) := by decide +kernel
theorem dL_law_897 : decode cL_law 897 = .ok (.aload_n 2, 1) := by decide +kernel
theorem dL_law_898 : decode cL_law 898 = .ok (.invokevirtual 62, 3) := by decide +kernel
theorem dL_law_901 : decode cL_law 901 = .ok (.iload 5, 2) := by decide +kernel
theorem dL_law_903 : decode cL_law 903 = .ok (.if_icmp .eq 5, 3) := by decide +kernel
theorem dL_law_906 : decode cL_law 906 = .ok (.iconst 0, 1) := by decide +kernel
theorem dL_law_907 : decode cL_law 907 = .ok (.ireturn, 1) := by decide +kernel
theorem dL_law_908 : decode cL_law 908 = .ok (.iload 5, 2) := by decide +kernel
theorem dL_law_910 : decode cL_law 910 = .ok (.ifCond .ne 15, 3) := by decide +kernel
theorem dL_law_913 : decode cL_law 913 = .ok (.aload_n 3, 1) := by decide +kernel
theorem dL_law_914 : decode cL_law 914 = .ok (.iconst 0, 1) := by decide +kernel
theorem dL_law_915 : decode cL_law 915 = .ok (.laload, 1) := by decide +kernel
theorem dL_law_916 : decode cL_law 916 = .ok (.iload 6, 2) := by decide +kernel
theorem dL_law_918 : decode cL_law 918 = .ok (.i2l, 1) := by decide +kernel
theorem dL_law_919 : decode cL_law 919 = .ok (.lcmp, 1) := by decide +kernel
theorem dL_law_920 : decode cL_law 920 = .ok (.ifCond .eq 5, 3) := by decide +kernel
theorem dL_law_923 : decode cL_law 923 = .ok (.iconst 0, 1) := by decide +kernel
theorem dL_law_924 : decode cL_law 924 = .ok (.ireturn, 1) := by decide +kernel
theorem dL_law_925 : decode cL_law 925 = .ok (.goto 16, 3) := by decide +kernel
theorem dL_law_928 : decode cL_law 928 = .ok (.aload_n 1, 1) := by decide +kernel
theorem dL_law_929 : decode cL_law 929 = .ok (.invokevirtual 114, 3) := by decide +kernel
theorem dL_law_932 : decode cL_law 932 = .ok (.aload_n 2, 1) := by decide +kernel
theorem dL_law_933 : decode cL_law 933 = .ok (.invokevirtual 117, 3) := by decide +kernel
theorem dL_law_936 : decode cL_law 936 = .ok (.if_icmp .eq 5, 3) := by decide +kernel
theorem dL_law_939 : decode cL_law 939 = .ok (.iconst 0, 1) := by decide +kernel
theorem dL_law_940 : decode cL_law 940 = .ok (.ireturn, 1) := by decide +kernel
theorem dL_law_941 : decode cL_law 941 = .ok (.iinc 4 4, 3) := by decide +kernel
theorem dL_law_944 : decode cL_law 944 = .ok (.goto (-921), 3) := by decide +kernel
theorem dL_law_947 : decode cL_law 947 = .ok (.iconst 1, 1) := by decide +kernel
theorem dL_law_948 : decode cL_law 948 = .ok (.ireturn, 1) := by decide +kernel
end
section
section TBS
/-- the words that every method may use -/
def TB : List Cond := lw_tbl.filter goodWord
theorem tb_in {w : Cond} {i : Nat} (h : lw_tbl[i]? = some w) (g : goodWord w = true) : w ∈ TB := List.mem_filter.mpr ⟨List.mem_of_getElem? h, g⟩
theorem tb_good : GoodIn TB TB := fun w h => ⟨h, good_of_word (List.mem_filter.mp h).2⟩
theorem tb_goodc {y : MethodName} {cc : ByteArray} {nL : Nat} {ret : Option FieldType} (h : Cond.code y cc nL ret ∈ TB) : GoodIn TB (.code y cc nL ret :: TB) := fun w hw => (List.mem_cons.mp hw).elim (fun e => e ▸ tb_good _ h) (tb_good w)
/-- private members of nest mates that are called -/
def NS : List (String × Nat × MethodName) := [(RX8, 23, yX2_init), (RX2, 11, yX3_init), (RX8, 30, yX0_init), (RX8, 37, yX6_init), (RX8, 44, yX5_init), (RX5, 30, yX1_init), (RX8, 51, yX3_init), (RX4, 39, yX8_isBase), (RX2, 88, yX8_isSign), (RX2, 96, yX8_isLetter)]
def Nst (U : State) : Prop := ∀ q ∈ NS, va_Nw (.methodLinkNest q.1 q.2.1 q.2.2 "ReadBins") U
/-- a class's fields, as the rows want them -/
def Fk (ci : Nat) (R0 : String) (T : u_T) (N : Nat) (ty : Nat → FieldType) : Prop := vwCl[ci]? = some (R0, T, N) ∧ (∀ w ∈ u_ws R0 T N, w ∈ TB) ∧ (∀ k, k < N → parseFieldDescriptor (T k).2.2.1 = some (ty k)) ∧ ∀ a, a < N → ∀ b, b < N → a ≠ b → (T a).2.1 ≠ (T b).2.1
/-- what a call of an instance method needs of the tables -/
def Wv (own : String) (index : Nat) (y : MethodName) (bytes : ByteArray) (maxL : Nat) (ret : Option FieldType) (np : Nat) : Prop := Cond.methodLink own index y ∈ TB ∧ Cond.instanceMethod y ∈ TB ∧ Cond.selects y.cls y y ∈ TB ∧ Cond.initialized y.cls ∈ TB ∧ Cond.code y bytes maxL ret ∈ TB ∧ maxL ≤ 11 ∧ (y.cls ≠ "java/lang/invoke/MethodHandle" ∧ y.cls ≠ "java/lang/invoke/VarHandle" ∧ (parseMethodDescriptor y.desc).map (fun d => d.parameters.length) = some np)
def Wst (own : String) (index : Nat) (y : MethodName) (bytes : ByteArray) (maxL : Nat) (ret : Option FieldType) (np : Nat) : Prop := Cond.methodLink own index y ∈ TB ∧ Cond.static y ∈ TB ∧ Cond.initialized y.cls ∈ TB ∧ Cond.code y bytes maxL ret ∈ TB ∧ maxL ≤ 11 ∧ (y.cls ≠ "java/lang/invoke/MethodHandle" ∧ y.cls ≠ "java/lang/invoke/VarHandle" ∧ (parseMethodDescriptor y.desc).map (fun d => d.parameters.length) = some np)
def Wsn (own : String) (index : Nat) (y : MethodName) (bytes : ByteArray) (maxL : Nat) (ret : Option FieldType) (np : Nat) : Prop := (own, index, y) ∈ NS ∧ Cond.static y ∈ TB ∧ Cond.initialized y.cls ∈ TB ∧ Cond.code y bytes maxL ret ∈ TB ∧ maxL ≤ 11 ∧ (y.cls ≠ "java/lang/invoke/MethodHandle" ∧ y.cls ≠ "java/lang/invoke/VarHandle" ∧ (parseMethodDescriptor y.desc).map (fun d => d.parameters.length) = some np)
end TBS
end
section
theorem in_X0 : ∀ w ∈ u_ws RX0 TX0 5, w ∈ lw_tbl := by decide +kernel
theorem gd_X0 : ∀ w ∈ u_ws RX0 TX0 5, goodWord w = true := by decide +kernel
theorem in_X1 : ∀ w ∈ u_ws RX1 TX1 9, w ∈ lw_tbl := by decide +kernel
theorem gd_X1 : ∀ w ∈ u_ws RX1 TX1 9, goodWord w = true := by decide +kernel
theorem in_X2 : ∀ w ∈ u_ws RX2 TX2 5, w ∈ lw_tbl := by decide +kernel
theorem gd_X2 : ∀ w ∈ u_ws RX2 TX2 5, goodWord w = true := by decide +kernel
theorem in_X3 : ∀ w ∈ u_ws RX3 TX3 6, w ∈ lw_tbl := by decide +kernel
theorem gd_X3 : ∀ w ∈ u_ws RX3 TX3 6, goodWord w = true := by decide +kernel
theorem in_X4 : ∀ w ∈ u_ws RX4 TX4 2, w ∈ lw_tbl := by decide +kernel
theorem gd_X4 : ∀ w ∈ u_ws RX4 TX4 2, goodWord w = true := by decide +kernel
theorem in_X5 : ∀ w ∈ u_ws RX5 TX5 9, w ∈ lw_tbl := by decide +kernel
theorem gd_X5 : ∀ w ∈ u_ws RX5 TX5 9, goodWord w = true := by decide +kernel
theorem in_X6 : ∀ w ∈ u_ws RX6 TX6 6, w ∈ lw_tbl := by decide +kernel
theorem gd_X6 : ∀ w ∈ u_ws RX6 TX6 6, goodWord w = true := by decide +kernel
theorem in_X8 : ∀ w ∈ u_ws RX8 TX8 8, w ∈ lw_tbl := by decide +kernel
theorem gd_X8 : ∀ w ∈ u_ws RX8 TX8 8, goodWord w = true := by decide +kernel
theorem in_X9 : ∀ w ∈ u_ws RX9 TX9 34, w ∈ lw_tbl := by decide +kernel
theorem gd_X9 : ∀ w ∈ u_ws RX9 TX9 34, goodWord w = true := by decide +kernel
theorem F_X0 : Fk 0 RX0 TX0 5 tyX0 := ⟨rfl, fun w hw => List.mem_filter.mpr ⟨in_X0 w hw, gd_X0 w hw⟩, tyX0_ok, nmX0⟩
theorem F_X1 : Fk 1 RX1 TX1 9 tyX1 := ⟨rfl, fun w hw => List.mem_filter.mpr ⟨in_X1 w hw, gd_X1 w hw⟩, tyX1_ok, nmX1⟩
theorem F_X2 : Fk 2 RX2 TX2 5 tyX2 := ⟨rfl, fun w hw => List.mem_filter.mpr ⟨in_X2 w hw, gd_X2 w hw⟩, tyX2_ok, nmX2⟩
theorem F_X3 : Fk 3 RX3 TX3 6 tyX3 := ⟨rfl, fun w hw => List.mem_filter.mpr ⟨in_X3 w hw, gd_X3 w hw⟩, tyX3_ok, nmX3⟩
theorem F_X4 : Fk 4 RX4 TX4 2 tyX4 := ⟨rfl, fun w hw => List.mem_filter.mpr ⟨in_X4 w hw, gd_X4 w hw⟩, tyX4_ok, nmX4⟩
theorem F_X5 : Fk 5 RX5 TX5 9 tyX5 := ⟨rfl, fun w hw => List.mem_filter.mpr ⟨in_X5 w hw, gd_X5 w hw⟩, tyX5_ok, nmX5⟩
theorem F_X6 : Fk 6 RX6 TX6 6 tyX6 := ⟨rfl, fun w hw => List.mem_filter.mpr ⟨in_X6 w hw, gd_X6 w hw⟩, tyX6_ok, nmX6⟩
theorem F_X8 : Fk 7 RX8 TX8 8 tyX8 := ⟨rfl, fun w hw => List.mem_filter.mpr ⟨in_X8 w hw, gd_X8 w hw⟩, tyX8_ok, nmX8⟩
theorem F_X9 : Fk 8 RX9 TX9 34 tyX9 := ⟨rfl, fun w hw => List.mem_filter.mpr ⟨in_X9 w hw, gd_X9 w hw⟩, tyX9_ok, nmX9⟩
set_option maxRecDepth 20000 in
theorem fl_X8_14 : Cond.fieldLink RX8 14 "ReadBins" (TX8 0).2.1 (TX8 0).2.2.1 ∈ TB := tb_in (i := 280) rfl rfl
set_option maxRecDepth 20000 in
theorem fl_X8_18 : Cond.fieldLink RX8 18 "ReadBins" (TX8 1).2.1 (TX8 1).2.2.1 ∈ TB := tb_in (i := 281) rfl rfl
set_option maxRecDepth 20000 in
theorem fl_X8_24 : Cond.fieldLink RX8 24 "ReadBins" (TX8 2).2.1 (TX8 2).2.2.1 ∈ TB := tb_in (i := 282) rfl rfl
set_option maxRecDepth 20000 in
theorem fl_X8_31 : Cond.fieldLink RX8 31 "ReadBins" (TX8 3).2.1 (TX8 3).2.2.1 ∈ TB := tb_in (i := 283) rfl rfl
set_option maxRecDepth 20000 in
theorem fl_X8_38 : Cond.fieldLink RX8 38 "ReadBins" (TX8 4).2.1 (TX8 4).2.2.1 ∈ TB := tb_in (i := 284) rfl rfl
set_option maxRecDepth 20000 in
theorem fl_X8_45 : Cond.fieldLink RX8 45 "ReadBins" (TX8 5).2.1 (TX8 5).2.2.1 ∈ TB := tb_in (i := 285) rfl rfl
set_option maxRecDepth 20000 in
theorem fl_X8_52 : Cond.fieldLink RX8 52 "ReadBins" (TX8 6).2.1 (TX8 6).2.2.1 ∈ TB := tb_in (i := 286) rfl rfl
set_option maxRecDepth 20000 in
theorem fl_X8_56 : Cond.fieldLink RX8 56 "ReadBins" (TX8 7).2.1 (TX8 7).2.2.1 ∈ TB := tb_in (i := 287) rfl rfl
set_option maxRecDepth 20000 in
theorem fl_X0_9 : Cond.fieldLink RX0 9 "ReadBins$Barcodes" (TX0 0).2.1 (TX0 0).2.2.1 ∈ TB := tb_in (i := 166) rfl rfl
set_option maxRecDepth 20000 in
theorem fl_X0_20 : Cond.fieldLink RX0 20 "ReadBins$Barcodes" (TX0 1).2.1 (TX0 1).2.2.1 ∈ TB := tb_in (i := 167) rfl rfl
set_option maxRecDepth 20000 in
theorem fl_X0_24 : Cond.fieldLink RX0 24 "ReadBins$Barcodes" (TX0 4).2.1 (TX0 4).2.2.1 ∈ TB := tb_in (i := 170) rfl rfl
set_option maxRecDepth 20000 in
theorem fl_X0_28 : Cond.fieldLink RX0 28 "ReadBins$Barcodes" (TX0 2).2.1 (TX0 2).2.2.1 ∈ TB := tb_in (i := 168) rfl rfl
set_option maxRecDepth 20000 in
theorem fl_X0_31 : Cond.fieldLink RX0 31 "ReadBins$Barcodes" (TX0 3).2.1 (TX0 3).2.2.1 ∈ TB := tb_in (i := 169) rfl rfl
set_option maxRecDepth 20000 in
theorem fl_X1_9 : Cond.fieldLink RX1 9 "ReadBins$Grouping" (TX1 0).2.1 (TX1 0).2.2.1 ∈ TB := tb_in (i := 221) rfl rfl
set_option maxRecDepth 20000 in
theorem fl_X1_15 : Cond.fieldLink RX1 15 "ReadBins$Grouping" (TX1 1).2.1 (TX1 1).2.2.1 ∈ TB := tb_in (i := 222) rfl rfl
set_option maxRecDepth 20000 in
theorem fl_X1_18 : Cond.fieldLink RX1 18 "ReadBins$Grouping" (TX1 2).2.1 (TX1 2).2.2.1 ∈ TB := tb_in (i := 223) rfl rfl
set_option maxRecDepth 20000 in
theorem fl_X1_21 : Cond.fieldLink RX1 21 "ReadBins$Grouping" (TX1 3).2.1 (TX1 3).2.2.1 ∈ TB := tb_in (i := 224) rfl rfl
set_option maxRecDepth 20000 in
theorem fl_X1_24 : Cond.fieldLink RX1 24 "ReadBins$Grouping" (TX1 4).2.1 (TX1 4).2.2.1 ∈ TB := tb_in (i := 225) rfl rfl
set_option maxRecDepth 20000 in
theorem fl_X1_27 : Cond.fieldLink RX1 27 "ReadBins$Grouping" (TX1 5).2.1 (TX1 5).2.2.1 ∈ TB := tb_in (i := 226) rfl rfl
set_option maxRecDepth 20000 in
theorem fl_X1_30 : Cond.fieldLink RX1 30 "ReadBins$Grouping" (TX1 6).2.1 (TX1 6).2.2.1 ∈ TB := tb_in (i := 227) rfl rfl
set_option maxRecDepth 20000 in
theorem fl_X1_39 : Cond.fieldLink RX1 39 "ReadBins$Grouping" (TX1 7).2.1 (TX1 7).2.2.1 ∈ TB := tb_in (i := 228) rfl rfl
set_option maxRecDepth 20000 in
theorem fl_X1_43 : Cond.fieldLink RX1 43 "ReadBins$Grouping" (TX1 8).2.1 (TX1 8).2.2.1 ∈ TB := tb_in (i := 229) rfl rfl
set_option maxRecDepth 20000 in
theorem fl_X2_12 : Cond.fieldLink RX2 12 "ReadBins$Parser" (TX2 0).2.1 (TX2 0).2.2.1 ∈ TB := tb_in (i := 142) rfl rfl
set_option maxRecDepth 20000 in
theorem fl_X2_18 : Cond.fieldLink RX2 18 "ReadBins$Parser" (TX2 1).2.1 (TX2 1).2.2.1 ∈ TB := tb_in (i := 143) rfl rfl
set_option maxRecDepth 20000 in
theorem fl_X2_42 : Cond.fieldLink RX2 42 "ReadBins$Parser" (TX2 4).2.1 (TX2 4).2.2.1 ∈ TB := tb_in (i := 146) rfl rfl
set_option maxRecDepth 20000 in
theorem fl_X2_49 : Cond.fieldLink RX2 49 "ReadBins$Parser" (TX2 2).2.1 (TX2 2).2.2.1 ∈ TB := tb_in (i := 144) rfl rfl
set_option maxRecDepth 20000 in
theorem fl_X2_58 : Cond.fieldLink RX2 58 "ReadBins$Parser" (TX2 3).2.1 (TX2 3).2.2.1 ∈ TB := tb_in (i := 145) rfl rfl
set_option maxRecDepth 20000 in
theorem fl_X3_14 : Cond.fieldLink RX3 14 "ReadBins$Reads" (TX3 0).2.1 (TX3 0).2.2.1 ∈ TB := tb_in (i := 123) rfl rfl
set_option maxRecDepth 20000 in
theorem fl_X3_20 : Cond.fieldLink RX3 20 "ReadBins$Reads" (TX3 1).2.1 (TX3 1).2.2.1 ∈ TB := tb_in (i := 124) rfl rfl
set_option maxRecDepth 20000 in
theorem fl_X3_24 : Cond.fieldLink RX3 24 "ReadBins$Reads" (TX3 2).2.1 (TX3 2).2.2.1 ∈ TB := tb_in (i := 125) rfl rfl
set_option maxRecDepth 20000 in
theorem fl_X3_27 : Cond.fieldLink RX3 27 "ReadBins$Reads" (TX3 3).2.1 (TX3 3).2.2.1 ∈ TB := tb_in (i := 126) rfl rfl
set_option maxRecDepth 20000 in
theorem fl_X3_33 : Cond.fieldLink RX3 33 "ReadBins$Reads" (TX3 4).2.1 (TX3 4).2.2.1 ∈ TB := tb_in (i := 127) rfl rfl
set_option maxRecDepth 20000 in
theorem fl_X3_37 : Cond.fieldLink RX3 37 "ReadBins$Reads" (TX3 5).2.1 (TX3 5).2.2.1 ∈ TB := tb_in (i := 128) rfl rfl
set_option maxRecDepth 20000 in
theorem fl_X4_15 : Cond.fieldLink RX4 15 "ReadBins$Row" (TX4 0).2.1 (TX4 0).2.2.1 ∈ TB := tb_in (i := 101) rfl rfl
set_option maxRecDepth 20000 in
theorem fl_X4_21 : Cond.fieldLink RX4 21 "ReadBins$Row" (TX4 1).2.1 (TX4 1).2.2.1 ∈ TB := tb_in (i := 102) rfl rfl
set_option maxRecDepth 20000 in
theorem fl_X5_9 : Cond.fieldLink RX5 9 "ReadBins$Sorting" (TX5 0).2.1 (TX5 0).2.2.1 ∈ TB := tb_in (i := 250) rfl rfl
set_option maxRecDepth 20000 in
theorem fl_X5_15 : Cond.fieldLink RX5 15 "ReadBins$Sorting" (TX5 1).2.1 (TX5 1).2.2.1 ∈ TB := tb_in (i := 251) rfl rfl
set_option maxRecDepth 20000 in
theorem fl_X5_18 : Cond.fieldLink RX5 18 "ReadBins$Sorting" (TX5 2).2.1 (TX5 2).2.2.1 ∈ TB := tb_in (i := 252) rfl rfl
set_option maxRecDepth 20000 in
theorem fl_X5_21 : Cond.fieldLink RX5 21 "ReadBins$Sorting" (TX5 3).2.1 (TX5 3).2.2.1 ∈ TB := tb_in (i := 253) rfl rfl
set_option maxRecDepth 20000 in
theorem fl_X5_24 : Cond.fieldLink RX5 24 "ReadBins$Sorting" (TX5 4).2.1 (TX5 4).2.2.1 ∈ TB := tb_in (i := 254) rfl rfl
set_option maxRecDepth 20000 in
theorem fl_X5_31 : Cond.fieldLink RX5 31 "ReadBins$Sorting" (TX5 5).2.1 (TX5 5).2.2.1 ∈ TB := tb_in (i := 255) rfl rfl
set_option maxRecDepth 20000 in
theorem fl_X5_35 : Cond.fieldLink RX5 35 "ReadBins$Sorting" (TX5 6).2.1 (TX5 6).2.2.1 ∈ TB := tb_in (i := 256) rfl rfl
set_option maxRecDepth 20000 in
theorem fl_X5_39 : Cond.fieldLink RX5 39 "ReadBins$Sorting" (TX5 8).2.1 (TX5 8).2.2.1 ∈ TB := tb_in (i := 258) rfl rfl
set_option maxRecDepth 20000 in
theorem fl_X5_43 : Cond.fieldLink RX5 43 "ReadBins$Sorting" (TX5 7).2.1 (TX5 7).2.2.1 ∈ TB := tb_in (i := 257) rfl rfl
set_option maxRecDepth 20000 in
theorem fl_X6_14 : Cond.fieldLink RX6 14 "ReadBins$Trimmer" (TX6 0).2.1 (TX6 0).2.2.1 ∈ TB := tb_in (i := 190) rfl rfl
set_option maxRecDepth 20000 in
theorem fl_X6_20 : Cond.fieldLink RX6 20 "ReadBins$Trimmer" (TX6 3).2.1 (TX6 3).2.2.1 ∈ TB := tb_in (i := 193) rfl rfl
set_option maxRecDepth 20000 in
theorem fl_X6_36 : Cond.fieldLink RX6 36 "ReadBins$Trimmer" (TX6 1).2.1 (TX6 1).2.2.1 ∈ TB := tb_in (i := 191) rfl rfl
set_option maxRecDepth 20000 in
theorem fl_X6_39 : Cond.fieldLink RX6 39 "ReadBins$Trimmer" (TX6 2).2.1 (TX6 2).2.2.1 ∈ TB := tb_in (i := 192) rfl rfl
set_option maxRecDepth 20000 in
theorem fl_X6_42 : Cond.fieldLink RX6 42 "ReadBins$Trimmer" (TX6 4).2.1 (TX6 4).2.2.1 ∈ TB := tb_in (i := 194) rfl rfl
set_option maxRecDepth 20000 in
theorem fl_X6_45 : Cond.fieldLink RX6 45 "ReadBins$Trimmer" (TX6 5).2.1 (TX6 5).2.2.1 ∈ TB := tb_in (i := 195) rfl rfl
set_option maxRecDepth 20000 in
theorem fl_X9_7 : Cond.fieldLink RX9 7 "ReadBinsModel" (TX9 0).2.1 (TX9 0).2.2.1 ∈ TB := tb_in (i := 967) rfl rfl
set_option maxRecDepth 20000 in
theorem fl_X9_13 : Cond.fieldLink RX9 13 "ReadBinsModel" (TX9 2).2.1 (TX9 2).2.2.1 ∈ TB := tb_in (i := 969) rfl rfl
set_option maxRecDepth 20000 in
theorem fl_X9_17 : Cond.fieldLink RX9 17 "ReadBinsModel" (TX9 4).2.1 (TX9 4).2.2.1 ∈ TB := tb_in (i := 971) rfl rfl
set_option maxRecDepth 20000 in
theorem fl_X9_20 : Cond.fieldLink RX9 20 "ReadBinsModel" (TX9 5).2.1 (TX9 5).2.2.1 ∈ TB := tb_in (i := 972) rfl rfl
set_option maxRecDepth 20000 in
theorem fl_X9_23 : Cond.fieldLink RX9 23 "ReadBinsModel" (TX9 6).2.1 (TX9 6).2.2.1 ∈ TB := tb_in (i := 973) rfl rfl
set_option maxRecDepth 20000 in
theorem fl_X9_26 : Cond.fieldLink RX9 26 "ReadBinsModel" (TX9 7).2.1 (TX9 7).2.2.1 ∈ TB := tb_in (i := 974) rfl rfl
set_option maxRecDepth 20000 in
theorem fl_X9_29 : Cond.fieldLink RX9 29 "ReadBinsModel" (TX9 8).2.1 (TX9 8).2.2.1 ∈ TB := tb_in (i := 975) rfl rfl
set_option maxRecDepth 20000 in
theorem fl_X9_32 : Cond.fieldLink RX9 32 "ReadBinsModel" (TX9 11).2.1 (TX9 11).2.2.1 ∈ TB := tb_in (i := 978) rfl rfl
set_option maxRecDepth 20000 in
theorem fl_X9_35 : Cond.fieldLink RX9 35 "ReadBinsModel" (TX9 14).2.1 (TX9 14).2.2.1 ∈ TB := tb_in (i := 981) rfl rfl
set_option maxRecDepth 20000 in
theorem fl_X9_38 : Cond.fieldLink RX9 38 "ReadBinsModel" (TX9 18).2.1 (TX9 18).2.2.1 ∈ TB := tb_in (i := 985) rfl rfl
set_option maxRecDepth 20000 in
theorem fl_X9_41 : Cond.fieldLink RX9 41 "ReadBinsModel" (TX9 22).2.1 (TX9 22).2.2.1 ∈ TB := tb_in (i := 989) rfl rfl
set_option maxRecDepth 20000 in
theorem fl_X9_44 : Cond.fieldLink RX9 44 "ReadBinsModel" (TX9 23).2.1 (TX9 23).2.2.1 ∈ TB := tb_in (i := 990) rfl rfl
set_option maxRecDepth 20000 in
theorem fl_X9_47 : Cond.fieldLink RX9 47 "ReadBinsModel" (TX9 24).2.1 (TX9 24).2.2.1 ∈ TB := tb_in (i := 991) rfl rfl
set_option maxRecDepth 20000 in
theorem fl_X9_50 : Cond.fieldLink RX9 50 "ReadBinsModel" (TX9 25).2.1 (TX9 25).2.2.1 ∈ TB := tb_in (i := 992) rfl rfl
set_option maxRecDepth 20000 in
theorem fl_X9_54 : Cond.fieldLink RX9 54 "ReadBinsModel" (TX9 26).2.1 (TX9 26).2.2.1 ∈ TB := tb_in (i := 993) rfl rfl
set_option maxRecDepth 20000 in
theorem fl_X9_57 : Cond.fieldLink RX9 57 "ReadBinsModel" (TX9 27).2.1 (TX9 27).2.2.1 ∈ TB := tb_in (i := 994) rfl rfl
set_option maxRecDepth 20000 in
theorem fl_X9_60 : Cond.fieldLink RX9 60 "ReadBinsModel" (TX9 28).2.1 (TX9 28).2.2.1 ∈ TB := tb_in (i := 995) rfl rfl
set_option maxRecDepth 20000 in
theorem fl_X9_63 : Cond.fieldLink RX9 63 "ReadBinsModel" (TX9 9).2.1 (TX9 9).2.2.1 ∈ TB := tb_in (i := 976) rfl rfl
set_option maxRecDepth 20000 in
theorem fl_X9_66 : Cond.fieldLink RX9 66 "ReadBinsModel" (TX9 3).2.1 (TX9 3).2.2.1 ∈ TB := tb_in (i := 970) rfl rfl
set_option maxRecDepth 20000 in
theorem fl_X9_69 : Cond.fieldLink RX9 69 "ReadBinsModel" (TX9 1).2.1 (TX9 1).2.2.1 ∈ TB := tb_in (i := 968) rfl rfl
set_option maxRecDepth 20000 in
theorem fl_X9_74 : Cond.fieldLink RX9 74 "ReadBinsModel" (TX9 32).2.1 (TX9 32).2.2.1 ∈ TB := tb_in (i := 999) rfl rfl
set_option maxRecDepth 20000 in
theorem fl_X9_77 : Cond.fieldLink RX9 77 "ReadBinsModel" (TX9 31).2.1 (TX9 31).2.2.1 ∈ TB := tb_in (i := 998) rfl rfl
set_option maxRecDepth 20000 in
theorem fl_X9_88 : Cond.fieldLink RX9 88 "ReadBinsModel" (TX9 10).2.1 (TX9 10).2.2.1 ∈ TB := tb_in (i := 977) rfl rfl
set_option maxRecDepth 20000 in
theorem fl_X9_114 : Cond.fieldLink RX9 114 "ReadBinsModel" (TX9 19).2.1 (TX9 19).2.2.1 ∈ TB := tb_in (i := 986) rfl rfl
set_option maxRecDepth 20000 in
theorem fl_X9_118 : Cond.fieldLink RX9 118 "ReadBinsModel" (TX9 12).2.1 (TX9 12).2.2.1 ∈ TB := tb_in (i := 979) rfl rfl
set_option maxRecDepth 20000 in
theorem fl_X9_121 : Cond.fieldLink RX9 121 "ReadBinsModel" (TX9 13).2.1 (TX9 13).2.2.1 ∈ TB := tb_in (i := 980) rfl rfl
set_option maxRecDepth 20000 in
theorem fl_X9_131 : Cond.fieldLink RX9 131 "ReadBinsModel" (TX9 15).2.1 (TX9 15).2.2.1 ∈ TB := tb_in (i := 982) rfl rfl
set_option maxRecDepth 20000 in
theorem fl_X9_134 : Cond.fieldLink RX9 134 "ReadBinsModel" (TX9 16).2.1 (TX9 16).2.2.1 ∈ TB := tb_in (i := 983) rfl rfl
set_option maxRecDepth 20000 in
theorem fl_X9_137 : Cond.fieldLink RX9 137 "ReadBinsModel" (TX9 17).2.1 (TX9 17).2.2.1 ∈ TB := tb_in (i := 984) rfl rfl
set_option maxRecDepth 20000 in
theorem fl_X9_143 : Cond.fieldLink RX9 143 "ReadBinsModel" (TX9 33).2.1 (TX9 33).2.2.1 ∈ TB := tb_in (i := 1000) rfl rfl
set_option maxRecDepth 20000 in
theorem fl_X9_146 : Cond.fieldLink RX9 146 "ReadBinsModel" (TX9 21).2.1 (TX9 21).2.2.1 ∈ TB := tb_in (i := 988) rfl rfl
set_option maxRecDepth 20000 in
theorem fl_X9_169 : Cond.fieldLink RX9 169 "ReadBinsModel" (TX9 20).2.1 (TX9 20).2.2.1 ∈ TB := tb_in (i := 987) rfl rfl
set_option maxRecDepth 20000 in
theorem fl_X9_202 : Cond.fieldLink RX9 202 "ReadBinsModel" (TX9 30).2.1 (TX9 30).2.2.1 ∈ TB := tb_in (i := 997) rfl rfl
set_option maxRecDepth 20000 in
theorem fl_X9_212 : Cond.fieldLink RX9 212 "ReadBinsModel" (TX9 29).2.1 (TX9 29).2.2.1 ∈ TB := tb_in (i := 996) rfl rfl
set_option maxRecDepth 20000 in
theorem wv_X0_34 : Wv RX0 34 yX4_isOfBases cX4_isOfBases 4 (some .boolean) 2 := ⟨tb_in (i := 317) rfl rfl, tb_in (i := 318) rfl rfl, tb_in (i := 319) rfl rfl, tb_in (i := 68) rfl rfl, tb_in (i := 320) rfl rfl, by decide, by decide +kernel, by decide +kernel, by decide +kernel⟩
set_option maxRecDepth 20000 in
theorem wv_X0_38 : Wv RX0 38 yX4_size cX4_size 1 (some .int) 0 := ⟨tb_in (i := 328) rfl rfl, tb_in (i := 329) rfl rfl, tb_in (i := 330) rfl rfl, tb_in (i := 68) rfl rfl, tb_in (i := 331) rfl rfl, by decide, by decide +kernel, by decide +kernel, by decide +kernel⟩
set_option maxRecDepth 20000 in
theorem wv_X0_42 : Wv RX0 42 yX0_distance cX0_distance 6 (some .int) 2 := ⟨tb_in (i := 332) rfl rfl, tb_in (i := 334) rfl rfl, tb_in (i := 0) rfl rfl, tb_in (i := 72) rfl rfl, tb_in (i := 335) rfl rfl, by decide, by decide +kernel, by decide +kernel, by decide +kernel⟩
set_option maxRecDepth 20000 in
theorem wv_X0_52 : Wv RX0 52 yX0_keep cX0_keep 4 none 1 := ⟨tb_in (i := 340) rfl rfl, tb_in (i := 342) rfl rfl, tb_in (i := 1) rfl rfl, tb_in (i := 72) rfl rfl, tb_in (i := 343) rfl rfl, by decide, by decide +kernel, by decide +kernel, by decide +kernel⟩
set_option maxRecDepth 20000 in
theorem wv_X0_56 : Wv RX0 56 yX4_clear cX4_clear 1 none 0 := ⟨tb_in (i := 649) rfl rfl, tb_in (i := 345) rfl rfl, tb_in (i := 346) rfl rfl, tb_in (i := 68) rfl rfl, tb_in (i := 347) rfl rfl, by decide, by decide +kernel, by decide +kernel, by decide +kernel⟩
set_option maxRecDepth 20000 in
theorem wv_X0_59 : Wv RX0 59 yX3_letterOctet cX3_letterOctet 3 (some .int) 2 := ⟨tb_in (i := 650) rfl rfl, tb_in (i := 651) rfl rfl, tb_in (i := 652) rfl rfl, tb_in (i := 71) rfl rfl, tb_in (i := 653) rfl rfl, by decide, by decide +kernel, by decide +kernel, by decide +kernel⟩
set_option maxRecDepth 20000 in
theorem wv_X0_64 : Wv RX0 64 yX4_add cX4_add 2 none 1 := ⟨tb_in (i := 658) rfl rfl, tb_in (i := 365) rfl rfl, tb_in (i := 366) rfl rfl, tb_in (i := 68) rfl rfl, tb_in (i := 367) rfl rfl, by decide, by decide +kernel, by decide +kernel, by decide +kernel⟩
set_option maxRecDepth 20000 in
theorem wv_X0_67 : Wv RX0 67 yX4_at cX4_at 2 (some .int) 1 := ⟨tb_in (i := 336) rfl rfl, tb_in (i := 322) rfl rfl, tb_in (i := 323) rfl rfl, tb_in (i := 68) rfl rfl, tb_in (i := 324) rfl rfl, by decide, by decide +kernel, by decide +kernel, by decide +kernel⟩
set_option maxRecDepth 20000 in
theorem wv_X1_47 : Wst RX1 47 yX1_isRead cX1_isRead 1 (some .boolean) 1 := ⟨tb_in (i := 721) rfl rfl, tb_in (i := 722) rfl rfl, tb_in (i := 75) rfl rfl, tb_in (i := 723) rfl rfl, by decide, by decide +kernel, by decide +kernel, by decide +kernel⟩
set_option maxRecDepth 20000 in
theorem wv_X1_51 : Wv RX1 51 yX3_letterOctet cX3_letterOctet 3 (some .int) 2 := ⟨tb_in (i := 724) rfl rfl, tb_in (i := 651) rfl rfl, tb_in (i := 652) rfl rfl, tb_in (i := 71) rfl rfl, tb_in (i := 653) rfl rfl, by decide, by decide +kernel, by decide +kernel, by decide +kernel⟩
set_option maxRecDepth 20000 in
theorem wv_X1_56 : Wv RX1 56 yX1_firstAlike cX1_firstAlike 3 (some .int) 1 := ⟨tb_in (i := 725) rfl rfl, tb_in (i := 727) rfl rfl, tb_in (i := 21) rfl rfl, tb_in (i := 75) rfl rfl, tb_in (i := 728) rfl rfl, by decide, by decide +kernel, by decide +kernel, by decide +kernel⟩
set_option maxRecDepth 20000 in
theorem wv_X1_60 : Wst RX1 60 yX1_isBin cX1_isBin 1 (some .boolean) 1 := ⟨tb_in (i := 741) rfl rfl, tb_in (i := 742) rfl rfl, tb_in (i := 75) rfl rfl, tb_in (i := 743) rfl rfl, by decide, by decide +kernel, by decide +kernel, by decide +kernel⟩
set_option maxRecDepth 20000 in
theorem wv_X1_63 : Wv RX1 63 yX1_greatestOpen cX1_greatestOpen 4 (some .int) 1 := ⟨tb_in (i := 744) rfl rfl, tb_in (i := 746) rfl rfl, tb_in (i := 23) rfl rfl, tb_in (i := 75) rfl rfl, tb_in (i := 747) rfl rfl, by decide, by decide +kernel, by decide +kernel, by decide +kernel⟩
set_option maxRecDepth 20000 in
theorem wv_X1_66 : Wv RX1 66 yX1_firstOpen cX1_firstOpen 3 (some .int) 1 := ⟨tb_in (i := 756) rfl rfl, tb_in (i := 758) rfl rfl, tb_in (i := 26) rfl rfl, tb_in (i := 75) rfl rfl, tb_in (i := 759) rfl rfl, by decide, by decide +kernel, by decide +kernel, by decide +kernel⟩
set_option maxRecDepth 20000 in
theorem wv_X1_69 : Wv RX1 69 yX1_growGroup cX1_growGroup 7 none 3 := ⟨tb_in (i := 760) rfl rfl, tb_in (i := 762) rfl rfl, tb_in (i := 27) rfl rfl, tb_in (i := 75) rfl rfl, tb_in (i := 763) rfl rfl, by decide, by decide +kernel, by decide +kernel, by decide +kernel⟩
set_option maxRecDepth 20000 in
theorem wv_X1_73 : Wv RX1 73 yX1_isMember cX1_isMember 4 (some .boolean) 3 := ⟨tb_in (i := 880) rfl rfl, tb_in (i := 881) rfl rfl, tb_in (i := 882) rfl rfl, tb_in (i := 75) rfl rfl, tb_in (i := 883) rfl rfl, by decide, by decide +kernel, by decide +kernel, by decide +kernel⟩
set_option maxRecDepth 20000 in
theorem wv_X1_77 : Wv RX1 77 yX1_distance cX1_distance 5 (some .int) 2 := ⟨tb_in (i := 729) rfl rfl, tb_in (i := 731) rfl rfl, tb_in (i := 22) rfl rfl, tb_in (i := 75) rfl rfl, tb_in (i := 732) rfl rfl, by decide, by decide +kernel, by decide +kernel, by decide +kernel⟩
set_option maxRecDepth 20000 in
theorem wv_X1_80 : Wv RX1 80 yX1_isOpen cX1_isOpen 3 (some .boolean) 2 := ⟨tb_in (i := 748) rfl rfl, tb_in (i := 750) rfl rfl, tb_in (i := 24) rfl rfl, tb_in (i := 75) rfl rfl, tb_in (i := 751) rfl rfl, by decide, by decide +kernel, by decide +kernel, by decide +kernel⟩
set_option maxRecDepth 20000 in
theorem wv_X1_84 : Wv RX1 84 yX1_comesBefore cX1_comesBefore 5 (some .boolean) 2 := ⟨tb_in (i := 752) rfl rfl, tb_in (i := 754) rfl rfl, tb_in (i := 25) rfl rfl, tb_in (i := 75) rfl rfl, tb_in (i := 755) rfl rfl, by decide, by decide +kernel, by decide +kernel, by decide +kernel⟩
set_option maxRecDepth 20000 in
theorem wv_X1_87 : Wv RX1 87 yX1_draws cX1_draws 3 (some .boolean) 2 := ⟨tb_in (i := 764) rfl rfl, tb_in (i := 766) rfl rfl, tb_in (i := 28) rfl rfl, tb_in (i := 75) rfl rfl, tb_in (i := 767) rfl rfl, by decide, by decide +kernel, by decide +kernel, by decide +kernel⟩
set_option maxRecDepth 20000 in
theorem wv_X2_22 : Wv RX2 22 yX3_restart cX3_restart 2 none 1 := ⟨tb_in (i := 481) rfl rfl, tb_in (i := 482) rfl rfl, tb_in (i := 483) rfl rfl, tb_in (i := 71) rfl rfl, tb_in (i := 484) rfl rfl, by decide, by decide +kernel, by decide +kernel, by decide +kernel⟩
set_option maxRecDepth 20000 in
theorem wv_X2_26 : Wv RX2 26 yX2_enter cX2_enter 2 (some .int) 1 := ⟨tb_in (i := 486) rfl rfl, tb_in (i := 488) rfl rfl, tb_in (i := 3) rfl rfl, tb_in (i := 70) rfl rfl, tb_in (i := 489) rfl rfl, by decide, by decide +kernel, by decide +kernel, by decide +kernel⟩
set_option maxRecDepth 20000 in
theorem wv_X2_30 : Wv RX2 30 yX4_size cX4_size 1 (some .int) 0 := ⟨tb_in (i := 490) rfl rfl, tb_in (i := 329) rfl rfl, tb_in (i := 330) rfl rfl, tb_in (i := 68) rfl rfl, tb_in (i := 331) rfl rfl, by decide, by decide +kernel, by decide +kernel, by decide +kernel⟩
set_option maxRecDepth 20000 in
theorem wv_X2_36 : Wv RX2 36 yX4_at cX4_at 2 (some .int) 1 := ⟨tb_in (i := 491) rfl rfl, tb_in (i := 322) rfl rfl, tb_in (i := 323) rfl rfl, tb_in (i := 68) rfl rfl, tb_in (i := 324) rfl rfl, by decide, by decide +kernel, by decide +kernel, by decide +kernel⟩
set_option maxRecDepth 20000 in
theorem wv_X2_39 : Wv RX2 39 yX2_step cX2_step 2 (some .int) 1 := ⟨tb_in (i := 492) rfl rfl, tb_in (i := 494) rfl rfl, tb_in (i := 4) rfl rfl, tb_in (i := 70) rfl rfl, tb_in (i := 495) rfl rfl, by decide, by decide +kernel, by decide +kernel, by decide +kernel⟩
set_option maxRecDepth 20000 in
theorem wv_X2_45 : Wv RX2 45 yX2_isWhole cX2_isWhole 1 (some .boolean) 0 := ⟨tb_in (i := 570) rfl rfl, tb_in (i := 572) rfl rfl, tb_in (i := 12) rfl rfl, tb_in (i := 70) rfl rfl, tb_in (i := 573) rfl rfl, by decide, by decide +kernel, by decide +kernel, by decide +kernel⟩
set_option maxRecDepth 20000 in
theorem wv_X2_52 : Wv RX2 52 yX3_count cX3_count 1 (some .int) 0 := ⟨tb_in (i := 500) rfl rfl, tb_in (i := 501) rfl rfl, tb_in (i := 502) rfl rfl, tb_in (i := 71) rfl rfl, tb_in (i := 503) rfl rfl, by decide, by decide +kernel, by decide +kernel, by decide +kernel⟩
set_option maxRecDepth 20000 in
theorem wv_X2_55 : Wv RX2 55 yX2_mayEndHere cX2_mayEndHere 1 (some .boolean) 0 := ⟨tb_in (i := 537) rfl rfl, tb_in (i := 539) rfl rfl, tb_in (i := 9) rfl rfl, tb_in (i := 70) rfl rfl, tb_in (i := 540) rfl rfl, by decide, by decide +kernel, by decide +kernel, by decide +kernel⟩
set_option maxRecDepth 20000 in
theorem wv_X2_61 : Wv RX2 61 yX2_last cX2_last 1 (some .int) 0 := ⟨tb_in (i := 513) rfl rfl, tb_in (i := 515) rfl rfl, tb_in (i := 7) rfl rfl, tb_in (i := 70) rfl rfl, tb_in (i := 516) rfl rfl, by decide, by decide +kernel, by decide +kernel, by decide +kernel⟩
set_option maxRecDepth 20000 in
theorem wv_X2_64 : Wv RX2 64 yX3_letterCount cX3_letterCount 2 (some .int) 1 := ⟨tb_in (i := 541) rfl rfl, tb_in (i := 542) rfl rfl, tb_in (i := 543) rfl rfl, tb_in (i := 71) rfl rfl, tb_in (i := 544) rfl rfl, by decide, by decide +kernel, by decide +kernel, by decide +kernel⟩
set_option maxRecDepth 20000 in
theorem wv_X2_67 : Wv RX2 67 yX2_stepMark cX2_stepMark 2 (some .int) 1 := ⟨tb_in (i := 496) rfl rfl, tb_in (i := 498) rfl rfl, tb_in (i := 5) rfl rfl, tb_in (i := 70) rfl rfl, tb_in (i := 499) rfl rfl, by decide, by decide +kernel, by decide +kernel, by decide +kernel⟩
set_option maxRecDepth 20000 in
theorem wv_X2_70 : Wv RX2 70 yX2_stepName cX2_stepName 3 (some .int) 1 := ⟨tb_in (i := 509) rfl rfl, tb_in (i := 511) rfl rfl, tb_in (i := 6) rfl rfl, tb_in (i := 70) rfl rfl, tb_in (i := 512) rfl rfl, by decide, by decide +kernel, by decide +kernel, by decide +kernel⟩
set_option maxRecDepth 20000 in
theorem wv_X2_73 : Wv RX2 73 yX2_stepLetters cX2_stepLetters 2 (some .int) 1 := ⟨tb_in (i := 533) rfl rfl, tb_in (i := 535) rfl rfl, tb_in (i := 8) rfl rfl, tb_in (i := 70) rfl rfl, tb_in (i := 536) rfl rfl, by decide, by decide +kernel, by decide +kernel, by decide +kernel⟩
set_option maxRecDepth 20000 in
theorem wv_X2_76 : Wv RX2 76 yX2_stepBehindPlus cX2_stepBehindPlus 3 (some .int) 1 := ⟨tb_in (i := 553) rfl rfl, tb_in (i := 555) rfl rfl, tb_in (i := 10) rfl rfl, tb_in (i := 70) rfl rfl, tb_in (i := 556) rfl rfl, by decide, by decide +kernel, by decide +kernel, by decide +kernel⟩
set_option maxRecDepth 20000 in
theorem wv_X2_79 : Wv RX2 79 yX2_stepQualities cX2_stepQualities 2 (some .int) 1 := ⟨tb_in (i := 562) rfl rfl, tb_in (i := 564) rfl rfl, tb_in (i := 11) rfl rfl, tb_in (i := 70) rfl rfl, tb_in (i := 565) rfl rfl, by decide, by decide +kernel, by decide +kernel, by decide +kernel⟩
set_option maxRecDepth 20000 in
theorem wv_X2_82 : Wv RX2 82 yX3_begin cX3_begin 1 none 0 := ⟨tb_in (i := 504) rfl rfl, tb_in (i := 505) rfl rfl, tb_in (i := 506) rfl rfl, tb_in (i := 71) rfl rfl, tb_in (i := 507) rfl rfl, by decide, by decide +kernel, by decide +kernel, by decide +kernel⟩
set_option maxRecDepth 20000 in
theorem wv_X2_85 : Wv RX2 85 yX3_nameSize cX3_nameSize 2 (some .int) 1 := ⟨tb_in (i := 517) rfl rfl, tb_in (i := 518) rfl rfl, tb_in (i := 519) rfl rfl, tb_in (i := 71) rfl rfl, tb_in (i := 520) rfl rfl, by decide, by decide +kernel, by decide +kernel, by decide +kernel⟩
set_option maxRecDepth 20000 in
theorem wv_X2_88 : Wsn RX2 88 yX8_isSign cX8_isSign 1 (some .boolean) 1 := ⟨List.mem_of_getElem? (i := 8) rfl, tb_in (i := 526) rfl rfl, tb_in (i := 67) rfl rfl, tb_in (i := 527) rfl rfl, by decide, by decide +kernel, by decide +kernel, by decide +kernel⟩
set_option maxRecDepth 20000 in
theorem wv_X2_92 : Wv RX2 92 yX3_addToName cX3_addToName 2 none 1 := ⟨tb_in (i := 528) rfl rfl, tb_in (i := 529) rfl rfl, tb_in (i := 530) rfl rfl, tb_in (i := 71) rfl rfl, tb_in (i := 531) rfl rfl, by decide, by decide +kernel, by decide +kernel, by decide +kernel⟩
set_option maxRecDepth 20000 in
theorem wv_X2_96 : Wsn RX2 96 yX8_isLetter cX8_isLetter 1 (some .boolean) 1 := ⟨List.mem_of_getElem? (i := 9) rfl, tb_in (i := 546) rfl rfl, tb_in (i := 67) rfl rfl, tb_in (i := 547) rfl rfl, by decide, by decide +kernel, by decide +kernel, by decide +kernel⟩
set_option maxRecDepth 20000 in
theorem wv_X2_99 : Wv RX2 99 yX3_addLetter cX3_addLetter 2 none 1 := ⟨tb_in (i := 549) rfl rfl, tb_in (i := 550) rfl rfl, tb_in (i := 551) rfl rfl, tb_in (i := 71) rfl rfl, tb_in (i := 552) rfl rfl, by decide, by decide +kernel, by decide +kernel, by decide +kernel⟩
set_option maxRecDepth 20000 in
theorem wv_X2_102 : Wv RX2 102 yX3_nameOctet cX3_nameOctet 3 (some .int) 2 := ⟨tb_in (i := 557) rfl rfl, tb_in (i := 558) rfl rfl, tb_in (i := 559) rfl rfl, tb_in (i := 71) rfl rfl, tb_in (i := 560) rfl rfl, by decide, by decide +kernel, by decide +kernel, by decide +kernel⟩
set_option maxRecDepth 20000 in
theorem wv_X2_106 : Wv RX2 106 yX3_addQuality cX3_addQuality 2 none 1 := ⟨tb_in (i := 566) rfl rfl, tb_in (i := 567) rfl rfl, tb_in (i := 568) rfl rfl, tb_in (i := 71) rfl rfl, tb_in (i := 569) rfl rfl, by decide, by decide +kernel, by decide +kernel, by decide +kernel⟩
set_option maxRecDepth 20000 in
theorem wv_X3_30 : Wv RX3 30 yX4_clear cX4_clear 1 none 0 := ⟨tb_in (i := 485) rfl rfl, tb_in (i := 345) rfl rfl, tb_in (i := 346) rfl rfl, tb_in (i := 68) rfl rfl, tb_in (i := 347) rfl rfl, by decide, by decide +kernel, by decide +kernel, by decide +kernel⟩
set_option maxRecDepth 20000 in
theorem wv_X3_41 : Wv RX3 41 yX4_size cX4_size 1 (some .int) 0 := ⟨tb_in (i := 508) rfl rfl, tb_in (i := 329) rfl rfl, tb_in (i := 330) rfl rfl, tb_in (i := 68) rfl rfl, tb_in (i := 331) rfl rfl, by decide, by decide +kernel, by decide +kernel, by decide +kernel⟩
set_option maxRecDepth 20000 in
theorem wv_X3_45 : Wv RX3 45 yX3_has cX3_has 2 (some .boolean) 1 := ⟨tb_in (i := 521) rfl rfl, tb_in (i := 522) rfl rfl, tb_in (i := 523) rfl rfl, tb_in (i := 71) rfl rfl, tb_in (i := 524) rfl rfl, by decide, by decide +kernel, by decide +kernel, by decide +kernel⟩
set_option maxRecDepth 20000 in
theorem wv_X3_49 : Wv RX3 49 yX4_add cX4_add 2 none 1 := ⟨tb_in (i := 532) rfl rfl, tb_in (i := 365) rfl rfl, tb_in (i := 366) rfl rfl, tb_in (i := 68) rfl rfl, tb_in (i := 367) rfl rfl, by decide, by decide +kernel, by decide +kernel, by decide +kernel⟩
set_option maxRecDepth 20000 in
theorem wv_X3_52 : Wv RX3 52 yX4_at cX4_at 2 (some .int) 1 := ⟨tb_in (i := 561) rfl rfl, tb_in (i := 322) rfl rfl, tb_in (i := 323) rfl rfl, tb_in (i := 68) rfl rfl, tb_in (i := 324) rfl rfl, by decide, by decide +kernel, by decide +kernel, by decide +kernel⟩
set_option maxRecDepth 20000 in
theorem wv_X3_56 : Wv RX3 56 yX3_hasLetter cX3_hasLetter 3 (some .boolean) 2 := ⟨tb_in (i := 654) rfl rfl, tb_in (i := 656) rfl rfl, tb_in (i := 14) rfl rfl, tb_in (i := 71) rfl rfl, tb_in (i := 657) rfl rfl, by decide, by decide +kernel, by decide +kernel, by decide +kernel⟩
set_option maxRecDepth 20000 in
theorem wv_X4_25 : Wv RX4 25 yX4_clear cX4_clear 1 none 0 := ⟨tb_in (i := 362) rfl rfl, tb_in (i := 345) rfl rfl, tb_in (i := 346) rfl rfl, tb_in (i := 68) rfl rfl, tb_in (i := 347) rfl rfl, by decide, by decide +kernel, by decide +kernel, by decide +kernel⟩
set_option maxRecDepth 20000 in
theorem wv_X4_28 : Wv RX4 28 yX4_size cX4_size 1 (some .int) 0 := ⟨tb_in (i := 363) rfl rfl, tb_in (i := 329) rfl rfl, tb_in (i := 330) rfl rfl, tb_in (i := 68) rfl rfl, tb_in (i := 331) rfl rfl, by decide, by decide +kernel, by decide +kernel, by decide +kernel⟩
set_option maxRecDepth 20000 in
theorem wv_X4_31 : Wv RX4 31 yX4_at cX4_at 2 (some .int) 1 := ⟨tb_in (i := 321) rfl rfl, tb_in (i := 322) rfl rfl, tb_in (i := 323) rfl rfl, tb_in (i := 68) rfl rfl, tb_in (i := 324) rfl rfl, by decide, by decide +kernel, by decide +kernel, by decide +kernel⟩
set_option maxRecDepth 20000 in
theorem wv_X4_35 : Wv RX4 35 yX4_add cX4_add 2 none 1 := ⟨tb_in (i := 364) rfl rfl, tb_in (i := 365) rfl rfl, tb_in (i := 366) rfl rfl, tb_in (i := 68) rfl rfl, tb_in (i := 367) rfl rfl, by decide, by decide +kernel, by decide +kernel, by decide +kernel⟩
set_option maxRecDepth 20000 in
theorem wv_X4_39 : Wsn RX4 39 yX8_isBase cX8_isBase 1 (some .boolean) 1 := ⟨List.mem_of_getElem? (i := 7) rfl, tb_in (i := 326) rfl rfl, tb_in (i := 67) rfl rfl, tb_in (i := 327) rfl rfl, by decide, by decide +kernel, by decide +kernel, by decide +kernel⟩
set_option maxRecDepth 20000 in
theorem wv_X5_46 : Wv RX5 46 yX1_restart cX1_restart 4 none 2 := ⟨tb_in (i := 635) rfl rfl, tb_in (i := 636) rfl rfl, tb_in (i := 637) rfl rfl, tb_in (i := 75) rfl rfl, tb_in (i := 638) rfl rfl, by decide, by decide +kernel, by decide +kernel, by decide +kernel⟩
set_option maxRecDepth 20000 in
theorem wv_X5_50 : Wv RX5 50 yX6_begin cX6_begin 1 (some .int) 0 := ⟨tb_in (i := 695) rfl rfl, tb_in (i := 696) rfl rfl, tb_in (i := 697) rfl rfl, tb_in (i := 73) rfl rfl, tb_in (i := 698) rfl rfl, by decide, by decide +kernel, by decide +kernel, by decide +kernel⟩
set_option maxRecDepth 20000 in
theorem wv_X5_56 : Wv RX5 56 yX6_end cX6_end 1 (some .int) 0 := ⟨tb_in (i := 699) rfl rfl, tb_in (i := 700) rfl rfl, tb_in (i := 701) rfl rfl, tb_in (i := 73) rfl rfl, tb_in (i := 702) rfl rfl, by decide, by decide +kernel, by decide +kernel, by decide +kernel⟩
set_option maxRecDepth 20000 in
theorem wv_X5_59 : Wv RX5 59 yX6_isTooShort cX6_isTooShort 1 (some .boolean) 0 := ⟨tb_in (i := 703) rfl rfl, tb_in (i := 704) rfl rfl, tb_in (i := 705) rfl rfl, tb_in (i := 73) rfl rfl, tb_in (i := 706) rfl rfl, by decide, by decide +kernel, by decide +kernel, by decide +kernel⟩
set_option maxRecDepth 20000 in
theorem wv_X5_63 : Wv RX5 63 yX5_sumOfQualities cX5_sumOfQualities 5 (some .int) 2 := ⟨tb_in (i := 707) rfl rfl, tb_in (i := 709) rfl rfl, tb_in (i := 20) rfl rfl, tb_in (i := 74) rfl rfl, tb_in (i := 710) rfl rfl, by decide, by decide +kernel, by decide +kernel, by decide +kernel⟩
set_option maxRecDepth 20000 in
theorem wv_X5_67 : Wv RX5 67 yX1_formGroups cX1_formGroups 4 none 1 := ⟨tb_in (i := 737) rfl rfl, tb_in (i := 738) rfl rfl, tb_in (i := 739) rfl rfl, tb_in (i := 75) rfl rfl, tb_in (i := 740) rfl rfl, by decide, by decide +kernel, by decide +kernel, by decide +kernel⟩
set_option maxRecDepth 20000 in
theorem wv_X5_71 : Wv RX5 71 yX5_has cX5_has 2 (some .boolean) 1 := ⟨tb_in (i := 776) rfl rfl, tb_in (i := 778) rfl rfl, tb_in (i := 29) rfl rfl, tb_in (i := 74) rfl rfl, tb_in (i := 779) rfl rfl, by decide, by decide +kernel, by decide +kernel, by decide +kernel⟩
set_option maxRecDepth 20000 in
theorem wv_X5_75 : Wv RX5 75 yX5_binOf cX5_binOf 2 (some .int) 1 := ⟨tb_in (i := 772) rfl rfl, tb_in (i := 773) rfl rfl, tb_in (i := 774) rfl rfl, tb_in (i := 74) rfl rfl, tb_in (i := 775) rfl rfl, by decide, by decide +kernel, by decide +kernel, by decide +kernel⟩
set_option maxRecDepth 20000 in
theorem wv_X5_79 : Wv RX5 79 yX5_isShort cX5_isShort 2 (some .boolean) 1 := ⟨tb_in (i := 863) rfl rfl, tb_in (i := 808) rfl rfl, tb_in (i := 809) rfl rfl, tb_in (i := 74) rfl rfl, tb_in (i := 810) rfl rfl, by decide, by decide +kernel, by decide +kernel, by decide +kernel⟩
set_option maxRecDepth 20000 in
theorem wv_X5_82 : Wv RX5 82 yX1_isMember cX1_isMember 4 (some .boolean) 3 := ⟨tb_in (i := 888) rfl rfl, tb_in (i := 881) rfl rfl, tb_in (i := 882) rfl rfl, tb_in (i := 75) rfl rfl, tb_in (i := 883) rfl rfl, by decide, by decide +kernel, by decide +kernel, by decide +kernel⟩
set_option maxRecDepth 20000 in
theorem wv_X5_86 : Wv RX5 86 yX5_worthOf cX5_worthOf 2 (some .int) 1 := ⟨tb_in (i := 889) rfl rfl, tb_in (i := 891) rfl rfl, tb_in (i := 32) rfl rfl, tb_in (i := 74) rfl rfl, tb_in (i := 892) rfl rfl, by decide, by decide +kernel, by decide +kernel, by decide +kernel⟩
set_option maxRecDepth 20000 in
theorem wv_X5_89 : Wv RX5 89 yX1_groupOf cX1_groupOf 2 (some .int) 1 := ⟨tb_in (i := 925) rfl rfl, tb_in (i := 812) rfl rfl, tb_in (i := 813) rfl rfl, tb_in (i := 75) rfl rfl, tb_in (i := 814) rfl rfl, by decide, by decide +kernel, by decide +kernel, by decide +kernel⟩
set_option maxRecDepth 20000 in
theorem wv_X5_92 : Wv RX5 92 yX5_bestOf cX5_bestOf 5 (some .int) 2 := ⟨tb_in (i := 926) rfl rfl, tb_in (i := 885) rfl rfl, tb_in (i := 886) rfl rfl, tb_in (i := 74) rfl rfl, tb_in (i := 887) rfl rfl, by decide, by decide +kernel, by decide +kernel, by decide +kernel⟩
set_option maxRecDepth 20000 in
theorem wv_X5_96 : Wv RX5 96 yX3_quality cX3_quality 3 (some .int) 2 := ⟨tb_in (i := 711) rfl rfl, tb_in (i := 680) rfl rfl, tb_in (i := 681) rfl rfl, tb_in (i := 71) rfl rfl, tb_in (i := 682) rfl rfl, by decide, by decide +kernel, by decide +kernel, by decide +kernel⟩
set_option maxRecDepth 20000 in
theorem wv_X6_24 : Wv RX6 24 yX4_size cX4_size 1 (some .int) 0 := ⟨tb_in (i := 356) rfl rfl, tb_in (i := 329) rfl rfl, tb_in (i := 330) rfl rfl, tb_in (i := 68) rfl rfl, tb_in (i := 331) rfl rfl, by decide, by decide +kernel, by decide +kernel, by decide +kernel⟩
set_option maxRecDepth 20000 in
theorem wv_X6_28 : Wv RX6 28 yX4_isOfBases cX4_isOfBases 4 (some .boolean) 2 := ⟨tb_in (i := 357) rfl rfl, tb_in (i := 318) rfl rfl, tb_in (i := 319) rfl rfl, tb_in (i := 68) rfl rfl, tb_in (i := 320) rfl rfl, by decide, by decide +kernel, by decide +kernel, by decide +kernel⟩
set_option maxRecDepth 20000 in
theorem wv_X6_32 : Wv RX6 32 yX4_copy cX4_copy 3 none 1 := ⟨tb_in (i := 358) rfl rfl, tb_in (i := 359) rfl rfl, tb_in (i := 360) rfl rfl, tb_in (i := 68) rfl rfl, tb_in (i := 361) rfl rfl, by decide, by decide +kernel, by decide +kernel, by decide +kernel⟩
set_option maxRecDepth 20000 in
theorem wv_X6_48 : Wv RX6 48 yX3_letterCount cX3_letterCount 2 (some .int) 1 := ⟨tb_in (i := 663) rfl rfl, tb_in (i := 542) rfl rfl, tb_in (i := 543) rfl rfl, tb_in (i := 71) rfl rfl, tb_in (i := 544) rfl rfl, by decide, by decide +kernel, by decide +kernel, by decide +kernel⟩
set_option maxRecDepth 20000 in
theorem wv_X6_54 : Wv RX6 54 yX6_cutAdapter cX6_cutAdapter 4 none 2 := ⟨tb_in (i := 664) rfl rfl, tb_in (i := 666) rfl rfl, tb_in (i := 15) rfl rfl, tb_in (i := 73) rfl rfl, tb_in (i := 667) rfl rfl, by decide, by decide +kernel, by decide +kernel, by decide +kernel⟩
set_option maxRecDepth 20000 in
theorem wv_X6_58 : Wv RX6 58 yX6_cutWorstEnd cX6_cutWorstEnd 7 none 2 := ⟨tb_in (i := 675) rfl rfl, tb_in (i := 677) rfl rfl, tb_in (i := 17) rfl rfl, tb_in (i := 73) rfl rfl, tb_in (i := 678) rfl rfl, by decide, by decide +kernel, by decide +kernel, by decide +kernel⟩
set_option maxRecDepth 20000 in
theorem wv_X6_61 : Wv RX6 61 yX6_cutWorstBegin cX6_cutWorstBegin 7 none 2 := ⟨tb_in (i := 683) rfl rfl, tb_in (i := 685) rfl rfl, tb_in (i := 18) rfl rfl, tb_in (i := 73) rfl rfl, tb_in (i := 686) rfl rfl, by decide, by decide +kernel, by decide +kernel, by decide +kernel⟩
set_option maxRecDepth 20000 in
theorem wv_X6_64 : Wv RX6 64 yX6_cutUnknown cX6_cutUnknown 3 none 2 := ⟨tb_in (i := 687) rfl rfl, tb_in (i := 689) rfl rfl, tb_in (i := 19) rfl rfl, tb_in (i := 73) rfl rfl, tb_in (i := 690) rfl rfl, by decide, by decide +kernel, by decide +kernel, by decide +kernel⟩
set_option maxRecDepth 20000 in
theorem wv_X6_67 : Wv RX6 67 yX6_adapterBegins cX6_adapterBegins 8 (some .boolean) 3 := ⟨tb_in (i := 668) rfl rfl, tb_in (i := 670) rfl rfl, tb_in (i := 16) rfl rfl, tb_in (i := 73) rfl rfl, tb_in (i := 671) rfl rfl, by decide, by decide +kernel, by decide +kernel, by decide +kernel⟩
set_option maxRecDepth 20000 in
theorem wv_X6_77 : Wv RX6 77 yX4_at cX4_at 2 (some .int) 1 := ⟨tb_in (i := 673) rfl rfl, tb_in (i := 322) rfl rfl, tb_in (i := 323) rfl rfl, tb_in (i := 68) rfl rfl, tb_in (i := 324) rfl rfl, by decide, by decide +kernel, by decide +kernel, by decide +kernel⟩
set_option maxRecDepth 20000 in
theorem wv_X6_80 : Wv RX6 80 yX3_letterOctet cX3_letterOctet 3 (some .int) 2 := ⟨tb_in (i := 674) rfl rfl, tb_in (i := 651) rfl rfl, tb_in (i := 652) rfl rfl, tb_in (i := 71) rfl rfl, tb_in (i := 653) rfl rfl, by decide, by decide +kernel, by decide +kernel, by decide +kernel⟩
set_option maxRecDepth 20000 in
theorem wv_X6_83 : Wv RX6 83 yX3_quality cX3_quality 3 (some .int) 2 := ⟨tb_in (i := 679) rfl rfl, tb_in (i := 680) rfl rfl, tb_in (i := 681) rfl rfl, tb_in (i := 71) rfl rfl, tb_in (i := 682) rfl rfl, by decide, by decide +kernel, by decide +kernel, by decide +kernel⟩
set_option maxRecDepth 20000 in
theorem wv_X7_9 : Wv RX7 9 yX4_add cX4_add 2 none 1 := ⟨tb_in (i := 937) rfl rfl, tb_in (i := 365) rfl rfl, tb_in (i := 366) rfl rfl, tb_in (i := 68) rfl rfl, tb_in (i := 367) rfl rfl, by decide, by decide +kernel, by decide +kernel, by decide +kernel⟩
set_option maxRecDepth 20000 in
theorem wv_X7_15 : Wst RX7 15 yX7_putName cX7_putName 4 none 3 := ⟨tb_in (i := 938) rfl rfl, tb_in (i := 939) rfl rfl, tb_in (i := 83) rfl rfl, tb_in (i := 940) rfl rfl, by decide, by decide +kernel, by decide +kernel, by decide +kernel⟩
set_option maxRecDepth 20000 in
theorem wv_X7_21 : Wst RX7 21 yX7_putLetters cX7_putLetters 6 none 5 := ⟨tb_in (i := 943) rfl rfl, tb_in (i := 944) rfl rfl, tb_in (i := 83) rfl rfl, tb_in (i := 945) rfl rfl, by decide, by decide +kernel, by decide +kernel, by decide +kernel⟩
set_option maxRecDepth 20000 in
theorem wv_X7_25 : Wst RX7 25 yX7_putQualities cX7_putQualities 6 none 5 := ⟨tb_in (i := 947) rfl rfl, tb_in (i := 948) rfl rfl, tb_in (i := 83) rfl rfl, tb_in (i := 949) rfl rfl, by decide, by decide +kernel, by decide +kernel, by decide +kernel⟩
set_option maxRecDepth 20000 in
theorem wv_X7_34 : Wv RX7 34 yX3_nameSize cX3_nameSize 2 (some .int) 1 := ⟨tb_in (i := 941) rfl rfl, tb_in (i := 518) rfl rfl, tb_in (i := 519) rfl rfl, tb_in (i := 71) rfl rfl, tb_in (i := 520) rfl rfl, by decide, by decide +kernel, by decide +kernel, by decide +kernel⟩
set_option maxRecDepth 20000 in
theorem wv_X7_40 : Wv RX7 40 yX3_nameOctet cX3_nameOctet 3 (some .int) 2 := ⟨tb_in (i := 942) rfl rfl, tb_in (i := 558) rfl rfl, tb_in (i := 559) rfl rfl, tb_in (i := 71) rfl rfl, tb_in (i := 560) rfl rfl, by decide, by decide +kernel, by decide +kernel, by decide +kernel⟩
set_option maxRecDepth 20000 in
theorem wv_X7_43 : Wv RX7 43 yX3_letterOctet cX3_letterOctet 3 (some .int) 2 := ⟨tb_in (i := 946) rfl rfl, tb_in (i := 651) rfl rfl, tb_in (i := 652) rfl rfl, tb_in (i := 71) rfl rfl, tb_in (i := 653) rfl rfl, by decide, by decide +kernel, by decide +kernel, by decide +kernel⟩
set_option maxRecDepth 20000 in
theorem wv_X7_46 : Wv RX7 46 yX3_quality cX3_quality 3 (some .int) 2 := ⟨tb_in (i := 950) rfl rfl, tb_in (i := 680) rfl rfl, tb_in (i := 681) rfl rfl, tb_in (i := 71) rfl rfl, tb_in (i := 682) rfl rfl, by decide, by decide +kernel, by decide +kernel, by decide +kernel⟩
set_option maxRecDepth 20000 in
theorem wv_X8_60 : Wv RX8 60 yX4_room cX4_room 1 (some .int) 0 := ⟨tb_in (i := 393) rfl rfl, tb_in (i := 394) rfl rfl, tb_in (i := 395) rfl rfl, tb_in (i := 68) rfl rfl, tb_in (i := 396) rfl rfl, by decide, by decide +kernel, by decide +kernel, by decide +kernel⟩
set_option maxRecDepth 20000 in
theorem wv_X8_71 : Wv RX8 71 yX4_add cX4_add 2 none 1 := ⟨tb_in (i := 465) rfl rfl, tb_in (i := 365) rfl rfl, tb_in (i := 366) rfl rfl, tb_in (i := 68) rfl rfl, tb_in (i := 367) rfl rfl, by decide, by decide +kernel, by decide +kernel, by decide +kernel⟩
set_option maxRecDepth 20000 in
theorem wv_X8_74 : Wv RX8 74 yX4_size cX4_size 1 (some .int) 0 := ⟨tb_in (i := 383) rfl rfl, tb_in (i := 329) rfl rfl, tb_in (i := 330) rfl rfl, tb_in (i := 68) rfl rfl, tb_in (i := 331) rfl rfl, by decide, by decide +kernel, by decide +kernel, by decide +kernel⟩
set_option maxRecDepth 20000 in
theorem wv_X8_77 : Wst RX8 77 yX8_isForm cX8_isForm 1 (some .boolean) 1 := ⟨tb_in (i := 473) rfl rfl, tb_in (i := 474) rfl rfl, tb_in (i := 67) rfl rfl, tb_in (i := 475) rfl rfl, by decide, by decide +kernel, by decide +kernel, by decide +kernel⟩
set_option maxRecDepth 20000 in
theorem wv_X8_83 : Wv RX8 83 yX2_parse cX2_parse 5 (some .int) 2 := ⟨tb_in (i := 477) rfl rfl, tb_in (i := 478) rfl rfl, tb_in (i := 479) rfl rfl, tb_in (i := 70) rfl rfl, tb_in (i := 480) rfl rfl, by decide, by decide +kernel, by decide +kernel, by decide +kernel⟩
set_option maxRecDepth 20000 in
theorem wv_X8_87 : Wv RX8 87 yX4_clear cX4_clear 1 none 0 := ⟨tb_in (i := 344) rfl rfl, tb_in (i := 345) rfl rfl, tb_in (i := 346) rfl rfl, tb_in (i := 68) rfl rfl, tb_in (i := 347) rfl rfl, by decide, by decide +kernel, by decide +kernel, by decide +kernel⟩
set_option maxRecDepth 20000 in
theorem wv_X8_90 : Wv RX8 90 yX2_faultAt cX2_faultAt 1 (some .int) 0 := ⟨tb_in (i := 574) rfl rfl, tb_in (i := 575) rfl rfl, tb_in (i := 576) rfl rfl, tb_in (i := 70) rfl rfl, tb_in (i := 577) rfl rfl, by decide, by decide +kernel, by decide +kernel, by decide +kernel⟩
set_option maxRecDepth 20000 in
theorem wv_X8_93 : Wv RX8 93 yX2_exchange cX2_exchange 3 (some (.object "ReadBins$Reads")) 1 := ⟨tb_in (i := 578) rfl rfl, tb_in (i := 579) rfl rfl, tb_in (i := 580) rfl rfl, tb_in (i := 70) rfl rfl, tb_in (i := 581) rfl rfl, by decide, by decide +kernel, by decide +kernel, by decide +kernel⟩
set_option maxRecDepth 20000 in
theorem wv_X8_97 : Wv RX8 97 yX5_forget cX5_forget 1 none 0 := ⟨tb_in (i := 582) rfl rfl, tb_in (i := 583) rfl rfl, tb_in (i := 584) rfl rfl, tb_in (i := 74) rfl rfl, tb_in (i := 585) rfl rfl, by decide, by decide +kernel, by decide +kernel, by decide +kernel⟩
set_option maxRecDepth 20000 in
theorem wv_X8_100 : Wv RX8 100 yX3_count cX3_count 1 (some .int) 0 := ⟨tb_in (i := 586) rfl rfl, tb_in (i := 501) rfl rfl, tb_in (i := 502) rfl rfl, tb_in (i := 71) rfl rfl, tb_in (i := 503) rfl rfl, by decide, by decide +kernel, by decide +kernel, by decide +kernel⟩
set_option maxRecDepth 20000 in
theorem wv_X8_103 : Wv RX8 103 yX0_take cX0_take 4 (some .int) 1 := ⟨tb_in (i := 313) rfl rfl, tb_in (i := 314) rfl rfl, tb_in (i := 315) rfl rfl, tb_in (i := 72) rfl rfl, tb_in (i := 316) rfl rfl, by decide, by decide +kernel, by decide +kernel, by decide +kernel⟩
set_option maxRecDepth 20000 in
theorem wv_X8_107 : Wv RX8 107 yX6_takeAdapter cX6_takeAdapter 2 (some .int) 1 := ⟨tb_in (i := 352) rfl rfl, tb_in (i := 353) rfl rfl, tb_in (i := 354) rfl rfl, tb_in (i := 73) rfl rfl, tb_in (i := 355) rfl rfl, by decide, by decide +kernel, by decide +kernel, by decide +kernel⟩
set_option maxRecDepth 20000 in
theorem wv_X8_110 : Wst RX8 110 yX8_isWithin cX8_isWithin 2 (some .boolean) 2 := ⟨tb_in (i := 372) rfl rfl, tb_in (i := 373) rfl rfl, tb_in (i := 67) rfl rfl, tb_in (i := 374) rfl rfl, by decide, by decide +kernel, by decide +kernel, by decide +kernel⟩
set_option maxRecDepth 20000 in
theorem wv_X8_114 : Wv RX8 114 yX6_setLimits cX6_setLimits 4 none 3 := ⟨tb_in (i := 375) rfl rfl, tb_in (i := 376) rfl rfl, tb_in (i := 377) rfl rfl, tb_in (i := 73) rfl rfl, tb_in (i := 378) rfl rfl, by decide, by decide +kernel, by decide +kernel, by decide +kernel⟩
set_option maxRecDepth 20000 in
theorem wv_X8_118 : Wv RX8 118 yX0_spread cX0_spread 1 (some .int) 0 := ⟨tb_in (i := 595) rfl rfl, tb_in (i := 596) rfl rfl, tb_in (i := 597) rfl rfl, tb_in (i := 72) rfl rfl, tb_in (i := 598) rfl rfl, by decide, by decide +kernel, by decide +kernel, by decide +kernel⟩
set_option maxRecDepth 20000 in
theorem wv_X8_121 : Wv RX8 121 yX0_count cX0_count 1 (some .int) 0 := ⟨tb_in (i := 599) rfl rfl, tb_in (i := 600) rfl rfl, tb_in (i := 601) rfl rfl, tb_in (i := 72) rfl rfl, tb_in (i := 602) rfl rfl, by decide, by decide +kernel, by decide +kernel, by decide +kernel⟩
set_option maxRecDepth 20000 in
theorem wv_X8_122 : Wv RX8 122 yX0_length cX0_length 1 (some .int) 0 := ⟨tb_in (i := 603) rfl rfl, tb_in (i := 604) rfl rfl, tb_in (i := 605) rfl rfl, tb_in (i := 72) rfl rfl, tb_in (i := 606) rfl rfl, by decide, by decide +kernel, by decide +kernel, by decide +kernel⟩
set_option maxRecDepth 20000 in
theorem wv_X8_132 : Wv RX8 132 yX5_restart cX5_restart 4 none 3 := ⟨tb_in (i := 631) rfl rfl, tb_in (i := 632) rfl rfl, tb_in (i := 633) rfl rfl, tb_in (i := 74) rfl rfl, tb_in (i := 634) rfl rfl, by decide, by decide +kernel, by decide +kernel, by decide +kernel⟩
set_option maxRecDepth 20000 in
theorem wv_X8_135 : Wv RX8 135 yX8_sortRead cX8_sortRead 5 none 2 := ⟨tb_in (i := 640) rfl rfl, tb_in (i := 642) rfl rfl, tb_in (i := 13) rfl rfl, tb_in (i := 67) rfl rfl, tb_in (i := 643) rfl rfl, by decide, by decide +kernel, by decide +kernel, by decide +kernel⟩
set_option maxRecDepth 20000 in
theorem wv_X8_139 : Wv RX8 139 yX5_finish cX5_finish 2 none 0 := ⟨tb_in (i := 733) rfl rfl, tb_in (i := 734) rfl rfl, tb_in (i := 735) rfl rfl, tb_in (i := 74) rfl rfl, tb_in (i := 736) rfl rfl, by decide, by decide +kernel, by decide +kernel, by decide +kernel⟩
set_option maxRecDepth 20000 in
theorem wv_X8_142 : Wv RX8 142 yX5_readsIn cX5_readsIn 4 (some .int) 1 := ⟨tb_in (i := 768) rfl rfl, tb_in (i := 769) rfl rfl, tb_in (i := 770) rfl rfl, tb_in (i := 74) rfl rfl, tb_in (i := 771) rfl rfl, by decide, by decide +kernel, by decide +kernel, by decide +kernel⟩
set_option maxRecDepth 20000 in
theorem wv_X8_146 : Wv RX8 146 yX3_letterCount cX3_letterCount 2 (some .int) 1 := ⟨tb_in (i := 644) rfl rfl, tb_in (i := 542) rfl rfl, tb_in (i := 543) rfl rfl, tb_in (i := 71) rfl rfl, tb_in (i := 544) rfl rfl, by decide, by decide +kernel, by decide +kernel, by decide +kernel⟩
set_option maxRecDepth 20000 in
theorem wv_X8_149 : Wv RX8 149 yX0_nearTo cX0_nearTo 5 (some .int) 2 := ⟨tb_in (i := 645) rfl rfl, tb_in (i := 646) rfl rfl, tb_in (i := 647) rfl rfl, tb_in (i := 72) rfl rfl, tb_in (i := 648) rfl rfl, by decide, by decide +kernel, by decide +kernel, by decide +kernel⟩
set_option maxRecDepth 20000 in
theorem wv_X8_153 : Wv RX8 153 yX6_cut cX6_cut 4 none 3 := ⟨tb_in (i := 659) rfl rfl, tb_in (i := 660) rfl rfl, tb_in (i := 661) rfl rfl, tb_in (i := 73) rfl rfl, tb_in (i := 662) rfl rfl, by decide, by decide +kernel, by decide +kernel, by decide +kernel⟩
set_option maxRecDepth 20000 in
theorem wv_X8_157 : Wv RX8 157 yX5_add cX5_add 5 none 3 := ⟨tb_in (i := 691) rfl rfl, tb_in (i := 692) rfl rfl, tb_in (i := 693) rfl rfl, tb_in (i := 74) rfl rfl, tb_in (i := 694) rfl rfl, by decide, by decide +kernel, by decide +kernel, by decide +kernel⟩
set_option maxRecDepth 20000 in
theorem wv_X8_160 : Wv RX8 160 yX6_isTooShort cX6_isTooShort 1 (some .boolean) 0 := ⟨tb_in (i := 712) rfl rfl, tb_in (i := 704) rfl rfl, tb_in (i := 705) rfl rfl, tb_in (i := 73) rfl rfl, tb_in (i := 706) rfl rfl, by decide, by decide +kernel, by decide +kernel, by decide +kernel⟩
set_option maxRecDepth 20000 in
theorem wv_X8_164 : Wv RX8 164 yX5_grouping cX5_grouping 1 (some (.object "ReadBins$Grouping")) 0 := ⟨tb_in (i := 713) rfl rfl, tb_in (i := 714) rfl rfl, tb_in (i := 715) rfl rfl, tb_in (i := 74) rfl rfl, tb_in (i := 716) rfl rfl, by decide, by decide +kernel, by decide +kernel, by decide +kernel⟩
set_option maxRecDepth 20000 in
theorem wv_X8_168 : Wv RX8 168 yX1_enter cX1_enter 6 none 4 := ⟨tb_in (i := 717) rfl rfl, tb_in (i := 718) rfl rfl, tb_in (i := 719) rfl rfl, tb_in (i := 75) rfl rfl, tb_in (i := 720) rfl rfl, by decide, by decide +kernel, by decide +kernel, by decide +kernel⟩
set_option maxRecDepth 20000 in
theorem wv_X8_174 : Wv RX8 174 yX3_has cX3_has 2 (some .boolean) 1 := ⟨tb_in (i := 787) rfl rfl, tb_in (i := 522) rfl rfl, tb_in (i := 523) rfl rfl, tb_in (i := 71) rfl rfl, tb_in (i := 524) rfl rfl, by decide, by decide +kernel, by decide +kernel, by decide +kernel⟩
set_option maxRecDepth 20000 in
theorem wv_X8_179 : Wv RX8 179 yX3_nameSize cX3_nameSize 2 (some .int) 1 := ⟨tb_in (i := 789) rfl rfl, tb_in (i := 518) rfl rfl, tb_in (i := 519) rfl rfl, tb_in (i := 71) rfl rfl, tb_in (i := 520) rfl rfl, by decide, by decide +kernel, by decide +kernel, by decide +kernel⟩
set_option maxRecDepth 20000 in
theorem wv_X8_182 : Wv RX8 182 yX5_isDone cX5_isDone 1 (some .boolean) 0 := ⟨tb_in (i := 790) rfl rfl, tb_in (i := 791) rfl rfl, tb_in (i := 792) rfl rfl, tb_in (i := 74) rfl rfl, tb_in (i := 793) rfl rfl, by decide, by decide +kernel, by decide +kernel, by decide +kernel⟩
set_option maxRecDepth 20000 in
theorem wv_X8_185 : Wv RX8 185 yX8_aboutSorted cX8_aboutSorted 3 (some .int) 2 := ⟨tb_in (i := 794) rfl rfl, tb_in (i := 796) rfl rfl, tb_in (i := 30) rfl rfl, tb_in (i := 67) rfl rfl, tb_in (i := 797) rfl rfl, by decide, by decide +kernel, by decide +kernel, by decide +kernel⟩
set_option maxRecDepth 20000 in
theorem wv_X8_189 : Wv RX8 189 yX5_binOf cX5_binOf 2 (some .int) 1 := ⟨tb_in (i := 798) rfl rfl, tb_in (i := 773) rfl rfl, tb_in (i := 774) rfl rfl, tb_in (i := 74) rfl rfl, tb_in (i := 775) rfl rfl, by decide, by decide +kernel, by decide +kernel, by decide +kernel⟩
set_option maxRecDepth 20000 in
theorem wv_X8_192 : Wv RX8 192 yX5_beginOf cX5_beginOf 2 (some .int) 1 := ⟨tb_in (i := 799) rfl rfl, tb_in (i := 800) rfl rfl, tb_in (i := 801) rfl rfl, tb_in (i := 74) rfl rfl, tb_in (i := 802) rfl rfl, by decide, by decide +kernel, by decide +kernel, by decide +kernel⟩
set_option maxRecDepth 20000 in
theorem wv_X8_195 : Wv RX8 195 yX5_endOf cX5_endOf 2 (some .int) 1 := ⟨tb_in (i := 803) rfl rfl, tb_in (i := 804) rfl rfl, tb_in (i := 805) rfl rfl, tb_in (i := 74) rfl rfl, tb_in (i := 806) rfl rfl, by decide, by decide +kernel, by decide +kernel, by decide +kernel⟩
set_option maxRecDepth 20000 in
theorem wv_X8_198 : Wv RX8 198 yX5_isShort cX5_isShort 2 (some .boolean) 1 := ⟨tb_in (i := 807) rfl rfl, tb_in (i := 808) rfl rfl, tb_in (i := 809) rfl rfl, tb_in (i := 74) rfl rfl, tb_in (i := 810) rfl rfl, by decide, by decide +kernel, by decide +kernel, by decide +kernel⟩
set_option maxRecDepth 20000 in
theorem wv_X8_201 : Wv RX8 201 yX1_groupOf cX1_groupOf 2 (some .int) 1 := ⟨tb_in (i := 811) rfl rfl, tb_in (i := 812) rfl rfl, tb_in (i := 813) rfl rfl, tb_in (i := 75) rfl rfl, tb_in (i := 814) rfl rfl, by decide, by decide +kernel, by decide +kernel, by decide +kernel⟩
set_option maxRecDepth 20000 in
theorem wv_X8_204 : Wv RX8 204 yX3_nameOctet cX3_nameOctet 3 (some .int) 2 := ⟨tb_in (i := 822) rfl rfl, tb_in (i := 558) rfl rfl, tb_in (i := 559) rfl rfl, tb_in (i := 71) rfl rfl, tb_in (i := 560) rfl rfl, by decide, by decide +kernel, by decide +kernel, by decide +kernel⟩
set_option maxRecDepth 20000 in
theorem wv_X8_207 : Wv RX8 207 yX3_letterOctet cX3_letterOctet 3 (some .int) 2 := ⟨tb_in (i := 823) rfl rfl, tb_in (i := 651) rfl rfl, tb_in (i := 652) rfl rfl, tb_in (i := 71) rfl rfl, tb_in (i := 653) rfl rfl, by decide, by decide +kernel, by decide +kernel, by decide +kernel⟩
set_option maxRecDepth 20000 in
theorem wv_X8_210 : Wv RX8 210 yX3_quality cX3_quality 3 (some .int) 2 := ⟨tb_in (i := 824) rfl rfl, tb_in (i := 680) rfl rfl, tb_in (i := 681) rfl rfl, tb_in (i := 71) rfl rfl, tb_in (i := 682) rfl rfl, by decide, by decide +kernel, by decide +kernel, by decide +kernel⟩
set_option maxRecDepth 20000 in
theorem wv_X8_215 : Wv RX8 215 yX8_hasBin cX8_hasBin 3 (some .boolean) 1 := ⟨tb_in (i := 834) rfl rfl, tb_in (i := 836) rfl rfl, tb_in (i := 31) rfl rfl, tb_in (i := 67) rfl rfl, tb_in (i := 837) rfl rfl, by decide, by decide +kernel, by decide +kernel, by decide +kernel⟩
set_option maxRecDepth 20000 in
theorem wv_X8_225 : Wv RX8 225 yX5_shortReadsIn cX5_shortReadsIn 4 (some .int) 1 := ⟨tb_in (i := 859) rfl rfl, tb_in (i := 860) rfl rfl, tb_in (i := 861) rfl rfl, tb_in (i := 74) rfl rfl, tb_in (i := 862) rfl rfl, by decide, by decide +kernel, by decide +kernel, by decide +kernel⟩
set_option maxRecDepth 20000 in
theorem wv_X8_228 : Wv RX8 228 yX1_groupsIn cX1_groupsIn 2 (some .int) 1 := ⟨tb_in (i := 864) rfl rfl, tb_in (i := 865) rfl rfl, tb_in (i := 866) rfl rfl, tb_in (i := 75) rfl rfl, tb_in (i := 867) rfl rfl, by decide, by decide +kernel, by decide +kernel, by decide +kernel⟩
set_option maxRecDepth 20000 in
theorem wv_X8_233 : Wv RX8 233 yX1_readsIn cX1_readsIn 5 (some .int) 2 := ⟨tb_in (i := 876) rfl rfl, tb_in (i := 877) rfl rfl, tb_in (i := 878) rfl rfl, tb_in (i := 75) rfl rfl, tb_in (i := 879) rfl rfl, by decide, by decide +kernel, by decide +kernel, by decide +kernel⟩
set_option maxRecDepth 20000 in
theorem wv_X8_235 : Wv RX8 235 yX5_bestOf cX5_bestOf 5 (some .int) 2 := ⟨tb_in (i := 884) rfl rfl, tb_in (i := 885) rfl rfl, tb_in (i := 886) rfl rfl, tb_in (i := 74) rfl rfl, tb_in (i := 887) rfl rfl, by decide, by decide +kernel, by decide +kernel, by decide +kernel⟩
set_option maxRecDepth 20000 in
theorem wv_X8_238 : Wv RX8 238 yX1_tagsIn cX1_tagsIn 5 (some .int) 2 := ⟨tb_in (i := 893) rfl rfl, tb_in (i := 894) rfl rfl, tb_in (i := 895) rfl rfl, tb_in (i := 75) rfl rfl, tb_in (i := 896) rfl rfl, by decide, by decide +kernel, by decide +kernel, by decide +kernel⟩
set_option maxRecDepth 20000 in
theorem wv_X8_243 : Wv RX8 243 yX8_sizeOfText cX8_sizeOfText 6 (some .int) 3 := ⟨tb_in (i := 905) rfl rfl, tb_in (i := 907) rfl rfl, tb_in (i := 33) rfl rfl, tb_in (i := 67) rfl rfl, tb_in (i := 908) rfl rfl, by decide, by decide +kernel, by decide +kernel, by decide +kernel⟩
set_option maxRecDepth 20000 in
theorem wv_X8_247 : Wv RX8 247 yX8_writeText cX8_writeText 5 none 3 := ⟨tb_in (i := 930) rfl rfl, tb_in (i := 932) rfl rfl, tb_in (i := 37) rfl rfl, tb_in (i := 67) rfl rfl, tb_in (i := 933) rfl rfl, by decide, by decide +kernel, by decide +kernel, by decide +kernel⟩
set_option maxRecDepth 20000 in
theorem wv_X8_251 : Wv RX8 251 yX4_at cX4_at 2 (some .int) 1 := ⟨tb_in (i := 959) rfl rfl, tb_in (i := 322) rfl rfl, tb_in (i := 323) rfl rfl, tb_in (i := 68) rfl rfl, tb_in (i := 324) rfl rfl, by decide, by decide +kernel, by decide +kernel, by decide +kernel⟩
set_option maxRecDepth 20000 in
theorem wv_X8_256 : Wv RX8 256 yX4_copy cX4_copy 3 none 1 := ⟨tb_in (i := 384) rfl rfl, tb_in (i := 359) rfl rfl, tb_in (i := 360) rfl rfl, tb_in (i := 68) rfl rfl, tb_in (i := 361) rfl rfl, by decide, by decide +kernel, by decide +kernel, by decide +kernel⟩
set_option maxRecDepth 20000 in
theorem wv_X8_260 : Wv RX8 260 yX8_isChosen cX8_isChosen 4 (some .boolean) 3 := ⟨tb_in (i := 909) rfl rfl, tb_in (i := 911) rfl rfl, tb_in (i := 34) rfl rfl, tb_in (i := 67) rfl rfl, tb_in (i := 912) rfl rfl, by decide, by decide +kernel, by decide +kernel, by decide +kernel⟩
set_option maxRecDepth 20000 in
theorem wv_X8_264 : Wv RX8 264 yX8_lastOf cX8_lastOf 3 (some .int) 2 := ⟨tb_in (i := 917) rfl rfl, tb_in (i := 919) rfl rfl, tb_in (i := 36) rfl rfl, tb_in (i := 67) rfl rfl, tb_in (i := 920) rfl rfl, by decide, by decide +kernel, by decide +kernel, by decide +kernel⟩
set_option maxRecDepth 20000 in
theorem wv_X8_267 : Wv RX8 267 yX8_firstOf cX8_firstOf 3 (some .int) 2 := ⟨tb_in (i := 913) rfl rfl, tb_in (i := 915) rfl rfl, tb_in (i := 35) rfl rfl, tb_in (i := 67) rfl rfl, tb_in (i := 916) rfl rfl, by decide, by decide +kernel, by decide +kernel, by decide +kernel⟩
set_option maxRecDepth 20000 in
theorem wv_X8_270 : Wst RX8 270 yX7_sizeOfRead cX7_sizeOfRead 4 (some .int) 3 := ⟨tb_in (i := 927) rfl rfl, tb_in (i := 928) rfl rfl, tb_in (i := 83) rfl rfl, tb_in (i := 929) rfl rfl, by decide, by decide +kernel, by decide +kernel, by decide +kernel⟩
set_option maxRecDepth 20000 in
theorem wv_X8_276 : Wst RX8 276 yX7_putRead cX7_putRead 7 none 6 := ⟨tb_in (i := 934) rfl rfl, tb_in (i := 935) rfl rfl, tb_in (i := 83) rfl rfl, tb_in (i := 936) rfl rfl, by decide, by decide +kernel, by decide +kernel, by decide +kernel⟩
set_option maxRecDepth 20000 in
theorem wv_X8_280 : Wv RX8 280 yX5_isBest cX5_isBest 3 (some .boolean) 1 := ⟨tb_in (i := 921) rfl rfl, tb_in (i := 922) rfl rfl, tb_in (i := 923) rfl rfl, tb_in (i := 74) rfl rfl, tb_in (i := 924) rfl rfl, by decide, by decide +kernel, by decide +kernel, by decide +kernel⟩
set_option maxRecDepth 20000 in
theorem wv_X8_283 : Wv RX8 283 yX5_binCount cX5_binCount 1 (some .int) 0 := ⟨tb_in (i := 838) rfl rfl, tb_in (i := 839) rfl rfl, tb_in (i := 840) rfl rfl, tb_in (i := 74) rfl rfl, tb_in (i := 841) rfl rfl, by decide, by decide +kernel, by decide +kernel, by decide +kernel⟩
set_option maxRecDepth 20000 in
theorem wv_X8_286 : Wst RX8 286 yX8_isBase cX8_isBase 1 (some .boolean) 1 := ⟨tb_in (i := 548) rfl rfl, tb_in (i := 326) rfl rfl, tb_in (i := 67) rfl rfl, tb_in (i := 327) rfl rfl, by decide, by decide +kernel, by decide +kernel, by decide +kernel⟩
set_option maxRecDepth 20000 in
theorem wv_X9_80 : Wv RX9 80 yX9_faulty cX9_faulty 2 (some .boolean) 1 := ⟨tb_in (i := 1091) rfl rfl, tb_in (i := 1093) rfl rfl, tb_in (i := 40) rfl rfl, tb_in (i := 76) rfl rfl, tb_in (i := 1094) rfl rfl, by decide, by decide +kernel, by decide +kernel, by decide +kernel⟩
set_option maxRecDepth 20000 in
theorem wv_X9_84 : Wv RX9 84 yX9_look cX9_look 1 (some .int) 0 := ⟨tb_in (i := 1095) rfl rfl, tb_in (i := 1097) rfl rfl, tb_in (i := 41) rfl rfl, tb_in (i := 76) rfl rfl, tb_in (i := 1098) rfl rfl, by decide, by decide +kernel, by decide +kernel, by decide +kernel⟩
set_option maxRecDepth 20000 in
theorem wv_X9_91 : Wv RX9 91 yX9_must cX9_must 2 (some .boolean) 1 := ⟨tb_in (i := 1099) rfl rfl, tb_in (i := 1101) rfl rfl, tb_in (i := 42) rfl rfl, tb_in (i := 76) rfl rfl, tb_in (i := 1102) rfl rfl, by decide, by decide +kernel, by decide +kernel, by decide +kernel⟩
set_option maxRecDepth 20000 in
theorem wv_X9_94 : Wst RX9 94 yX9_letterOf cX9_letterOf 1 (some .int) 1 := ⟨tb_in (i := 1107) rfl rfl, tb_in (i := 1108) rfl rfl, tb_in (i := 76) rfl rfl, tb_in (i := 1109) rfl rfl, by decide, by decide +kernel, by decide +kernel, by decide +kernel⟩
set_option maxRecDepth 20000 in
theorem wv_X9_98 : Wv RX9 98 yX9_nameLine cX9_nameLine 4 (some .boolean) 2 := ⟨tb_in (i := 1087) rfl rfl, tb_in (i := 1089) rfl rfl, tb_in (i := 39) rfl rfl, tb_in (i := 76) rfl rfl, tb_in (i := 1090) rfl rfl, by decide, by decide +kernel, by decide +kernel, by decide +kernel⟩
set_option maxRecDepth 20000 in
theorem wv_X9_102 : Wv RX9 102 yX9_letterLine cX9_letterLine 3 (some .boolean) 1 := ⟨tb_in (i := 1103) rfl rfl, tb_in (i := 1105) rfl rfl, tb_in (i := 43) rfl rfl, tb_in (i := 76) rfl rfl, tb_in (i := 1106) rfl rfl, by decide, by decide +kernel, by decide +kernel, by decide +kernel⟩
set_option maxRecDepth 20000 in
theorem wv_X9_105 : Wv RX9 105 yX9_plusLine cX9_plusLine 3 (some .boolean) 1 := ⟨tb_in (i := 1110) rfl rfl, tb_in (i := 1112) rfl rfl, tb_in (i := 44) rfl rfl, tb_in (i := 76) rfl rfl, tb_in (i := 1113) rfl rfl, by decide, by decide +kernel, by decide +kernel, by decide +kernel⟩
set_option maxRecDepth 20000 in
theorem wv_X9_108 : Wv RX9 108 yX9_qualityLine cX9_qualityLine 3 (some .boolean) 1 := ⟨tb_in (i := 1114) rfl rfl, tb_in (i := 1116) rfl rfl, tb_in (i := 45) rfl rfl, tb_in (i := 76) rfl rfl, tb_in (i := 1117) rfl rfl, by decide, by decide +kernel, by decide +kernel, by decide +kernel⟩
set_option maxRecDepth 20000 in
theorem wv_X9_111 : Wv RX9 111 yX9_readOne cX9_readOne 4 (some .boolean) 1 := ⟨tb_in (i := 1083) rfl rfl, tb_in (i := 1085) rfl rfl, tb_in (i := 38) rfl rfl, tb_in (i := 76) rfl rfl, tb_in (i := 1086) rfl rfl, by decide, by decide +kernel, by decide +kernel, by decide +kernel⟩
set_option maxRecDepth 20000 in
theorem wv_X9_124 : Wv RX9 124 yX9_isCode cX9_isCode 5 (some .boolean) 2 := ⟨tb_in (i := 1126) rfl rfl, tb_in (i := 1128) rfl rfl, tb_in (i := 46) rfl rfl, tb_in (i := 76) rfl rfl, tb_in (i := 1129) rfl rfl, by decide, by decide +kernel, by decide +kernel, by decide +kernel⟩
set_option maxRecDepth 20000 in
theorem wv_X9_127 : Wv RX9 127 yX9_hasCode cX9_hasCode 4 (some .boolean) 0 := ⟨tb_in (i := 1130) rfl rfl, tb_in (i := 1132) rfl rfl, tb_in (i := 47) rfl rfl, tb_in (i := 76) rfl rfl, tb_in (i := 1133) rfl rfl, by decide, by decide +kernel, by decide +kernel, by decide +kernel⟩
set_option maxRecDepth 20000 in
theorem wv_X9_140 : Wv RX9 140 yX9_spread cX9_spread 6 (some .int) 0 := ⟨tb_in (i := 1146) rfl rfl, tb_in (i := 1148) rfl rfl, tb_in (i := 48) rfl rfl, tb_in (i := 76) rfl rfl, tb_in (i := 1149) rfl rfl, by decide, by decide +kernel, by decide +kernel, by decide +kernel⟩
set_option maxRecDepth 20000 in
theorem wv_X9_149 : Wv RX9 149 yX9_tagAt cX9_tagAt 3 (some .int) 2 := ⟨tb_in (i := 1190) rfl rfl, tb_in (i := 1192) rfl rfl, tb_in (i := 58) rfl rfl, tb_in (i := 76) rfl rfl, tb_in (i := 1193) rfl rfl, by decide, by decide +kernel, by decide +kernel, by decide +kernel⟩
set_option maxRecDepth 20000 in
theorem wv_X9_153 : Wv RX9 153 yX9_counts cX9_counts 3 (some .boolean) 2 := ⟨tb_in (i := 1174) rfl rfl, tb_in (i := 1176) rfl rfl, tb_in (i := 54) rfl rfl, tb_in (i := 76) rfl rfl, tb_in (i := 1177) rfl rfl, by decide, by decide +kernel, by decide +kernel, by decide +kernel⟩
set_option maxRecDepth 20000 in
theorem wv_X9_156 : Wv RX9 156 yX9_distance cX9_distance 5 (some .int) 2 := ⟨tb_in (i := 1186) rfl rfl, tb_in (i := 1188) rfl rfl, tb_in (i := 57) rfl rfl, tb_in (i := 76) rfl rfl, tb_in (i := 1189) rfl rfl, by decide, by decide +kernel, by decide +kernel, by decide +kernel⟩
set_option maxRecDepth 20000 in
theorem wv_X9_159 : Wv RX9 159 yX9_countOf cX9_countOf 4 (some .int) 1 := ⟨tb_in (i := 1182) rfl rfl, tb_in (i := 1184) rfl rfl, tb_in (i := 56) rfl rfl, tb_in (i := 76) rfl rfl, tb_in (i := 1185) rfl rfl, by decide, by decide +kernel, by decide +kernel, by decide +kernel⟩
set_option maxRecDepth 20000 in
theorem wv_X9_162 : Wv RX9 162 yX9_isBefore cX9_isBefore 6 (some .boolean) 2 := ⟨tb_in (i := 1178) rfl rfl, tb_in (i := 1180) rfl rfl, tb_in (i := 55) rfl rfl, tb_in (i := 76) rfl rfl, tb_in (i := 1181) rfl rfl, by decide, by decide +kernel, by decide +kernel, by decide +kernel⟩
set_option maxRecDepth 20000 in
theorem wv_X9_165 : Wv RX9 165 yX9_spreadGroup cX9_spreadGroup 8 none 3 := ⟨tb_in (i := 1194) rfl rfl, tb_in (i := 1196) rfl rfl, tb_in (i := 59) rfl rfl, tb_in (i := 76) rfl rfl, tb_in (i := 1197) rfl rfl, by decide, by decide +kernel, by decide +kernel, by decide +kernel⟩
set_option maxRecDepth 20000 in
theorem wv_X9_172 : Wv RX9 172 yX9_binOf cX9_binOf 8 (some .int) 3 := ⟨tb_in (i := 1154) rfl rfl, tb_in (i := 1156) rfl rfl, tb_in (i := 49) rfl rfl, tb_in (i := 76) rfl rfl, tb_in (i := 1157) rfl rfl, by decide, by decide +kernel, by decide +kernel, by decide +kernel⟩
set_option maxRecDepth 20000 in
theorem wv_X9_176 : Wv RX9 176 yX9_cutAdapter cX9_cutAdapter 6 none 1 := ⟨tb_in (i := 1158) rfl rfl, tb_in (i := 1160) rfl rfl, tb_in (i := 50) rfl rfl, tb_in (i := 76) rfl rfl, tb_in (i := 1161) rfl rfl, by decide, by decide +kernel, by decide +kernel, by decide +kernel⟩
set_option maxRecDepth 20000 in
theorem wv_X9_180 : Wv RX9 180 yX9_cutQualities cX9_cutQualities 7 none 1 := ⟨tb_in (i := 1162) rfl rfl, tb_in (i := 1164) rfl rfl, tb_in (i := 51) rfl rfl, tb_in (i := 76) rfl rfl, tb_in (i := 1165) rfl rfl, by decide, by decide +kernel, by decide +kernel, by decide +kernel⟩
set_option maxRecDepth 20000 in
theorem wv_X9_183 : Wv RX9 183 yX9_cutNone cX9_cutNone 2 none 1 := ⟨tb_in (i := 1166) rfl rfl, tb_in (i := 1168) rfl rfl, tb_in (i := 52) rfl rfl, tb_in (i := 76) rfl rfl, tb_in (i := 1169) rfl rfl, by decide, by decide +kernel, by decide +kernel, by decide +kernel⟩
set_option maxRecDepth 20000 in
theorem wv_X9_186 : Wv RX9 186 yX9_groupAll cX9_groupAll 6 none 2 := ⟨tb_in (i := 1170) rfl rfl, tb_in (i := 1172) rfl rfl, tb_in (i := 53) rfl rfl, tb_in (i := 76) rfl rfl, tb_in (i := 1173) rfl rfl, by decide, by decide +kernel, by decide +kernel, by decide +kernel⟩
set_option maxRecDepth 20000 in
theorem wv_X9_190 : Wv RX9 190 yX9_noRead cX9_noRead 2 (some .boolean) 1 := ⟨tb_in (i := 1202) rfl rfl, tb_in (i := 1204) rfl rfl, tb_in (i := 60) rfl rfl, tb_in (i := 76) rfl rfl, tb_in (i := 1205) rfl rfl, by decide, by decide +kernel, by decide +kernel, by decide +kernel⟩
set_option maxRecDepth 20000 in
theorem wv_X9_193 : Wv RX9 193 yX9_noBin cX9_noBin 2 (some .boolean) 1 := ⟨tb_in (i := 1214) rfl rfl, tb_in (i := 1216) rfl rfl, tb_in (i := 61) rfl rfl, tb_in (i := 76) rfl rfl, tb_in (i := 1217) rfl rfl, by decide, by decide +kernel, by decide +kernel, by decide +kernel⟩
set_option maxRecDepth 20000 in
theorem wv_X9_196 : Wv RX9 196 yX9_groupsOf cX9_groupsOf 4 (some .int) 1 := ⟨tb_in (i := 1218) rfl rfl, tb_in (i := 1220) rfl rfl, tb_in (i := 62) rfl rfl, tb_in (i := 76) rfl rfl, tb_in (i := 1221) rfl rfl, by decide, by decide +kernel, by decide +kernel, by decide +kernel⟩
set_option maxRecDepth 20000 in
theorem wv_X9_199 : Wv RX9 199 yX9_bestOf cX9_bestOf 8 (some .int) 2 := ⟨tb_in (i := 1226) rfl rfl, tb_in (i := 1228) rfl rfl, tb_in (i := 63) rfl rfl, tb_in (i := 76) rfl rfl, tb_in (i := 1229) rfl rfl, by decide, by decide +kernel, by decide +kernel, by decide +kernel⟩
set_option maxRecDepth 20000 in
theorem wv_X9_205 : Wv RX9 205 yX9_put cX9_put 2 none 1 := ⟨tb_in (i := 1238) rfl rfl, tb_in (i := 1240) rfl rfl, tb_in (i := 65) rfl rfl, tb_in (i := 76) rfl rfl, tb_in (i := 1241) rfl rfl, by decide, by decide +kernel, by decide +kernel, by decide +kernel⟩
set_option maxRecDepth 20000 in
theorem wv_X9_208 : Wv RX9 208 yX9_putRead cX9_putRead 6 none 4 := ⟨tb_in (i := 1234) rfl rfl, tb_in (i := 1236) rfl rfl, tb_in (i := 64) rfl rfl, tb_in (i := 76) rfl rfl, tb_in (i := 1237) rfl rfl, by decide, by decide +kernel, by decide +kernel, by decide +kernel⟩
set_option maxRecDepth 20000 in
theorem wv_L_7 : Wv RL 7 yX8_feed cX8_feed 5 (some .int) 2 := ⟨tb_in (i := 389) rfl rfl, tb_in (i := 390) rfl rfl, tb_in (i := 391) rfl rfl, tb_in (i := 67) rfl rfl, tb_in (i := 392) rfl rfl, by decide, by decide +kernel, by decide +kernel, by decide +kernel⟩
set_option maxRecDepth 20000 in
theorem wv_L_15 : Wv RL 15 yX8_read cX8_read 3 (some .int) 1 := ⟨tb_in (i := 469) rfl rfl, tb_in (i := 470) rfl rfl, tb_in (i := 471) rfl rfl, tb_in (i := 67) rfl rfl, tb_in (i := 472) rfl rfl, by decide, by decide +kernel, by decide +kernel, by decide +kernel⟩
set_option maxRecDepth 20000 in
theorem wv_L_19 : Wv RL 19 yX8_told cX8_told 2 (some .int) 1 := ⟨tb_in (i := 591) rfl rfl, tb_in (i := 592) rfl rfl, tb_in (i := 593) rfl rfl, tb_in (i := 67) rfl rfl, tb_in (i := 594) rfl rfl, by decide, by decide +kernel, by decide +kernel, by decide +kernel⟩
set_option maxRecDepth 20000 in
theorem wv_L_24 : Wv RL 24 yX8_sort cX8_sort 4 (some .int) 2 := ⟨tb_in (i := 626) rfl rfl, tb_in (i := 627) rfl rfl, tb_in (i := 628) rfl rfl, tb_in (i := 67) rfl rfl, tb_in (i := 629) rfl rfl, by decide, by decide +kernel, by decide +kernel, by decide +kernel⟩
set_option maxRecDepth 20000 in
theorem wv_L_28 : Wv RL 28 yX8_about cX8_about 3 (some .int) 2 := ⟨tb_in (i := 783) rfl rfl, tb_in (i := 784) rfl rfl, tb_in (i := 785) rfl rfl, tb_in (i := 67) rfl rfl, tb_in (i := 786) rfl rfl, by decide, by decide +kernel, by decide +kernel, by decide +kernel⟩
set_option maxRecDepth 20000 in
theorem wv_L_31 : Wv RL 31 yX8_letter cX8_letter 5 (some .int) 3 := ⟨tb_in (i := 818) rfl rfl, tb_in (i := 819) rfl rfl, tb_in (i := 820) rfl rfl, tb_in (i := 67) rfl rfl, tb_in (i := 821) rfl rfl, by decide, by decide +kernel, by decide +kernel, by decide +kernel⟩
set_option maxRecDepth 20000 in
theorem wv_L_35 : Wv RL 35 yX8_bin cX8_bin 3 (some .int) 2 := ⟨tb_in (i := 830) rfl rfl, tb_in (i := 831) rfl rfl, tb_in (i := 832) rfl rfl, tb_in (i := 67) rfl rfl, tb_in (i := 833) rfl rfl, by decide, by decide +kernel, by decide +kernel, by decide +kernel⟩
set_option maxRecDepth 20000 in
theorem wv_L_40 : Wv RL 40 yX8_group cX8_group 4 (some .int) 3 := ⟨tb_in (i := 871) rfl rfl, tb_in (i := 872) rfl rfl, tb_in (i := 873) rfl rfl, tb_in (i := 67) rfl rfl, tb_in (i := 874) rfl rfl, by decide, by decide +kernel, by decide +kernel, by decide +kernel⟩
set_option maxRecDepth 20000 in
theorem wv_L_43 : Wv RL 43 yX8_write cX8_write 5 (some .int) 3 := ⟨tb_in (i := 900) rfl rfl, tb_in (i := 901) rfl rfl, tb_in (i := 902) rfl rfl, tb_in (i := 67) rfl rfl, tb_in (i := 903) rfl rfl, by decide, by decide +kernel, by decide +kernel, by decide +kernel⟩
set_option maxRecDepth 20000 in
theorem wv_L_47 : Wv RL 47 yX8_out cX8_out 3 (some .int) 1 := ⟨tb_in (i := 955) rfl rfl, tb_in (i := 956) rfl rfl, tb_in (i := 957) rfl rfl, tb_in (i := 67) rfl rfl, tb_in (i := 958) rfl rfl, by decide, by decide +kernel, by decide +kernel, by decide +kernel⟩
set_option maxRecDepth 20000 in
theorem wv_L_61 : Wv RL 61 yX9_feed cX9_feed 5 (some .int) 2 := ⟨tb_in (i := 1074) rfl rfl, tb_in (i := 1075) rfl rfl, tb_in (i := 1076) rfl rfl, tb_in (i := 76) rfl rfl, tb_in (i := 1077) rfl rfl, by decide, by decide +kernel, by decide +kernel, by decide +kernel⟩
set_option maxRecDepth 20000 in
theorem wv_L_62 : Wv RL 62 yX9_thrown cX9_thrown 1 (some .int) 0 := ⟨tb_in (i := 1070) rfl rfl, tb_in (i := 1071) rfl rfl, tb_in (i := 1072) rfl rfl, tb_in (i := 76) rfl rfl, tb_in (i := 1073) rfl rfl, by decide, by decide +kernel, by decide +kernel, by decide +kernel⟩
set_option maxRecDepth 20000 in
theorem wv_L_69 : Wv RL 69 yX9_read cX9_read 6 (some .int) 1 := ⟨tb_in (i := 1079) rfl rfl, tb_in (i := 1080) rfl rfl, tb_in (i := 1081) rfl rfl, tb_in (i := 76) rfl rfl, tb_in (i := 1082) rfl rfl, by decide, by decide +kernel, by decide +kernel, by decide +kernel⟩
set_option maxRecDepth 20000 in
theorem wv_L_70 : Wv RL 70 yX8_place cX8_place 1 (some .int) 0 := ⟨tb_in (i := 305) rfl rfl, tb_in (i := 306) rfl rfl, tb_in (i := 307) rfl rfl, tb_in (i := 67) rfl rfl, tb_in (i := 308) rfl rfl, by decide, by decide +kernel, by decide +kernel, by decide +kernel⟩
set_option maxRecDepth 20000 in
theorem wv_L_73 : Wv RL 73 yX9_place cX9_place 1 (some .int) 0 := ⟨tb_in (i := 1118) rfl rfl, tb_in (i := 1119) rfl rfl, tb_in (i := 1120) rfl rfl, tb_in (i := 76) rfl rfl, tb_in (i := 1121) rfl rfl, by decide, by decide +kernel, by decide +kernel, by decide +kernel⟩
set_option maxRecDepth 20000 in
theorem wv_L_74 : Wv RL 74 yX8_barcode cX8_barcode 2 (some .int) 0 := ⟨tb_in (i := 309) rfl rfl, tb_in (i := 310) rfl rfl, tb_in (i := 311) rfl rfl, tb_in (i := 67) rfl rfl, tb_in (i := 312) rfl rfl, by decide, by decide +kernel, by decide +kernel, by decide +kernel⟩
set_option maxRecDepth 20000 in
theorem wv_L_77 : Wv RL 77 yX9_barcode cX9_barcode 3 (some .int) 0 := ⟨tb_in (i := 1122) rfl rfl, tb_in (i := 1123) rfl rfl, tb_in (i := 1124) rfl rfl, tb_in (i := 76) rfl rfl, tb_in (i := 1125) rfl rfl, by decide, by decide +kernel, by decide +kernel, by decide +kernel⟩
set_option maxRecDepth 20000 in
theorem wv_L_78 : Wv RL 78 yX8_adapter cX8_adapter 2 (some .int) 0 := ⟨tb_in (i := 348) rfl rfl, tb_in (i := 349) rfl rfl, tb_in (i := 350) rfl rfl, tb_in (i := 67) rfl rfl, tb_in (i := 351) rfl rfl, by decide, by decide +kernel, by decide +kernel, by decide +kernel⟩
set_option maxRecDepth 20000 in
theorem wv_L_81 : Wv RL 81 yX9_adapter cX9_adapter 3 (some .int) 0 := ⟨tb_in (i := 1134) rfl rfl, tb_in (i := 1135) rfl rfl, tb_in (i := 1136) rfl rfl, tb_in (i := 76) rfl rfl, tb_in (i := 1137) rfl rfl, by decide, by decide +kernel, by decide +kernel, by decide +kernel⟩
set_option maxRecDepth 20000 in
theorem wv_L_82 : Wv RL 82 yX8_limits cX8_limits 4 (some .boolean) 3 := ⟨tb_in (i := 368) rfl rfl, tb_in (i := 369) rfl rfl, tb_in (i := 370) rfl rfl, tb_in (i := 67) rfl rfl, tb_in (i := 371) rfl rfl, by decide, by decide +kernel, by decide +kernel, by decide +kernel⟩
set_option maxRecDepth 20000 in
theorem wv_L_86 : Wv RL 86 yX9_limits cX9_limits 5 (some .boolean) 3 := ⟨tb_in (i := 1138) rfl rfl, tb_in (i := 1139) rfl rfl, tb_in (i := 1140) rfl rfl, tb_in (i := 76) rfl rfl, tb_in (i := 1141) rfl rfl, by decide, by decide +kernel, by decide +kernel, by decide +kernel⟩
set_option maxRecDepth 20000 in
theorem wv_L_89 : Wv RL 89 yX9_told cX9_told 2 (some .int) 1 := ⟨tb_in (i := 1142) rfl rfl, tb_in (i := 1143) rfl rfl, tb_in (i := 1144) rfl rfl, tb_in (i := 76) rfl rfl, tb_in (i := 1145) rfl rfl, by decide, by decide +kernel, by decide +kernel, by decide +kernel⟩
set_option maxRecDepth 20000 in
theorem wv_L_93 : Wv RL 93 yX9_sort cX9_sort 6 (some .int) 2 := ⟨tb_in (i := 1150) rfl rfl, tb_in (i := 1151) rfl rfl, tb_in (i := 1152) rfl rfl, tb_in (i := 76) rfl rfl, tb_in (i := 1153) rfl rfl, by decide, by decide +kernel, by decide +kernel, by decide +kernel⟩
set_option maxRecDepth 20000 in
theorem wv_L_96 : Wv RL 96 yX9_about cX9_about 3 (some .int) 2 := ⟨tb_in (i := 1198) rfl rfl, tb_in (i := 1199) rfl rfl, tb_in (i := 1200) rfl rfl, tb_in (i := 76) rfl rfl, tb_in (i := 1201) rfl rfl, by decide, by decide +kernel, by decide +kernel, by decide +kernel⟩
set_option maxRecDepth 20000 in
theorem wv_L_100 : Wv RL 100 yX9_letter cX9_letter 4 (some .int) 3 := ⟨tb_in (i := 1206) rfl rfl, tb_in (i := 1207) rfl rfl, tb_in (i := 1208) rfl rfl, tb_in (i := 76) rfl rfl, tb_in (i := 1209) rfl rfl, by decide, by decide +kernel, by decide +kernel, by decide +kernel⟩
set_option maxRecDepth 20000 in
theorem wv_L_103 : Wv RL 103 yX9_bin cX9_bin 6 (some .int) 2 := ⟨tb_in (i := 1210) rfl rfl, tb_in (i := 1211) rfl rfl, tb_in (i := 1212) rfl rfl, tb_in (i := 76) rfl rfl, tb_in (i := 1213) rfl rfl, by decide, by decide +kernel, by decide +kernel, by decide +kernel⟩
set_option maxRecDepth 20000 in
theorem wv_L_106 : Wv RL 106 yX9_group cX9_group 8 (some .int) 3 := ⟨tb_in (i := 1222) rfl rfl, tb_in (i := 1223) rfl rfl, tb_in (i := 1224) rfl rfl, tb_in (i := 76) rfl rfl, tb_in (i := 1225) rfl rfl, by decide, by decide +kernel, by decide +kernel, by decide +kernel⟩
set_option maxRecDepth 20000 in
theorem wv_L_110 : Wv RL 110 yX9_write cX9_write 6 (some .int) 3 := ⟨tb_in (i := 1230) rfl rfl, tb_in (i := 1231) rfl rfl, tb_in (i := 1232) rfl rfl, tb_in (i := 76) rfl rfl, tb_in (i := 1233) rfl rfl, by decide, by decide +kernel, by decide +kernel, by decide +kernel⟩
set_option maxRecDepth 20000 in
theorem wv_L_113 : Wv RL 113 yX9_out cX9_out 2 (some .int) 1 := ⟨tb_in (i := 1242) rfl rfl, tb_in (i := 1243) rfl rfl, tb_in (i := 1244) rfl rfl, tb_in (i := 76) rfl rfl, tb_in (i := 1245) rfl rfl, by decide, by decide +kernel, by decide +kernel, by decide +kernel⟩
set_option maxRecDepth 20000 in
theorem wv_L_114 : Wv RL 114 yX8_again cX8_again 1 (some .int) 0 := ⟨tb_in (i := 379) rfl rfl, tb_in (i := 380) rfl rfl, tb_in (i := 381) rfl rfl, tb_in (i := 67) rfl rfl, tb_in (i := 382) rfl rfl, by decide, by decide +kernel, by decide +kernel, by decide +kernel⟩
set_option maxRecDepth 20000 in
theorem wv_L_117 : Wv RL 117 yX9_again cX9_again 2 (some .int) 0 := ⟨tb_in (i := 1246) rfl rfl, tb_in (i := 1247) rfl rfl, tb_in (i := 1248) rfl rfl, tb_in (i := 76) rfl rfl, tb_in (i := 1249) rfl rfl, by decide, by decide +kernel, by decide +kernel, by decide +kernel⟩
set_option maxRecDepth 20000 in
theorem wm_X4_9 : Cond.methodLink RX4 9 Lib.Math.max.name ∈ TB := tb_in (i := 98) rfl rfl
set_option maxRecDepth 20000 in
theorem wm_X0_46 : Cond.methodLink RX0 46 Lib.Math.min.name ∈ TB := tb_in (i := 337) rfl rfl
set_option maxRecDepth 20000 in
theorem wm_X1_33 : Cond.methodLink RX1 33 Lib.Math.min.name ∈ TB := tb_in (i := 639) rfl rfl
set_option maxRecDepth 20000 in
theorem wm_X6_71 : Cond.methodLink RX6 71 Lib.Math.min.name ∈ TB := tb_in (i := 672) rfl rfl
set_option maxRecDepth 20000 in
theorem wm_X7_28 : Cond.methodLink RX7 28 Lib.Math.min.name ∈ TB := tb_in (i := 951) rfl rfl
set_option maxRecDepth 20000 in
theorem wms_min : Cond.static Lib.Math.min.name ∈ TB := tb_in (i := 338) rfl rfl
set_option maxRecDepth 20000 in
theorem wmc_min : Cond.code Lib.Math.min.name Lib.Math.min.code 2 (some .int) ∈ TB := tb_in (i := 339) rfl rfl
set_option maxRecDepth 20000 in
theorem wms_max : Cond.static Lib.Math.max.name ∈ TB := tb_in (i := 99) rfl rfl
set_option maxRecDepth 20000 in
theorem wmc_max : Cond.code Lib.Math.max.name Lib.Math.max.code 2 (some .int) ∈ TB := tb_in (i := 100) rfl rfl
set_option maxRecDepth 20000 in
theorem wmi : Cond.initialized "java/lang/Math" ∈ TB := tb_in (i := 69) rfl rfl
end
section
section GK
/-- the world's constants: class numbers and slots, the classes of int[], boolean[], long[], the addresses -/
abbrev Et : Type := va_G × ClassId × ClassId × ClassId × List Nat
def tyE (ε : Et) : List (ClassId × FieldType) := [(ε.2.1, .int), (ε.2.2.1, .boolean), (ε.2.2.2.1, .long)]
abbrev Hp : Type := Nat → va_E
/-- how many cells the world has, their addresses, the cells as a list -/
def NP : Nat := 56
def ad (ε : Et) (p : Nat) : Nat := ε.2.2.2.2.getD p 0
def pl (ε : Et) (h : Hp) : va_W := (List.range NP).map (fun p => (ad ε p, h p))
def aI (ε : Et) (n : Nat) (f : Nat → Int32) : va_E := .inl (ε.2.1, n, .inl f)
def aZ (ε : Et) (n : Nat) (f : Nat → Int32) : va_E := .inl (ε.2.2.1, n, .inl f)
def aJ (ε : Et) (n : Nat) (f : Nat → Int64) : va_E := .inl (ε.2.2.2.1, n, .inr (.inl f))
/-- a method's body: program, launch, env, room, start, method, arguments, frames below, code, what may change, goal -/
abbrev Kt : Type := Program × Launch × Env × Room × State × MethodId × Array Value × List Frame × Method × Code × (Nat → Prop) × (State → Prop)
def Wd (ε : Et) (A : Nat → Prop) (H0 : Heap) (h : Hp) (H : Heap) (locs : List Loc) : Prop := va_P ε.1 vwCl (pl ε h) H ∧ va_D A (pl ε h) ∧ va_S A H0 H locs
/-- at pc, with locals lv, operands st, in the world h, k cells of n slots made: it comes to its goal -/
def G (ε : Et) (κ : Kt) (k n pc : Nat) (lv : List (Nat × Value)) (st : List Value) (h : Hp) : Prop := match κ with
  | (p, l, e, R, s, m, args, below, meth, c, A, Q) => ∀ (H : Heap) (locs : List Loc) (ls : Array Slot), Wd ε A s.heap h H locs → lv_has ls c.maxLocals lv → W p l e R s m args below meth c H locs k n Q (F0 m pc ls st)
/-- what a body knows: the machine, its code, its class, the words, the tables, its depth -/
def Cx (ε : Et) (κ : Kt) (cc : ByteArray) (nL : Nat) (own : String) (d : Nat) : Prop := match κ with
  | (p, _, _, R, s, m, args, _, meth, c, A, _) => p.tables.exec = Jvm.exec ∧ c.code = cc ∧ c.maxLocals = nL ∧ s.vm.findClass own = some m.cls ∧ (∀ w ∈ TB, w.before args s = true) ∧ va_K ε.1 vwCl (tyE ε) s ∧ Nst s ∧ meth.locks = false ∧ (∀ q : Nat, s.heap.size ≤ q → A q) ∧ d ≤ R.frames ∧ 30 * d ≤ R.locals
variable {ε : Et} {κ : Kt} {cc : ByteArray} {nL d : Nat} {own : String} {k n pc : Nat} {lv lv' : List (Nat × Value)} {st : List Value} {h : Hp}

theorem g_iload_n (C : Cx ε κ cc nL own d) {k0 : Fin 4} {i : Nat} {x : Int32} (hd : decode cc pc = .ok (.iload_n k0, 1)) (hi : (k0 : Nat) = i) (j : Nat) (hj : lv[j]? = some (i, .int x)) (kk : G ε κ k n (pc + 1) lv (.int x :: st) h) : G ε κ k n pc lv st h := by
  obtain ⟨p, l, e0, R, s, m, args, below, meth, c, A, Q⟩ := κ
  obtain ⟨hx, hb, hml, hown, hts, hK, hN, hlk, hA, hfr, hlo⟩ := C
  intro H locs ls hw hl
  exact lv_iload_n hx hb hd hi (lv_at hl j hj) (kk H locs ls hw hl)
theorem g_iload (C : Cx ε κ cc nL own d) {i : Nat} {x : Int32} (hd : decode cc pc = .ok (.iload i, 2)) (j : Nat) (hj : lv[j]? = some (i, .int x)) (kk : G ε κ k n (pc + 2) lv (.int x :: st) h) : G ε κ k n pc lv st h := by
  obtain ⟨p, l, e0, R, s, m, args, below, meth, c, A, Q⟩ := κ
  obtain ⟨hx, hb, hml, hown, hts, hK, hN, hlk, hA, hfr, hlo⟩ := C
  intro H locs ls hw hl
  exact lv_iload hx hb hd (lv_at hl j hj) (kk H locs ls hw hl)
theorem g_aload_n (C : Cx ε κ cc nL own d) {k0 : Fin 4} {i : Nat} {x : Nat} (hd : decode cc pc = .ok (.aload_n k0, 1)) (hi : (k0 : Nat) = i) (j : Nat) (hj : lv[j]? = some (i, .ref x)) (kk : G ε κ k n (pc + 1) lv (.ref x :: st) h) : G ε κ k n pc lv st h := by
  obtain ⟨p, l, e0, R, s, m, args, below, meth, c, A, Q⟩ := κ
  obtain ⟨hx, hb, hml, hown, hts, hK, hN, hlk, hA, hfr, hlo⟩ := C
  intro H locs ls hw hl
  exact lv_aload_n hx hb hd hi (lv_at hl j hj) (kk H locs ls hw hl)
theorem g_aload (C : Cx ε κ cc nL own d) {i : Nat} {x : Nat} (hd : decode cc pc = .ok (.aload i, 2)) (j : Nat) (hj : lv[j]? = some (i, .ref x)) (kk : G ε κ k n (pc + 2) lv (.ref x :: st) h) : G ε κ k n pc lv st h := by
  obtain ⟨p, l, e0, R, s, m, args, below, meth, c, A, Q⟩ := κ
  obtain ⟨hx, hb, hml, hown, hts, hK, hN, hlk, hA, hfr, hlo⟩ := C
  intro H locs ls hw hl
  exact lv_aload hx hb hd (lv_at hl j hj) (kk H locs ls hw hl)
theorem g_lload_n (C : Cx ε κ cc nL own d) {k0 : Fin 4} {i : Nat} {x : Int64} (hd : decode cc pc = .ok (.lload_n k0, 1)) (hi : (k0 : Nat) = i) (j : Nat) (hj : lv[j]? = some (i, .long x)) (kk : G ε κ k n (pc + 1) lv (.long x :: st) h) : G ε κ k n pc lv st h := by
  obtain ⟨p, l, e0, R, s, m, args, below, meth, c, A, Q⟩ := κ
  obtain ⟨hx, hb, hml, hown, hts, hK, hN, hlk, hA, hfr, hlo⟩ := C
  intro H locs ls hw hl
  exact lv_lload_n hx hb hd hi (lv_at hl j hj) (kk H locs ls hw hl)
theorem g_lload (C : Cx ε κ cc nL own d) {i : Nat} {x : Int64} (hd : decode cc pc = .ok (.lload i, 2)) (j : Nat) (hj : lv[j]? = some (i, .long x)) (kk : G ε κ k n (pc + 2) lv (.long x :: st) h) : G ε κ k n pc lv st h := by
  obtain ⟨p, l, e0, R, s, m, args, below, meth, c, A, Q⟩ := κ
  obtain ⟨hx, hb, hml, hown, hts, hK, hN, hlk, hA, hfr, hlo⟩ := C
  intro H locs ls hw hl
  exact lv_lload hx hb hd (lv_at hl j hj) (kk H locs ls hw hl)
theorem g_iconst (C : Cx ε κ cc nL own d) {i : Int} {v : Int32} (hd : decode cc pc = .ok (.iconst i, 1)) (hv : Int32.ofInt i = v) (kk : G ε κ k n (pc + 1) lv (.int v :: st) h) : G ε κ k n pc lv st h := by
  obtain ⟨p, l, e0, R, s, m, args, below, meth, c, A, Q⟩ := κ
  obtain ⟨hx, hb, hml, hown, hts, hK, hN, hlk, hA, hfr, hlo⟩ := C
  intro H locs ls hw hl
  exact lv_iconst hx hb hd hv (kk H locs ls hw hl)
theorem g_bipush (C : Cx ε κ cc nL own d) {i : Int} {v : Int32} (hd : decode cc pc = .ok (.bipush i, 2)) (hv : (Int8.ofInt i).toInt32 = v) (kk : G ε κ k n (pc + 2) lv (.int v :: st) h) : G ε κ k n pc lv st h := by
  obtain ⟨p, l, e0, R, s, m, args, below, meth, c, A, Q⟩ := κ
  obtain ⟨hx, hb, hml, hown, hts, hK, hN, hlk, hA, hfr, hlo⟩ := C
  intro H locs ls hw hl
  exact lv_bipush hx hb hd hv (kk H locs ls hw hl)
theorem g_sipush (C : Cx ε κ cc nL own d) {i : Int} {v : Int32} (hd : decode cc pc = .ok (.sipush i, 3)) (hv : (Int16.ofInt i).toInt32 = v) (kk : G ε κ k n (pc + 3) lv (.int v :: st) h) : G ε κ k n pc lv st h := by
  obtain ⟨p, l, e0, R, s, m, args, below, meth, c, A, Q⟩ := κ
  obtain ⟨hx, hb, hml, hown, hts, hK, hN, hlk, hA, hfr, hlo⟩ := C
  intro H locs ls hw hl
  exact lv_sipush hx hb hd hv (kk H locs ls hw hl)
theorem g_iadd (C : Cx ε κ cc nL own d) {x y : Int32} (hd : decode cc pc = .ok (.iadd, 1))  (kk : G ε κ k n (pc + 1) lv (.int (x + y) :: st) h) : G ε κ k n pc lv (.int y :: .int x :: st) h := by
  obtain ⟨p, l, e0, R, s, m, args, below, meth, c, A, Q⟩ := κ
  obtain ⟨hx, hb, hml, hown, hts, hK, hN, hlk, hA, hfr, hlo⟩ := C
  intro H locs ls hw hl
  exact lv_iadd hx hb hd (kk H locs ls hw hl)
theorem g_isub (C : Cx ε κ cc nL own d) {x y : Int32} (hd : decode cc pc = .ok (.isub, 1))  (kk : G ε κ k n (pc + 1) lv (.int (x - y) :: st) h) : G ε κ k n pc lv (.int y :: .int x :: st) h := by
  obtain ⟨p, l, e0, R, s, m, args, below, meth, c, A, Q⟩ := κ
  obtain ⟨hx, hb, hml, hown, hts, hK, hN, hlk, hA, hfr, hlo⟩ := C
  intro H locs ls hw hl
  exact lv_isub hx hb hd (kk H locs ls hw hl)
theorem g_imul (C : Cx ε κ cc nL own d) {x y : Int32} (hd : decode cc pc = .ok (.imul, 1))  (kk : G ε κ k n (pc + 1) lv (.int (x * y) :: st) h) : G ε κ k n pc lv (.int y :: .int x :: st) h := by
  obtain ⟨p, l, e0, R, s, m, args, below, meth, c, A, Q⟩ := κ
  obtain ⟨hx, hb, hml, hown, hts, hK, hN, hlk, hA, hfr, hlo⟩ := C
  intro H locs ls hw hl
  exact lv_imul hx hb hd (kk H locs ls hw hl)
theorem g_iand (C : Cx ε κ cc nL own d) {x y : Int32} (hd : decode cc pc = .ok (.iand, 1))  (kk : G ε κ k n (pc + 1) lv (.int (x &&& y) :: st) h) : G ε κ k n pc lv (.int y :: .int x :: st) h := by
  obtain ⟨p, l, e0, R, s, m, args, below, meth, c, A, Q⟩ := κ
  obtain ⟨hx, hb, hml, hown, hts, hK, hN, hlk, hA, hfr, hlo⟩ := C
  intro H locs ls hw hl
  exact lv_iand hx hb hd (kk H locs ls hw hl)
theorem g_land (C : Cx ε κ cc nL own d) {x y : Int64} (hd : decode cc pc = .ok (.land, 1))  (kk : G ε κ k n (pc + 1) lv (.long (x &&& y) :: st) h) : G ε κ k n pc lv (.long y :: .long x :: st) h := by
  obtain ⟨p, l, e0, R, s, m, args, below, meth, c, A, Q⟩ := κ
  obtain ⟨hx, hb, hml, hown, hts, hK, hN, hlk, hA, hfr, hlo⟩ := C
  intro H locs ls hw hl
  exact lv_land hx hb hd (kk H locs ls hw hl)
theorem g_lor (C : Cx ε κ cc nL own d) {x y : Int64} (hd : decode cc pc = .ok (.lor, 1))  (kk : G ε κ k n (pc + 1) lv (.long (x ||| y) :: st) h) : G ε κ k n pc lv (.long y :: .long x :: st) h := by
  obtain ⟨p, l, e0, R, s, m, args, below, meth, c, A, Q⟩ := κ
  obtain ⟨hx, hb, hml, hown, hts, hK, hN, hlk, hA, hfr, hlo⟩ := C
  intro H locs ls hw hl
  exact lv_lor hx hb hd (kk H locs ls hw hl)
theorem g_idiv (C : Cx ε κ cc nL own d) {x y : Int32} (hd : decode cc pc = .ok (.idiv, 1)) (hne : ¬ y = 0) (kk : G ε κ k n (pc + 1) lv (.int (x / y) :: st) h) : G ε κ k n pc lv (.int y :: .int x :: st) h := by
  obtain ⟨p, l, e0, R, s, m, args, below, meth, c, A, Q⟩ := κ
  obtain ⟨hx, hb, hml, hown, hts, hK, hN, hlk, hA, hfr, hlo⟩ := C
  intro H locs ls hw hl
  exact lv_idiv hx hb hd hne (kk H locs ls hw hl)
theorem g_irem (C : Cx ε κ cc nL own d) {x y : Int32} (hd : decode cc pc = .ok (.irem, 1)) (hne : ¬ y = 0) (kk : G ε κ k n (pc + 1) lv (.int (x - x / y * y) :: st) h) : G ε κ k n pc lv (.int y :: .int x :: st) h := by
  obtain ⟨p, l, e0, R, s, m, args, below, meth, c, A, Q⟩ := κ
  obtain ⟨hx, hb, hml, hown, hts, hK, hN, hlk, hA, hfr, hlo⟩ := C
  intro H locs ls hw hl
  exact lv_irem hx hb hd hne (kk H locs ls hw hl)
theorem g_ineg (C : Cx ε κ cc nL own d) {x : Int32} (hd : decode cc pc = .ok (.ineg, 1))  (kk : G ε κ k n (pc + 1) lv (.int (-x) :: st) h) : G ε κ k n pc lv (.int x :: st) h := by
  obtain ⟨p, l, e0, R, s, m, args, below, meth, c, A, Q⟩ := κ
  obtain ⟨hx, hb, hml, hown, hts, hK, hN, hlk, hA, hfr, hlo⟩ := C
  intro H locs ls hw hl
  exact lv_ineg hx hb hd (kk H locs ls hw hl)
theorem g_i2l (C : Cx ε κ cc nL own d) {x : Int32} {v : Int64} (hd : decode cc pc = .ok (.i2l, 1)) (hv : x.toInt64 = v) (kk : G ε κ k n (pc + 1) lv (.long v :: st) h) : G ε κ k n pc lv (.int x :: st) h := by
  obtain ⟨p, l, e0, R, s, m, args, below, meth, c, A, Q⟩ := κ
  obtain ⟨hx, hb, hml, hown, hts, hK, hN, hlk, hA, hfr, hlo⟩ := C
  intro H locs ls hw hl
  exact lv_i2l hx hb hd hv (kk H locs ls hw hl)
theorem g_l2i (C : Cx ε κ cc nL own d) {x : Int64} {v : Int32} (hd : decode cc pc = .ok (.l2i, 1)) (hv : x.toInt32 = v) (kk : G ε κ k n (pc + 1) lv (.int v :: st) h) : G ε κ k n pc lv (.long x :: st) h := by
  obtain ⟨p, l, e0, R, s, m, args, below, meth, c, A, Q⟩ := κ
  obtain ⟨hx, hb, hml, hown, hts, hK, hN, hlk, hA, hfr, hlo⟩ := C
  intro H locs ls hw hl
  exact lv_l2i hx hb hd hv (kk H locs ls hw hl)
theorem g_lushr (C : Cx ε κ cc nL own d) {x v : Int64} {y : Int32} (hd : decode cc pc = .ok (.lushr, 1)) (hv : (x.toUInt64 >>> (y.toInt64.toUInt64 &&& Int64.toUInt64 63)).toInt64 = v) (kk : G ε κ k n (pc + 1) lv (.long v :: st) h) : G ε κ k n pc lv (.int y :: .long x :: st) h := by
  obtain ⟨p, l, e0, R, s, m, args, below, meth, c, A, Q⟩ := κ
  obtain ⟨hx, hb, hml, hown, hts, hK, hN, hlk, hA, hfr, hlo⟩ := C
  intro H locs ls hw hl
  exact lv_lushr hx hb hd hv (kk H locs ls hw hl)
theorem g_lshr (C : Cx ε κ cc nL own d) {x v : Int64} {y : Int32} (hd : decode cc pc = .ok (.lshr, 1)) (hv : x >>> (y.toInt64 &&& 63) = v) (kk : G ε κ k n (pc + 1) lv (.long v :: st) h) : G ε κ k n pc lv (.int y :: .long x :: st) h := by
  obtain ⟨p, l, e0, R, s, m, args, below, meth, c, A, Q⟩ := κ
  obtain ⟨hx, hb, hml, hown, hts, hK, hN, hlk, hA, hfr, hlo⟩ := C
  intro H locs ls hw hl
  exact lv_lshr hx hb hd hv (kk H locs ls hw hl)
theorem g_lshl (C : Cx ε κ cc nL own d) {x v : Int64} {y : Int32} (hd : decode cc pc = .ok (.lshl, 1)) (hv : x <<< (y.toInt64 &&& 63) = v) (kk : G ε κ k n (pc + 1) lv (.long v :: st) h) : G ε κ k n pc lv (.int y :: .long x :: st) h := by
  obtain ⟨p, l, e0, R, s, m, args, below, meth, c, A, Q⟩ := κ
  obtain ⟨hx, hb, hml, hown, hts, hK, hN, hlk, hA, hfr, hlo⟩ := C
  intro H locs ls hw hl
  exact lv_lshl hx hb hd hv (kk H locs ls hw hl)
theorem g_dup (C : Cx ε κ cc nL own d) {va : Value} (hd : decode cc pc = .ok (.dup, 1)) (hva : va.category = 1) (kk : G ε κ k n (pc + 1) lv (va :: va :: st) h) : G ε κ k n pc lv (va :: st) h := by
  obtain ⟨p, l, e0, R, s, m, args, below, meth, c, A, Q⟩ := κ
  obtain ⟨hx, hb, hml, hown, hts, hK, hN, hlk, hA, hfr, hlo⟩ := C
  intro H locs ls hw hl
  exact lv_dup hx hb hd hva (kk H locs ls hw hl)
theorem g_dup2 (C : Cx ε κ cc nL own d) {va vb : Value} (hd : decode cc pc = .ok (.dup2, 1)) (hva : va.category = 1) (hvb : vb.category = 1) (kk : G ε κ k n (pc + 1) lv (va :: vb :: va :: vb :: st) h) : G ε κ k n pc lv (va :: vb :: st) h := by
  obtain ⟨p, l, e0, R, s, m, args, below, meth, c, A, Q⟩ := κ
  obtain ⟨hx, hb, hml, hown, hts, hK, hN, hlk, hA, hfr, hlo⟩ := C
  intro H locs ls hw hl
  exact lv_dup2_11 hx hb hd hva hvb (kk H locs ls hw hl)
theorem g_pop (C : Cx ε κ cc nL own d) {va : Value} (hd : decode cc pc = .ok (.pop, 1)) (hva : va.category = 1) (kk : G ε κ k n (pc + 1) lv st h) : G ε κ k n pc lv (va :: st) h := by
  obtain ⟨p, l, e0, R, s, m, args, below, meth, c, A, Q⟩ := κ
  obtain ⟨hx, hb, hml, hown, hts, hK, hN, hlk, hA, hfr, hlo⟩ := C
  intro H locs ls hw hl
  exact lv_pop hx hb hd hva (kk H locs ls hw hl)
theorem g_ldc2 (C : Cx ε κ cc nL own d) {index : Nat} {v : Int64} (hd : decode cc pc = .ok (.ldc2_w index, 3)) (hc : Jvm.Cond.constantLong own index v ∈ TB) (kk : G ε κ k n (pc + 3) lv (.long v :: st) h) : G ε κ k n pc lv st h := by
  obtain ⟨p, l, e0, R, s, m, args, below, meth, c, A, Q⟩ := κ
  obtain ⟨hx, hb, hml, hown, hts, hK, hN, hlk, hA, hfr, hlo⟩ := C
  intro H locs ls hw hl
  exact lv_ldc2 hx hb hown (hts _ hc) hd (kk H locs ls hw hl)
-- branches: see below
theorem g_if_eq (C : Cx ε κ cc nL own d) {x : Int32} {off : Int} {tgt : Nat} (hd : decode cc pc = .ok (.ifCond .eq off, 3)) (ht : (pc : Int) + off = (tgt : Int)) (kt : x = 0 → G ε κ k n tgt lv st h) (kf : ¬ x = 0 → G ε κ k n (pc + 3) lv st h) : G ε κ k n pc lv (.int x :: st) h := by
  obtain ⟨p, l, e0, R, s, m, args, below, meth, c, A, Q⟩ := κ
  obtain ⟨hx, hb, hml, hown, hts, hK, hN, hlk, hA, hfr, hlo⟩ := C
  intro H locs ls hw hl
  exact lv_if_eq hx hb hd ht (fun q => kt q H locs ls hw hl) (fun q => kf q H locs ls hw hl)
theorem g_icmp_eq (C : Cx ε κ cc nL own d) {x y : Int32} {off : Int} {tgt : Nat} (hd : decode cc pc = .ok (.if_icmp .eq off, 3)) (ht : (pc : Int) + off = (tgt : Int)) (kt : x = y → G ε κ k n tgt lv st h) (kf : ¬ x = y → G ε κ k n (pc + 3) lv st h) : G ε κ k n pc lv (.int y :: .int x :: st) h := by
  obtain ⟨p, l, e0, R, s, m, args, below, meth, c, A, Q⟩ := κ
  obtain ⟨hx, hb, hml, hown, hts, hK, hN, hlk, hA, hfr, hlo⟩ := C
  intro H locs ls hw hl
  exact lv_icmp_eq hx hb hd ht (fun q => kt q H locs ls hw hl) (fun q => kf q H locs ls hw hl)
theorem g_if_ne (C : Cx ε κ cc nL own d) {x : Int32} {off : Int} {tgt : Nat} (hd : decode cc pc = .ok (.ifCond .ne off, 3)) (ht : (pc : Int) + off = (tgt : Int)) (kt : ¬ x = 0 → G ε κ k n tgt lv st h) (kf : x = 0 → G ε κ k n (pc + 3) lv st h) : G ε κ k n pc lv (.int x :: st) h := by
  obtain ⟨p, l, e0, R, s, m, args, below, meth, c, A, Q⟩ := κ
  obtain ⟨hx, hb, hml, hown, hts, hK, hN, hlk, hA, hfr, hlo⟩ := C
  intro H locs ls hw hl
  exact lv_if_ne hx hb hd ht (fun q => kt q H locs ls hw hl) (fun q => kf q H locs ls hw hl)
theorem g_icmp_ne (C : Cx ε κ cc nL own d) {x y : Int32} {off : Int} {tgt : Nat} (hd : decode cc pc = .ok (.if_icmp .ne off, 3)) (ht : (pc : Int) + off = (tgt : Int)) (kt : ¬ x = y → G ε κ k n tgt lv st h) (kf : x = y → G ε κ k n (pc + 3) lv st h) : G ε κ k n pc lv (.int y :: .int x :: st) h := by
  obtain ⟨p, l, e0, R, s, m, args, below, meth, c, A, Q⟩ := κ
  obtain ⟨hx, hb, hml, hown, hts, hK, hN, hlk, hA, hfr, hlo⟩ := C
  intro H locs ls hw hl
  exact lv_icmp_ne hx hb hd ht (fun q => kt q H locs ls hw hl) (fun q => kf q H locs ls hw hl)
theorem g_if_lt (C : Cx ε κ cc nL own d) {x : Int32} {off : Int} {tgt : Nat} (hd : decode cc pc = .ok (.ifCond .lt off, 3)) (ht : (pc : Int) + off = (tgt : Int)) (kt : x < 0 → G ε κ k n tgt lv st h) (kf : ¬ x < 0 → G ε κ k n (pc + 3) lv st h) : G ε κ k n pc lv (.int x :: st) h := by
  obtain ⟨p, l, e0, R, s, m, args, below, meth, c, A, Q⟩ := κ
  obtain ⟨hx, hb, hml, hown, hts, hK, hN, hlk, hA, hfr, hlo⟩ := C
  intro H locs ls hw hl
  exact lv_if_lt hx hb hd ht (fun q => kt q H locs ls hw hl) (fun q => kf q H locs ls hw hl)
theorem g_icmp_lt (C : Cx ε κ cc nL own d) {x y : Int32} {off : Int} {tgt : Nat} (hd : decode cc pc = .ok (.if_icmp .lt off, 3)) (ht : (pc : Int) + off = (tgt : Int)) (kt : x < y → G ε κ k n tgt lv st h) (kf : ¬ x < y → G ε κ k n (pc + 3) lv st h) : G ε κ k n pc lv (.int y :: .int x :: st) h := by
  obtain ⟨p, l, e0, R, s, m, args, below, meth, c, A, Q⟩ := κ
  obtain ⟨hx, hb, hml, hown, hts, hK, hN, hlk, hA, hfr, hlo⟩ := C
  intro H locs ls hw hl
  exact lv_icmp_lt hx hb hd ht (fun q => kt q H locs ls hw hl) (fun q => kf q H locs ls hw hl)
theorem g_if_ge (C : Cx ε κ cc nL own d) {x : Int32} {off : Int} {tgt : Nat} (hd : decode cc pc = .ok (.ifCond .ge off, 3)) (ht : (pc : Int) + off = (tgt : Int)) (kt : 0 ≤ x → G ε κ k n tgt lv st h) (kf : ¬ 0 ≤ x → G ε κ k n (pc + 3) lv st h) : G ε κ k n pc lv (.int x :: st) h := by
  obtain ⟨p, l, e0, R, s, m, args, below, meth, c, A, Q⟩ := κ
  obtain ⟨hx, hb, hml, hown, hts, hK, hN, hlk, hA, hfr, hlo⟩ := C
  intro H locs ls hw hl
  exact lv_if_ge hx hb hd ht (fun q => kt q H locs ls hw hl) (fun q => kf q H locs ls hw hl)
theorem g_icmp_ge (C : Cx ε κ cc nL own d) {x y : Int32} {off : Int} {tgt : Nat} (hd : decode cc pc = .ok (.if_icmp .ge off, 3)) (ht : (pc : Int) + off = (tgt : Int)) (kt : y ≤ x → G ε κ k n tgt lv st h) (kf : ¬ y ≤ x → G ε κ k n (pc + 3) lv st h) : G ε κ k n pc lv (.int y :: .int x :: st) h := by
  obtain ⟨p, l, e0, R, s, m, args, below, meth, c, A, Q⟩ := κ
  obtain ⟨hx, hb, hml, hown, hts, hK, hN, hlk, hA, hfr, hlo⟩ := C
  intro H locs ls hw hl
  exact lv_icmp_ge hx hb hd ht (fun q => kt q H locs ls hw hl) (fun q => kf q H locs ls hw hl)
theorem g_if_gt (C : Cx ε κ cc nL own d) {x : Int32} {off : Int} {tgt : Nat} (hd : decode cc pc = .ok (.ifCond .gt off, 3)) (ht : (pc : Int) + off = (tgt : Int)) (kt : 0 < x → G ε κ k n tgt lv st h) (kf : ¬ 0 < x → G ε κ k n (pc + 3) lv st h) : G ε κ k n pc lv (.int x :: st) h := by
  obtain ⟨p, l, e0, R, s, m, args, below, meth, c, A, Q⟩ := κ
  obtain ⟨hx, hb, hml, hown, hts, hK, hN, hlk, hA, hfr, hlo⟩ := C
  intro H locs ls hw hl
  exact lv_if_gt hx hb hd ht (fun q => kt q H locs ls hw hl) (fun q => kf q H locs ls hw hl)
theorem g_icmp_gt (C : Cx ε κ cc nL own d) {x y : Int32} {off : Int} {tgt : Nat} (hd : decode cc pc = .ok (.if_icmp .gt off, 3)) (ht : (pc : Int) + off = (tgt : Int)) (kt : y < x → G ε κ k n tgt lv st h) (kf : ¬ y < x → G ε κ k n (pc + 3) lv st h) : G ε κ k n pc lv (.int y :: .int x :: st) h := by
  obtain ⟨p, l, e0, R, s, m, args, below, meth, c, A, Q⟩ := κ
  obtain ⟨hx, hb, hml, hown, hts, hK, hN, hlk, hA, hfr, hlo⟩ := C
  intro H locs ls hw hl
  exact lv_icmp_gt hx hb hd ht (fun q => kt q H locs ls hw hl) (fun q => kf q H locs ls hw hl)
theorem g_if_le (C : Cx ε κ cc nL own d) {x : Int32} {off : Int} {tgt : Nat} (hd : decode cc pc = .ok (.ifCond .le off, 3)) (ht : (pc : Int) + off = (tgt : Int)) (kt : x ≤ 0 → G ε κ k n tgt lv st h) (kf : ¬ x ≤ 0 → G ε κ k n (pc + 3) lv st h) : G ε κ k n pc lv (.int x :: st) h := by
  obtain ⟨p, l, e0, R, s, m, args, below, meth, c, A, Q⟩ := κ
  obtain ⟨hx, hb, hml, hown, hts, hK, hN, hlk, hA, hfr, hlo⟩ := C
  intro H locs ls hw hl
  exact lv_if_le hx hb hd ht (fun q => kt q H locs ls hw hl) (fun q => kf q H locs ls hw hl)
theorem g_icmp_le (C : Cx ε κ cc nL own d) {x y : Int32} {off : Int} {tgt : Nat} (hd : decode cc pc = .ok (.if_icmp .le off, 3)) (ht : (pc : Int) + off = (tgt : Int)) (kt : x ≤ y → G ε κ k n tgt lv st h) (kf : ¬ x ≤ y → G ε κ k n (pc + 3) lv st h) : G ε κ k n pc lv (.int y :: .int x :: st) h := by
  obtain ⟨p, l, e0, R, s, m, args, below, meth, c, A, Q⟩ := κ
  obtain ⟨hx, hb, hml, hown, hts, hK, hN, hlk, hA, hfr, hlo⟩ := C
  intro H locs ls hw hl
  exact lv_icmp_le hx hb hd ht (fun q => kt q H locs ls hw hl) (fun q => kf q H locs ls hw hl)
theorem g_goto (C : Cx ε κ cc nL own d) {off : Int} {tgt : Nat} (hd : decode cc pc = .ok (.goto off, 3)) (ht : (pc : Int) + off = (tgt : Int)) (kk : G ε κ k n tgt lv st h) : G ε κ k n pc lv st h := by
  obtain ⟨p, l, e0, R, s, m, args, below, meth, c, A, Q⟩ := κ
  obtain ⟨hx, hb, hml, hown, hts, hK, hN, hlk, hA, hfr, hlo⟩ := C
  intro H locs ls hw hl
  exact lv_goto hx hb hd ht (kk H locs ls hw hl)
theorem g_tabIn (C : Cx ε κ cc nL own d) {dflt lo hi : Int} {offs : Array Int} {len : Nat} {x : Int32} {off : Int} {tgt : Nat} (hd : decode cc pc = .ok (.tableswitch dflt lo hi offs, len)) (h1 : ¬ x.toInt < lo) (h2 : ¬ hi < x.toInt) (ho : offs[(x.toInt - lo).toNat]? = some off) (ht : (pc : Int) + off = (tgt : Int)) (kk : G ε κ k n tgt lv st h) : G ε κ k n pc lv (.int x :: st) h := by
  obtain ⟨p, l, e0, R, s, m, args, below, meth, c, A, Q⟩ := κ
  obtain ⟨hx, hb, hml, hown, hts, hK, hN, hlk, hA, hfr, hlo⟩ := C
  intro H locs ls hw hl
  exact lv_tableIn hx hb hd h1 h2 ho ht (kk H locs ls hw hl)
theorem g_tabOut (C : Cx ε κ cc nL own d) {dflt lo hi : Int} {offs : Array Int} {len : Nat} {x : Int32} {tgt : Nat} (hd : decode cc pc = .ok (.tableswitch dflt lo hi offs, len)) (hq : x.toInt < lo ∨ hi < x.toInt) (ht : (pc : Int) + dflt = (tgt : Int)) (kk : G ε κ k n tgt lv st h) : G ε κ k n pc lv (.int x :: st) h := by
  obtain ⟨p, l, e0, R, s, m, args, below, meth, c, A, Q⟩ := κ
  obtain ⟨hx, hb, hml, hown, hts, hK, hN, hlk, hA, hfr, hlo⟩ := C
  intro H locs ls hw hl
  exact lv_tableOut hx hb hd hq ht (kk H locs ls hw hl)
theorem g_istore_n (C : Cx ε κ cc nL own d) {k0 : Fin 4} {i : Nat} {x : Int32} (lv' : List (Nat × Value)) (hd : decode cc pc = .ok (.istore_n k0, 1)) (hi : (k0 : Nat) = i) (hn : i < nL) (hq : (i, Value.int x) :: lv.filter (fun q => !(q.1 == i) && !(q.1 + 1 == i && q.2.category == 2)) = lv') (kk : G ε κ k n (pc + 1) lv' st h) : G ε κ k n pc lv (Value.int x :: st) h := by
  obtain ⟨p, l, e0, R, s, m, args, below, meth, c, A, Q⟩ := κ
  obtain ⟨hx, hb, hml, hown, hts, hK, hN, hlk, hA, hfr, hlo⟩ := C
  intro H locs ls hw hl
  exact lv_istore_n hx hb hd hi hl (by rw [hml]; exact hn) hq (fun ls hl => kk H locs ls hw hl)
theorem g_istore (C : Cx ε κ cc nL own d) {i : Nat} {x : Int32} (lv' : List (Nat × Value)) (hd : decode cc pc = .ok (.istore i, 2))  (hn : i < nL) (hq : (i, Value.int x) :: lv.filter (fun q => !(q.1 == i) && !(q.1 + 1 == i && q.2.category == 2)) = lv') (kk : G ε κ k n (pc + 2) lv' st h) : G ε κ k n pc lv (Value.int x :: st) h := by
  obtain ⟨p, l, e0, R, s, m, args, below, meth, c, A, Q⟩ := κ
  obtain ⟨hx, hb, hml, hown, hts, hK, hN, hlk, hA, hfr, hlo⟩ := C
  intro H locs ls hw hl
  exact lv_istore hx hb hd hl (by rw [hml]; exact hn) hq (fun ls hl => kk H locs ls hw hl)
theorem g_astore_n (C : Cx ε κ cc nL own d) {k0 : Fin 4} {i : Nat} {x : Nat} (lv' : List (Nat × Value)) (hd : decode cc pc = .ok (.astore_n k0, 1)) (hi : (k0 : Nat) = i) (hn : i < nL) (hq : (i, Value.ref x) :: lv.filter (fun q => !(q.1 == i) && !(q.1 + 1 == i && q.2.category == 2)) = lv') (kk : G ε κ k n (pc + 1) lv' st h) : G ε κ k n pc lv (Value.ref x :: st) h := by
  obtain ⟨p, l, e0, R, s, m, args, below, meth, c, A, Q⟩ := κ
  obtain ⟨hx, hb, hml, hown, hts, hK, hN, hlk, hA, hfr, hlo⟩ := C
  intro H locs ls hw hl
  exact lv_astore_n hx hb hd hi hl (by rw [hml]; exact hn) hq (fun ls hl => kk H locs ls hw hl)
theorem g_astore (C : Cx ε κ cc nL own d) {i : Nat} {x : Nat} (lv' : List (Nat × Value)) (hd : decode cc pc = .ok (.astore i, 2))  (hn : i < nL) (hq : (i, Value.ref x) :: lv.filter (fun q => !(q.1 == i) && !(q.1 + 1 == i && q.2.category == 2)) = lv') (kk : G ε κ k n (pc + 2) lv' st h) : G ε κ k n pc lv (Value.ref x :: st) h := by
  obtain ⟨p, l, e0, R, s, m, args, below, meth, c, A, Q⟩ := κ
  obtain ⟨hx, hb, hml, hown, hts, hK, hN, hlk, hA, hfr, hlo⟩ := C
  intro H locs ls hw hl
  exact lv_astore hx hb hd hl (by rw [hml]; exact hn) hq (fun ls hl => kk H locs ls hw hl)
theorem g_iinc (C : Cx ε κ cc nL own d) {i : Nat} {z : Int} {x v : Int32} (lv' : List (Nat × Value)) (hd : decode cc pc = .ok (.iinc i z, 3)) (j : Nat) (hj : lv[j]? = some (i, .int x)) (hv : x + Int32.ofInt z = v) (hn : i < nL) (hq : (i, Value.int v) :: lv.filter (fun q => !(q.1 == i) && !(q.1 + 1 == i && q.2.category == 2)) = lv') (kk : G ε κ k n (pc + 3) lv' st h) : G ε κ k n pc lv st h := by
  obtain ⟨p, l, e0, R, s, m, args, below, meth, c, A, Q⟩ := κ
  obtain ⟨hx, hb, hml, hown, hts, hK, hN, hlk, hA, hfr, hlo⟩ := C
  intro H locs ls hw hl
  exact lv_iinc hx hb hd hl hj hv (by rw [hml]; exact hn) hq (fun ls hl => kk H locs ls hw hl)
theorem pl_get {a : Nat} (ha : a < NP) : (pl ε h)[a]? = some (ad ε a, h a) := by simp [pl, ha]
theorem pl_set {a : Nat} {e : va_E} : (pl ε h).set a (ad ε a, e) = pl ε (va_up h a e) := by
  apply List.ext_getElem?
  intro i
  by_cases hi : i < NP
  · by_cases hia : a = i
    · subst hia
      simp [pl, hi, va_up_self]
    · rw [List.getElem?_set_ne hia]
      simp [pl, hi, va_up_ne _ _ (Ne.symm hia)]
  · rw [List.getElem?_eq_none (by simp [pl]; omega), List.getElem?_eq_none (by simp [pl]; omega)]
theorem g_get (C : Cx ε κ cc nL own d) {ci a index : Nat} {R0 ref : String} {T : u_T} {N : Nat} {ty : Nat → FieldType} {fs : List Value} (j : Nat) {v : Value} (F : Fk ci R0 T N ty) (hj : j < N) (hlink : Cond.fieldLink own index ref (T j).2.1 (T j).2.2.1 ∈ TB) (href : ref = (T j).1) (ha : a < NP) (e : h a = .inr (ci, fs)) (hv : fs[j]? = some v) (hd : decode cc pc = .ok (.getfield index, 3)) (kk : G ε κ k n (pc + 3) lv (v :: st) h) : G ε κ k n pc lv (.ref (ad ε a) :: st) h := by
  obtain ⟨p, l, e0, R, s, m, args, below, meth, c, A, Q⟩ := κ
  obtain ⟨hx, hb, hml, hown, hts, hK, hN, hlk, hA, hfr, hlo⟩ := C
  intro H locs ls hw hl
  have hq := pl_get (ε := ε) (h := h) ha
  rw [e] at hq
  exact va_get hx hb hts F.2.1 hown hK hw.1 a hq F.1 j hj (hts _ hlink) (fun x h9 => by rw [href]; exact h9) hv hd (kk H locs ls hw hl)
theorem g_put (C : Cx ε κ cc nL own d) {ci a index : Nat} {R0 ref : String} {T : u_T} {N : Nat} {ty : Nat → FieldType} {fs fs' : List Value} (j : Nat) {v : Value} (F : Fk ci R0 T N ty) (hj : j < N) (hlink : Cond.fieldLink own index ref (T j).2.1 (T j).2.2.1 ∈ TB) (href : ref = (T j).1) (ha : a < NP) (e : h a = .inr (ci, fs)) (hfin : (T j).2.2.2 = false) (hn : narrow (ty j) v = v) (hfit : fits (ty j) v = true) (hjl : j < fs.length) (hfs : fs.set j v = fs') (hd : decode cc pc = .ok (.putfield index, 3)) (kk : ∀ h1 : Hp, h1 = va_up h a (.inr (ci, fs')) → G ε κ k n (pc + 3) lv st h1) : G ε κ k n pc lv (v :: .ref (ad ε a) :: st) h := by
  obtain ⟨p, l, e0, R, s, m, args, below, meth, c, A, Q⟩ := κ
  obtain ⟨hx, hb, hml, hown, hts, hK, hN, hlk, hA, hfr, hlo⟩ := C
  intro H locs ls hw hl
  have hq := pl_get (ε := ε) (h := h) ha
  rw [e] at hq
  refine va_put hx hb hts F.2.1 ty F.2.2.1 F.2.2.2 hown hK hw.1 hw.2.1 hw.2.2 a hq F.1 j hj (hts _ hlink) (fun x h9 => by rw [href]; exact h9) hfin (F.2.2.1 j hj) hn hfit hjl hd (fun H1 locs1 hP hD hS => ?_)
  rw [pl_set, hfs] at hP hD
  exact kk _ rfl H1 locs1 ls ⟨hP, hD, hS⟩ hl
theorem g_ald (C : Cx ε κ cc nL own d) {a N : Nat} {f : Nat → Int32} {i : Int32} (ha : a < NP) (e : h a = aI ε N f) (hi : vp_in i N) (hd : decode cc pc = .ok (.iaload, 1)) (kk : G ε κ k n (pc + 1) lv (.int (f i.toNatClampNeg) :: st) h) : G ε κ k n pc lv (.int i :: .ref (ad ε a) :: st) h := by
  obtain ⟨p, l, e0, R, s, m, args, below, meth, c, A, Q⟩ := κ
  obtain ⟨hx, hb, hml, hown, hts, hK, hN, hlk, hA, hfr, hlo⟩ := C
  intro H locs ls hw hl
  have hq := pl_get (ε := ε) (h := h) ha
  rw [e] at hq
  exact va_iald hx hb hK hw.1 a 0 hq rfl hi hd (kk H locs ls hw hl)
theorem g_zld (C : Cx ε κ cc nL own d) {a N : Nat} {f : Nat → Int32} {i : Int32} (ha : a < NP) (e : h a = aZ ε N f) (hi : vp_in i N) (hd : decode cc pc = .ok (.baload, 1)) (kk : G ε κ k n (pc + 1) lv (.int (f i.toNatClampNeg) :: st) h) : G ε κ k n pc lv (.int i :: .ref (ad ε a) :: st) h := by
  obtain ⟨p, l, e0, R, s, m, args, below, meth, c, A, Q⟩ := κ
  obtain ⟨hx, hb, hml, hown, hts, hK, hN, hlk, hA, hfr, hlo⟩ := C
  intro H locs ls hw hl
  have hq := pl_get (ε := ε) (h := h) ha
  rw [e] at hq
  exact va_zald hx hb hK hw.1 a 1 hq rfl hi hd (kk H locs ls hw hl)
theorem g_lld (C : Cx ε κ cc nL own d) {a N : Nat} {f : Nat → Int64} {i : Int32} (ha : a < NP) (e : h a = aJ ε N f) (hi : vp_in i N) (hd : decode cc pc = .ok (.laload, 1)) (kk : G ε κ k n (pc + 1) lv (.long (f i.toNatClampNeg) :: st) h) : G ε κ k n pc lv (.int i :: .ref (ad ε a) :: st) h := by
  obtain ⟨p, l, e0, R, s, m, args, below, meth, c, A, Q⟩ := κ
  obtain ⟨hx, hb, hml, hown, hts, hK, hN, hlk, hA, hfr, hlo⟩ := C
  intro H locs ls hw hl
  have hq := pl_get (ε := ε) (h := h) ha
  rw [e] at hq
  exact va_lald hx hb hK hw.1 a 2 hq rfl hi hd (kk H locs ls hw hl)
theorem g_ast (C : Cx ε κ cc nL own d) {a N : Nat} {f : Nat → Int32} {i x : Int32} (ha : a < NP) (e : h a = aI ε N f) (hi : vp_in i N) (hd : decode cc pc = .ok (.iastore, 1)) (kk : ∀ h1 : Hp, h1 = va_up h a (aI ε N (upd f i.toNatClampNeg x)) → G ε κ k n (pc + 1) lv st h1) : G ε κ k n pc lv (.int x :: .int i :: .ref (ad ε a) :: st) h := by
  obtain ⟨p, l, e0, R, s, m, args, below, meth, c, A, Q⟩ := κ
  obtain ⟨hx, hb, hml, hown, hts, hK, hN, hlk, hA, hfr, hlo⟩ := C
  intro H locs ls hw hl
  have hq := pl_get (ε := ε) (h := h) ha
  rw [e] at hq
  refine va_iast hx hb hK hw.1 hw.2.1 hw.2.2 a 0 hq rfl hi hd (fun H1 locs1 hP hD hS => ?_)
  rw [pl_set] at hP hD
  exact kk _ rfl H1 locs1 ls ⟨hP, hD, hS⟩ hl
theorem g_zst (C : Cx ε κ cc nL own d) {a N : Nat} {f : Nat → Int32} {i x : Int32} (ha : a < NP) (e : h a = aZ ε N f) (hi : vp_in i N) (hd : decode cc pc = .ok (.bastore, 1)) (kk : ∀ h1 : Hp, h1 = va_up h a (aZ ε N (upd f i.toNatClampNeg (vp_nar .boolean x))) → G ε κ k n (pc + 1) lv st h1) : G ε κ k n pc lv (.int x :: .int i :: .ref (ad ε a) :: st) h := by
  obtain ⟨p, l, e0, R, s, m, args, below, meth, c, A, Q⟩ := κ
  obtain ⟨hx, hb, hml, hown, hts, hK, hN, hlk, hA, hfr, hlo⟩ := C
  intro H locs ls hw hl
  have hq := pl_get (ε := ε) (h := h) ha
  rw [e] at hq
  refine va_zast hx hb hK hw.1 hw.2.1 hw.2.2 a 1 hq rfl hi hd (fun H1 locs1 hP hD hS => ?_)
  rw [pl_set] at hP hD
  exact kk _ rfl H1 locs1 ls ⟨hP, hD, hS⟩ hl
theorem g_lst (C : Cx ε κ cc nL own d) {a N : Nat} {f : Nat → Int64} {i : Int32} {x : Int64} (ha : a < NP) (e : h a = aJ ε N f) (hi : vp_in i N) (hd : decode cc pc = .ok (.lastore, 1)) (kk : ∀ h1 : Hp, h1 = va_up h a (aJ ε N (vp_updL f i.toNatClampNeg x)) → G ε κ k n (pc + 1) lv st h1) : G ε κ k n pc lv (.long x :: .int i :: .ref (ad ε a) :: st) h := by
  obtain ⟨p, l, e0, R, s, m, args, below, meth, c, A, Q⟩ := κ
  obtain ⟨hx, hb, hml, hown, hts, hK, hN, hlk, hA, hfr, hlo⟩ := C
  intro H locs ls hw hl
  have hq := pl_get (ε := ε) (h := h) ha
  rw [e] at hq
  refine va_last hx hb hK hw.1 hw.2.1 hw.2.2 a 2 hq rfl hi hd (fun H1 locs1 hP hD hS => ?_)
  rw [pl_set] at hP hD
  exact kk _ rfl H1 locs1 ls ⟨hP, hD, hS⟩ hl
theorem g_len (C : Cx ε κ cc nL own d) {a N : Nat} {f : Nat → Int32} {v : Int32} (ha : a < NP) (e : h a = aI ε N f) (hv : nI N = v) (hd : decode cc pc = .ok (.arraylength, 1)) (kk : G ε κ k n (pc + 1) lv (.int v :: st) h) : G ε κ k n pc lv (.ref (ad ε a) :: st) h := by
  obtain ⟨p, l, e0, R, s, m, args, below, meth, c, A, Q⟩ := κ
  obtain ⟨hx, hb, hml, hown, hts, hK, hN, hlk, hA, hfr, hlo⟩ := C
  intro H locs ls hw hl
  have hq := pl_get (ε := ε) (h := h) ha
  rw [e] at hq
  exact va_alen hx hb hK hw.1 a 0 hq rfl hv hd (kk H locs ls hw hl)
/-- Math.min, Math.max -/
theorem g_min (C : Cx ε κ cc nL own d) {index : Nat} {x y : Int32} (hd1 : 1 ≤ d) (hlink : Cond.methodLink own index Lib.Math.min.name ∈ TB) (hstat : Cond.static Lib.Math.min.name ∈ TB) (hini : Cond.initialized "java/lang/Math" ∈ TB) (hcode : Cond.code Lib.Math.min.name Lib.Math.min.code 2 (some .int) ∈ TB) (hst : (st.map fun v => v.category).sum ≤ 8) (hcn : k = 0 ∧ n = 0) (hd : decode cc pc = .ok (.invokestatic index, 3)) (kk : G ε κ k n (pc + 3) lv (.int (if y < x then y else x) :: st) h) : G ε κ k n pc lv (.int y :: .int x :: st) h := by
  obtain ⟨p, l, e0, R, s, m, args, below, meth, c, A, Q⟩ := κ
  obtain ⟨hx, hb, hml, hown, hts, hK, hN, hlk, hA, hfr, hlo⟩ := C
  intro H locs ls hw hl
  refine va_mmin hx hb hl.1.symm hown (hts _ hlink) (hts _ hstat) (hts _ hini) (hts _ hcode) (Nat.le_trans hd1 hfr) (by omega) (by rw [hcn.1]; exact Nat.zero_le _) (by rw [hcn.2]; exact Nat.zero_le _) hd (kk H locs ls hw hl)
/-- a method's room at depth d -/
def rmD (d mc ms : Nat) : Room := { frames := d, cells := mc, slots := ms, locals := 30 * d }
def Qg (ε : Et) (Post : Option Value → Hp → Prop) (A : Nat → Prop) : Array Value → State → Outcome → State → Prop := fun _ s oc t => (∃ (v : Option Value) (h' : Hp), oc = .returned v ∧ Post v h' ∧ va_P ε.1 vwCl (pl ε h') t.heap ∧ va_D A (pl ε h')) ∧ va_F A s t
def Pg (ε : Et) (av : List Value) (h : Hp) (sz : Nat) : Array Value → State → Prop := va_Pc av (fun U => U.heap.size = sz ∧ va_P ε.1 vwCl (pl ε h) U.heap ∧ va_K ε.1 vwCl (tyE ε) U ∧ Nst U ∧ va_D (fun _ => True) (pl ε h))
/-- a method's contract: called with av in the world h it returns v in a world h', with Post -/
def RM (l : Launch) (ε : Et) (y : MethodName) (cc : ByteArray) (nL : Nat) (ret : Option FieldType) (d mc ms : Nat) (av : List Value) (h : Hp) (Post : Option Value → Hp → Prop) : Prop :=
  ∀ sz : Nat, Met l y (.code y cc nL ret :: TB) (rmD d mc ms) (Pg ε av h sz) (Qg ε Post (va_A (pl ε h) sz)) mc ms (va_A (pl ε h) sz)
/-- how a body returns -/
def Ret (ε : Et) (κ : Kt) (cc : ByteArray) (ret : Option FieldType) (mc ms : Nat) (Post : Option Value → Hp → Prop) : Prop :=
  (ret = none → ∀ (pc : Nat) (lv : List (Nat × Value)) (h : Hp), decode cc pc = .ok (.return_, 1) → Post none h → G ε κ mc ms pc lv [] h) ∧
  (∀ (ty : FieldType) (pc : Nat) (lv : List (Nat × Value)) (h : Hp) (r : Int32), ret = some ty → decode cc pc = .ok (.ireturn, 1) → narrow ty (.int r) = .int r → Post (some (.int r)) h → G ε κ mc ms pc lv [.int r] h)
theorem RM.of {l : Launch} {y : MethodName} {ret : Option FieldType} {mc ms : Nat} {av : List Value} {Post : Option Value → Hp → Prop} (hy : plainName y.cls = true) (hav : (lg_sl av).length ≤ nL)
    (body : ∀ κ : Kt, Cx ε κ cc nL y.cls d → Ret ε κ cc ret mc ms Post → G ε κ 0 0 0 (lv_args 0 av) [] h) : RM l ε y cc nL ret d mc ms av h Post := by
  intro sz
  refine Met.ofW (cc := cc) (maxL := nL) (ret := ret) hy rfl ?_
  intro p e s m args below meth c s₁ B hml hv
  obtain ⟨rfl, hsz, hP, hK, hN, hD0⟩ := hv
  subst hsz
  have hts := atoms_spec (ws := .code y cc nL ret :: TB) B.pre
  have hD := hD0.self (sz := s.heap.size)
  have hA : ∀ q : Nat, s.heap.size ≤ q → va_A (pl ε h) s.heap.size q := fun q h => Or.inr h
  have hl := lv_entry av (n := nL) hav
  rw [lg_entry_eq]
  have hr := B.returns
  have hlk : meth.locks = false := B.notSynchronized
  refine body (p, l, e, _, s, m, av.toArray, below, meth, c, _, _) ⟨B.exec, B.bytes, hml, findClass_of_methodNamed B.named, fun w hw => hts w (List.mem_cons_of_mem _ hw), hK, hN, hlk, hA, Nat.le_refl _, Nat.le_refl _⟩ ⟨?_, ?_⟩ s.heap [] _ ⟨hP, hD, va_S.rf⟩ (by rw [hml]; exact hl)
  · intro hn pc lv h' hd hp H locs ls hw hl
    exact W.vret B.exec B.bytes (hr.trans hn) (fun t ht hW => ⟨⟨none, h', rfl, hp, by rw [ht]; exact hw.1, hw.2.1⟩, hw.2.2.F ht⟩) hw.2.2.2.2 hd
  · intro ty pc lv h' r hn hd hnar hp H locs ls hw hl
    exact W.zret B.exec B.bytes (hr.trans hn) hnar (fun t ht hW => ⟨⟨some (.int r), h', rfl, hp, by rw [ht]; exact hw.1, hw.2.1⟩, hw.2.2.F ht⟩) hw.2.2.2.2 hd
theorem fblind {av : List Value} {sz : Nat} : FrameBlind (Pg ε av h sz) := fun a U g mk q => by
  obtain ⟨q0, q1, qP, qK, qN, qD⟩ := q
  exact ⟨q0, q1, qP, va_K.moved (u := U) (U := U.calling g mk a) (Vm.Alike.refl U.vm) qK, fun z hz => va_Nw.same rfl (u := U) (U := U.calling g mk a) rfl (qN z hz), qD⟩
theorem g_after {p : Program} {l : Launch} {e : Env} {R : Room} {s : State} {m : MethodId} {args : Array Value} {below : List Frame} {meth : Method} {c : Code} {A : Nat → Prop} {Q : State → Prop} {H : Heap} {locs : List Loc} {ls : Array Slot} {st0 rest : List Value} {a : Array Value} {mc ms : Nat} {Post : Option Value → Hp → Prop}
    (hA : ∀ q : Nat, s.heap.size ≤ q → A q) (hw : Wd ε A s.heap h H locs) (hl : lv_has ls c.maxLocals lv)
    (hr : va_Run p l e R s m args below meth c H locs k n mc ms (F0 m pc ls st0) rest (Qg ε Post (va_A (pl ε h) H.size) a) (va_A (pl ε h) H.size))
    (kk : ∀ (v : Option Value) (h1 : Hp), Post v h1 → G ε (p, l, e, R, s, m, args, below, meth, c, A, Q) (k + mc) (n + ms) (pc + 3) lv (v.toList ++ rest) h1) : W p l e R s m args below meth c H locs k n Q (F0 m pc ls st0) := by
  have hf : ∀ q, va_A (pl ε h) H.size q → A q := fun q hq => hq.elim (fun ⟨i, e9, h9⟩ => hw.2.1.2 i _ h9) (fun h9 => hA q (Nat.le_trans hw.2.2.1 h9))
  intro T hT X
  obtain ⟨v, st₀, t, T', L, h0, X', hL, e1, e2, ⟨⟨v', h1, hv, hp, hP1, hD1⟩, hz, hk⟩, stp⟩ := hr T hT X
  cases hv
  rw [h0] at hz hk
  have hS := hw.2.2
  obtain ⟨t2, a1, b1⟩ := kk v h1 hp T'.heap (locs ++ L) ls ⟨by rw [e1]; exact hP1, hD1.weaken (fun _ _ _ h9 => hf _ h9), ⟨Nat.le_trans hS.1 (by rw [e1]; exact hz), fun q h1 h2 => by rw [e1, hk q (Nat.lt_of_lt_of_le h1 hS.1) (fun z => h2 (hf q z))]; exact hS.2.1 q h1 h2, fun q hq => by
      rcases List.mem_append.mp hq with h | h
      · exact hS.2.2 q h
      · exact hf _ (hL q h)⟩⟩ hl T' rfl X'
  exact ⟨t2, stp t2 a1, b1⟩
theorem g_call (C : Cx ε κ cc nL own d) {y : MethodName} {bytes : ByteArray} {maxL d' mc ms b ci index np : Nat} {ret : Option FieldType} {As rest st0 : List Value} {fs : List Value} {T : u_T} {N : Nat} {Post : Option Value → Hp → Prop}
    (hM : RM κ.2.1 ε y bytes maxL ret d' mc ms (.ref (ad ε b) :: As) h Post) (hw9 : Wv own index y bytes maxL ret np) (hdp : d' < d) (hb9 : b < NP) (he : h b = .inr (ci, fs)) (hci : vwCl[ci]? = some (y.cls, T, N)) (hn : As.length = np) (hst : st0 = As.reverse ++ .ref (ad ε b) :: rest) (hcat : (rest.map fun v => v.category).sum ≤ 8) (hroom : k + mc ≤ κ.2.2.2.1.cells ∧ n + ms ≤ κ.2.2.2.1.slots) (hd : decode cc pc = .ok (.invokevirtual index, 3))
    (kk : ∀ (v : Option Value) (h1 : Hp), Post v h1 → G ε κ (k + mc) (n + ms) (pc + 3) lv (v.toList ++ rest) h1) : G ε κ k n pc lv st0 h := by
  obtain ⟨p, l, e0, R, s, m, args, below, meth, c, A, Q⟩ := κ
  obtain ⟨hx, hb, hml, hown, hts, hK, hN, hlk, hA, hfr, hlo⟩ := C
  intro H locs ls hw hl
  obtain ⟨w1, w2, w3, w4, w5, w6, w7⟩ := hw9
  have hq := pl_get (ε := ε) (h := h) hb9
  rw [he] at hq
  have hG : GoodIn TB (.code y bytes maxL ret :: TB) := tb_goodc w5
  refine g_after hA hw hl (va_runV (Ts := TB) (As := As) (rest := rest) (C := y.cls) (b := ad ε b) ⟨hx, hb, hml, hown, hts⟩ (hM H.size) ⟨callB_of np hts hG rfl rfl rfl (hts _ w4) (hts _ w1) w7 ⟨Nat.le_trans hdp hfr, ?_⟩, hts _ w2, hts _ w3⟩ ⟨fblind, va_recv hK hw.1 hci hq, fun U hU hW => ⟨rfl, by rw [hU], by rw [hU]; exact hw.1, va_K.moved hW.alike hK, fun z hz => va_Nw.warmM hW (hN z hz), hw.2.1.weaken (fun _ _ _ _ => trivial)⟩⟩ rfl hn (hl.1.trans hml) hst (lv_room hcat) hd hroom) kk
  show 8 + (maxL + 11) + 30 * d' ≤ R.locals
  omega
theorem g_callS (C : Cx ε κ cc nL own d) {y : MethodName} {bytes : ByteArray} {maxL d' mc ms index np : Nat} {ret : Option FieldType} {As rest st0 : List Value} {Post : Option Value → Hp → Prop}
    (hM : RM κ.2.1 ε y bytes maxL ret d' mc ms As h Post) (hw9 : Wst own index y bytes maxL ret np) (hdp : d' < d) (hn : As.length = np) (hst : st0 = As.reverse ++ rest) (hcat : (rest.map fun v => v.category).sum ≤ 8) (hroom : k + mc ≤ κ.2.2.2.1.cells ∧ n + ms ≤ κ.2.2.2.1.slots) (hd : decode cc pc = .ok (.invokestatic index, 3))
    (kk : ∀ (v : Option Value) (h1 : Hp), Post v h1 → G ε κ (k + mc) (n + ms) (pc + 3) lv (v.toList ++ rest) h1) : G ε κ k n pc lv st0 h := by
  obtain ⟨p, l, e0, R, s, m, args, below, meth, c, A, Q⟩ := κ
  obtain ⟨hx, hb, hml, hown, hts, hK, hN, hlk, hA, hfr, hlo⟩ := C
  intro H locs ls hw hl
  obtain ⟨w1, w2, w4, w5, w6, w7⟩ := hw9
  have hG : GoodIn TB (.code y bytes maxL ret :: TB) := tb_goodc w5
  refine g_after hA hw hl (va_runS (Ts := TB) (As := As) (rest := rest) ⟨hx, hb, hml, hown, hts⟩ (hM H.size) ⟨callB_of np hts hG rfl rfl rfl (hts _ w4) (hts _ w1) w7 ⟨Nat.le_trans hdp hfr, ?_⟩, hts _ w2⟩ ⟨fblind, fun U hU hW => ⟨rfl, by rw [hU], by rw [hU]; exact hw.1, va_K.moved hW.alike hK, fun z hz => va_Nw.warmM hW (hN z hz), hw.2.1.weaken (fun _ _ _ _ => trivial)⟩⟩ rfl hn (hl.1.trans hml) hst (lv_room hcat) hd hroom) kk
  show 8 + (maxL + 11) + 30 * d' ≤ R.locals
  omega
theorem g_callN (C : Cx ε κ cc nL own d) {y : MethodName} {bytes : ByteArray} {maxL d' mc ms index np : Nat} {ret : Option FieldType} {As rest st0 : List Value} {Post : Option Value → Hp → Prop}
    (hM : RM κ.2.1 ε y bytes maxL ret d' mc ms As h Post) (hw9 : Wsn own index y bytes maxL ret np) (hdp : d' < d) (hn : As.length = np) (hst : st0 = As.reverse ++ rest) (hcat : (rest.map fun v => v.category).sum ≤ 8) (hroom : k + mc ≤ κ.2.2.2.1.cells ∧ n + ms ≤ κ.2.2.2.1.slots) (hd : decode cc pc = .ok (.invokestatic index, 3))
    (kk : ∀ (v : Option Value) (h1 : Hp), Post v h1 → G ε κ (k + mc) (n + ms) (pc + 3) lv (v.toList ++ rest) h1) : G ε κ k n pc lv st0 h := by
  obtain ⟨p, l, e0, R, s, m, args, below, meth, c, A, Q⟩ := κ
  obtain ⟨hx, hb, hml, hown, hts, hK, hN, hlk, hA, hfr, hlo⟩ := C
  intro H locs ls hw hl
  obtain ⟨w1, w2, w4, w5, w6, w7⟩ := hw9
  have hG : GoodIn TB (.code y bytes maxL ret :: TB) := tb_goodc w5
  refine g_after hA hw hl (va_runSN (Ts := TB) (As := As) (rest := rest) ⟨hx, hb, hml, hown, hts⟩ (hM H.size) ⟨va_cnB np hts hG rfl rfl rfl (hN _ w1) (hts _ w4) w7 ⟨Nat.le_trans hdp hfr, ?_⟩, hts _ w2, trivial⟩ ⟨fblind, fun U hU hW => ⟨rfl, by rw [hU], by rw [hU]; exact hw.1, va_K.moved hW.alike hK, fun z hz => va_Nw.warmM hW (hN z hz), hw.2.1.weaken (fun _ _ _ _ => trivial)⟩⟩ rfl hn (hl.1.trans hml) hst (lv_room hcat) hd hroom) kk
  show 8 + (maxL + 11) + 30 * d' ≤ R.locals
  omega
theorem g_call0 (C : Cx ε κ cc nL own d) {y : MethodName} {bytes : ByteArray} {maxL d' b ci index np : Nat} {ret : Option FieldType} {As rest st0 : List Value} {fs : List Value} {T : u_T} {N : Nat} {Post : Option Value → Hp → Prop}
    (hM : RM κ.2.1 ε y bytes maxL ret d' 0 0 (.ref (ad ε b) :: As) h Post) (hw9 : Wv own index y bytes maxL ret np) (hdp : d' < d) (hb9 : b < NP) (he : h b = .inr (ci, fs)) (hci : vwCl[ci]? = some (y.cls, T, N)) (hn : As.length = np) (hst : st0 = As.reverse ++ .ref (ad ε b) :: rest) (hcat : (rest.map fun v => v.category).sum ≤ 8) (hd : decode cc pc = .ok (.invokevirtual index, 3))
    (kk : ∀ (v : Option Value) (h1 : Hp), Post v h1 → G ε κ 0 0 (pc + 3) lv (v.toList ++ rest) h1) : G ε κ 0 0 pc lv st0 h := g_call C hM hw9 hdp hb9 he hci hn hst hcat ⟨Nat.zero_le _, Nat.zero_le _⟩ hd kk
theorem g_callS0 (C : Cx ε κ cc nL own d) {y : MethodName} {bytes : ByteArray} {maxL d' index np : Nat} {ret : Option FieldType} {As rest st0 : List Value} {Post : Option Value → Hp → Prop}
    (hM : RM κ.2.1 ε y bytes maxL ret d' 0 0 As h Post) (hw9 : Wst own index y bytes maxL ret np) (hdp : d' < d) (hn : As.length = np) (hst : st0 = As.reverse ++ rest) (hcat : (rest.map fun v => v.category).sum ≤ 8) (hd : decode cc pc = .ok (.invokestatic index, 3))
    (kk : ∀ (v : Option Value) (h1 : Hp), Post v h1 → G ε κ 0 0 (pc + 3) lv (v.toList ++ rest) h1) : G ε κ 0 0 pc lv st0 h := g_callS C hM hw9 hdp hn hst hcat ⟨Nat.zero_le _, Nat.zero_le _⟩ hd kk
theorem g_callN0 (C : Cx ε κ cc nL own d) {y : MethodName} {bytes : ByteArray} {maxL d' index np : Nat} {ret : Option FieldType} {As rest st0 : List Value} {Post : Option Value → Hp → Prop}
    (hM : RM κ.2.1 ε y bytes maxL ret d' 0 0 As h Post) (hw9 : Wsn own index y bytes maxL ret np) (hdp : d' < d) (hn : As.length = np) (hst : st0 = As.reverse ++ rest) (hcat : (rest.map fun v => v.category).sum ≤ 8) (hd : decode cc pc = .ok (.invokestatic index, 3))
    (kk : ∀ (v : Option Value) (h1 : Hp), Post v h1 → G ε κ 0 0 (pc + 3) lv (v.toList ++ rest) h1) : G ε κ 0 0 pc lv st0 h := g_callN C hM hw9 hdp hn hst hcat ⟨Nat.zero_le _, Nat.zero_le _⟩ hd kk
theorem g_pick (kk : G ε κ k n pc lv' st h) (is : List Nat) (hq : lv_pick lv is = lv') : G ε κ k n pc lv st h := by
  obtain ⟨p, l, e, R, s, m, args, below, meth, c, A, Q⟩ := κ
  intro H locs ls hw hl
  exact kk H locs ls hw (lv_sub hl is hq)
theorem G.topi {x : Int32} (kk : ∀ y : Int32, y = x → G ε κ k n pc lv (.int y :: st) h) : G ε κ k n pc lv (.int x :: st) h := kk x rfl
theorem G.eqi {x y : Int32} (e : x = y) (kk : G ε κ k n pc lv (.int y :: st) h) : G ε κ k n pc lv (.int x :: st) h := e ▸ kk
end GK
end
section
section WD
variable {ε : Et} {κ : Kt} {cc : ByteArray} {nL d : Nat} {k n pc : Nat} {lv : List (Nat × Value)} {st : List Value} {h : Hp}
theorem gf_X8_14 (C : Cx ε κ cc nL RX8 d) {a : Nat} {fs : List Value} {v : Value} (ha : a < NP) (e : h a = .inr (7, fs)) (hv : fs[0]? = some v) (hd : decode cc pc = .ok (.getfield 14, 3)) (kk : G ε κ k n (pc + 3) lv (v :: st) h) : G ε κ k n pc lv (.ref (ad ε a) :: st) h := g_get C 0 F_X8 (by decide) fl_X8_14 rfl ha e hv hd kk
theorem gf_X8_18 (C : Cx ε κ cc nL RX8 d) {a : Nat} {fs : List Value} {v : Value} (ha : a < NP) (e : h a = .inr (7, fs)) (hv : fs[1]? = some v) (hd : decode cc pc = .ok (.getfield 18, 3)) (kk : G ε κ k n (pc + 3) lv (v :: st) h) : G ε κ k n pc lv (.ref (ad ε a) :: st) h := g_get C 1 F_X8 (by decide) fl_X8_18 rfl ha e hv hd kk
theorem gf_X8_24 (C : Cx ε κ cc nL RX8 d) {a : Nat} {fs : List Value} {v : Value} (ha : a < NP) (e : h a = .inr (7, fs)) (hv : fs[2]? = some v) (hd : decode cc pc = .ok (.getfield 24, 3)) (kk : G ε κ k n (pc + 3) lv (v :: st) h) : G ε κ k n pc lv (.ref (ad ε a) :: st) h := g_get C 2 F_X8 (by decide) fl_X8_24 rfl ha e hv hd kk
theorem gf_X8_31 (C : Cx ε κ cc nL RX8 d) {a : Nat} {fs : List Value} {v : Value} (ha : a < NP) (e : h a = .inr (7, fs)) (hv : fs[3]? = some v) (hd : decode cc pc = .ok (.getfield 31, 3)) (kk : G ε κ k n (pc + 3) lv (v :: st) h) : G ε κ k n pc lv (.ref (ad ε a) :: st) h := g_get C 3 F_X8 (by decide) fl_X8_31 rfl ha e hv hd kk
theorem gf_X8_38 (C : Cx ε κ cc nL RX8 d) {a : Nat} {fs : List Value} {v : Value} (ha : a < NP) (e : h a = .inr (7, fs)) (hv : fs[4]? = some v) (hd : decode cc pc = .ok (.getfield 38, 3)) (kk : G ε κ k n (pc + 3) lv (v :: st) h) : G ε κ k n pc lv (.ref (ad ε a) :: st) h := g_get C 4 F_X8 (by decide) fl_X8_38 rfl ha e hv hd kk
theorem gf_X8_45 (C : Cx ε κ cc nL RX8 d) {a : Nat} {fs : List Value} {v : Value} (ha : a < NP) (e : h a = .inr (7, fs)) (hv : fs[5]? = some v) (hd : decode cc pc = .ok (.getfield 45, 3)) (kk : G ε κ k n (pc + 3) lv (v :: st) h) : G ε κ k n pc lv (.ref (ad ε a) :: st) h := g_get C 5 F_X8 (by decide) fl_X8_45 rfl ha e hv hd kk
theorem gf_X8_52 (C : Cx ε κ cc nL RX8 d) {a : Nat} {fs : List Value} {v : Value} (ha : a < NP) (e : h a = .inr (7, fs)) (hv : fs[6]? = some v) (hd : decode cc pc = .ok (.getfield 52, 3)) (kk : G ε κ k n (pc + 3) lv (v :: st) h) : G ε κ k n pc lv (.ref (ad ε a) :: st) h := g_get C 6 F_X8 (by decide) fl_X8_52 rfl ha e hv hd kk
theorem gp_X8_52 (C : Cx ε κ cc nL RX8 d) {a : Nat} {fs : List Value} {x : Nat} (fs' : List Value) (ha : a < NP) (e : h a = .inr (7, fs)) (hjl : 6 < fs.length) (hfs : fs.set 6 (.ref x) = fs') (hd : decode cc pc = .ok (.putfield 52, 3)) (kk : ∀ h1 : Hp, h1 = va_up h a (.inr (7, fs')) → G ε κ k n (pc + 3) lv st h1) : G ε κ k n pc lv (.ref x :: .ref (ad ε a) :: st) h := g_put C 6 F_X8 (by decide) fl_X8_52 rfl ha e rfl rfl rfl hjl hfs hd kk
theorem gf_X8_56 (C : Cx ε κ cc nL RX8 d) {a : Nat} {fs : List Value} {v : Value} (ha : a < NP) (e : h a = .inr (7, fs)) (hv : fs[7]? = some v) (hd : decode cc pc = .ok (.getfield 56, 3)) (kk : G ε κ k n (pc + 3) lv (v :: st) h) : G ε κ k n pc lv (.ref (ad ε a) :: st) h := g_get C 7 F_X8 (by decide) fl_X8_56 rfl ha e hv hd kk
theorem gp_X8_56 (C : Cx ε κ cc nL RX8 d) {a : Nat} {fs : List Value} {x : Int32} (fs' : List Value) (ha : a < NP) (e : h a = .inr (7, fs)) (hjl : 7 < fs.length) (hfs : fs.set 7 (.int x) = fs') (hd : decode cc pc = .ok (.putfield 56, 3)) (kk : ∀ h1 : Hp, h1 = va_up h a (.inr (7, fs')) → G ε κ k n (pc + 3) lv st h1) : G ε κ k n pc lv (.int x :: .ref (ad ε a) :: st) h := g_put C 7 F_X8 (by decide) fl_X8_56 rfl ha e rfl rfl rfl hjl hfs hd kk
theorem gf_X0_9 (C : Cx ε κ cc nL RX0 d) {a : Nat} {fs : List Value} {v : Value} (ha : a < NP) (e : h a = .inr (0, fs)) (hv : fs[0]? = some v) (hd : decode cc pc = .ok (.getfield 9, 3)) (kk : G ε κ k n (pc + 3) lv (v :: st) h) : G ε κ k n pc lv (.ref (ad ε a) :: st) h := g_get C 0 F_X0 (by decide) fl_X0_9 rfl ha e hv hd kk
theorem gf_X0_20 (C : Cx ε κ cc nL RX0 d) {a : Nat} {fs : List Value} {v : Value} (ha : a < NP) (e : h a = .inr (0, fs)) (hv : fs[1]? = some v) (hd : decode cc pc = .ok (.getfield 20, 3)) (kk : G ε κ k n (pc + 3) lv (v :: st) h) : G ε κ k n pc lv (.ref (ad ε a) :: st) h := g_get C 1 F_X0 (by decide) fl_X0_20 rfl ha e hv hd kk
theorem gf_X0_24 (C : Cx ε κ cc nL RX0 d) {a : Nat} {fs : List Value} {v : Value} (ha : a < NP) (e : h a = .inr (0, fs)) (hv : fs[4]? = some v) (hd : decode cc pc = .ok (.getfield 24, 3)) (kk : G ε κ k n (pc + 3) lv (v :: st) h) : G ε κ k n pc lv (.ref (ad ε a) :: st) h := g_get C 4 F_X0 (by decide) fl_X0_24 rfl ha e hv hd kk
theorem gp_X0_24 (C : Cx ε κ cc nL RX0 d) {a : Nat} {fs : List Value} {x : Int32} (fs' : List Value) (ha : a < NP) (e : h a = .inr (0, fs)) (hjl : 4 < fs.length) (hfs : fs.set 4 (.int x) = fs') (hd : decode cc pc = .ok (.putfield 24, 3)) (kk : ∀ h1 : Hp, h1 = va_up h a (.inr (0, fs')) → G ε κ k n (pc + 3) lv st h1) : G ε κ k n pc lv (.int x :: .ref (ad ε a) :: st) h := g_put C 4 F_X0 (by decide) fl_X0_24 rfl ha e rfl rfl rfl hjl hfs hd kk
theorem gf_X0_28 (C : Cx ε κ cc nL RX0 d) {a : Nat} {fs : List Value} {v : Value} (ha : a < NP) (e : h a = .inr (0, fs)) (hv : fs[2]? = some v) (hd : decode cc pc = .ok (.getfield 28, 3)) (kk : G ε κ k n (pc + 3) lv (v :: st) h) : G ε κ k n pc lv (.ref (ad ε a) :: st) h := g_get C 2 F_X0 (by decide) fl_X0_28 rfl ha e hv hd kk
theorem gp_X0_28 (C : Cx ε κ cc nL RX0 d) {a : Nat} {fs : List Value} {x : Int32} (fs' : List Value) (ha : a < NP) (e : h a = .inr (0, fs)) (hjl : 2 < fs.length) (hfs : fs.set 2 (.int x) = fs') (hd : decode cc pc = .ok (.putfield 28, 3)) (kk : ∀ h1 : Hp, h1 = va_up h a (.inr (0, fs')) → G ε κ k n (pc + 3) lv st h1) : G ε κ k n pc lv (.int x :: .ref (ad ε a) :: st) h := g_put C 2 F_X0 (by decide) fl_X0_28 rfl ha e rfl rfl rfl hjl hfs hd kk
theorem gf_X0_31 (C : Cx ε κ cc nL RX0 d) {a : Nat} {fs : List Value} {v : Value} (ha : a < NP) (e : h a = .inr (0, fs)) (hv : fs[3]? = some v) (hd : decode cc pc = .ok (.getfield 31, 3)) (kk : G ε κ k n (pc + 3) lv (v :: st) h) : G ε κ k n pc lv (.ref (ad ε a) :: st) h := g_get C 3 F_X0 (by decide) fl_X0_31 rfl ha e hv hd kk
theorem gp_X0_31 (C : Cx ε κ cc nL RX0 d) {a : Nat} {fs : List Value} {x : Int32} (fs' : List Value) (ha : a < NP) (e : h a = .inr (0, fs)) (hjl : 3 < fs.length) (hfs : fs.set 3 (.int x) = fs') (hd : decode cc pc = .ok (.putfield 31, 3)) (kk : ∀ h1 : Hp, h1 = va_up h a (.inr (0, fs')) → G ε κ k n (pc + 3) lv st h1) : G ε κ k n pc lv (.int x :: .ref (ad ε a) :: st) h := g_put C 3 F_X0 (by decide) fl_X0_31 rfl ha e rfl rfl rfl hjl hfs hd kk
theorem gf_X1_9 (C : Cx ε κ cc nL RX1 d) {a : Nat} {fs : List Value} {v : Value} (ha : a < NP) (e : h a = .inr (1, fs)) (hv : fs[0]? = some v) (hd : decode cc pc = .ok (.getfield 9, 3)) (kk : G ε κ k n (pc + 3) lv (v :: st) h) : G ε κ k n pc lv (.ref (ad ε a) :: st) h := g_get C 0 F_X1 (by decide) fl_X1_9 rfl ha e hv hd kk
theorem gf_X1_15 (C : Cx ε κ cc nL RX1 d) {a : Nat} {fs : List Value} {v : Value} (ha : a < NP) (e : h a = .inr (1, fs)) (hv : fs[1]? = some v) (hd : decode cc pc = .ok (.getfield 15, 3)) (kk : G ε κ k n (pc + 3) lv (v :: st) h) : G ε κ k n pc lv (.ref (ad ε a) :: st) h := g_get C 1 F_X1 (by decide) fl_X1_15 rfl ha e hv hd kk
theorem gf_X1_18 (C : Cx ε κ cc nL RX1 d) {a : Nat} {fs : List Value} {v : Value} (ha : a < NP) (e : h a = .inr (1, fs)) (hv : fs[2]? = some v) (hd : decode cc pc = .ok (.getfield 18, 3)) (kk : G ε κ k n (pc + 3) lv (v :: st) h) : G ε κ k n pc lv (.ref (ad ε a) :: st) h := g_get C 2 F_X1 (by decide) fl_X1_18 rfl ha e hv hd kk
theorem gf_X1_21 (C : Cx ε κ cc nL RX1 d) {a : Nat} {fs : List Value} {v : Value} (ha : a < NP) (e : h a = .inr (1, fs)) (hv : fs[3]? = some v) (hd : decode cc pc = .ok (.getfield 21, 3)) (kk : G ε κ k n (pc + 3) lv (v :: st) h) : G ε κ k n pc lv (.ref (ad ε a) :: st) h := g_get C 3 F_X1 (by decide) fl_X1_21 rfl ha e hv hd kk
theorem gf_X1_24 (C : Cx ε κ cc nL RX1 d) {a : Nat} {fs : List Value} {v : Value} (ha : a < NP) (e : h a = .inr (1, fs)) (hv : fs[4]? = some v) (hd : decode cc pc = .ok (.getfield 24, 3)) (kk : G ε κ k n (pc + 3) lv (v :: st) h) : G ε κ k n pc lv (.ref (ad ε a) :: st) h := g_get C 4 F_X1 (by decide) fl_X1_24 rfl ha e hv hd kk
theorem gf_X1_27 (C : Cx ε κ cc nL RX1 d) {a : Nat} {fs : List Value} {v : Value} (ha : a < NP) (e : h a = .inr (1, fs)) (hv : fs[5]? = some v) (hd : decode cc pc = .ok (.getfield 27, 3)) (kk : G ε κ k n (pc + 3) lv (v :: st) h) : G ε κ k n pc lv (.ref (ad ε a) :: st) h := g_get C 5 F_X1 (by decide) fl_X1_27 rfl ha e hv hd kk
theorem gf_X1_30 (C : Cx ε κ cc nL RX1 d) {a : Nat} {fs : List Value} {v : Value} (ha : a < NP) (e : h a = .inr (1, fs)) (hv : fs[6]? = some v) (hd : decode cc pc = .ok (.getfield 30, 3)) (kk : G ε κ k n (pc + 3) lv (v :: st) h) : G ε κ k n pc lv (.ref (ad ε a) :: st) h := g_get C 6 F_X1 (by decide) fl_X1_30 rfl ha e hv hd kk
theorem gf_X1_39 (C : Cx ε κ cc nL RX1 d) {a : Nat} {fs : List Value} {v : Value} (ha : a < NP) (e : h a = .inr (1, fs)) (hv : fs[7]? = some v) (hd : decode cc pc = .ok (.getfield 39, 3)) (kk : G ε κ k n (pc + 3) lv (v :: st) h) : G ε κ k n pc lv (.ref (ad ε a) :: st) h := g_get C 7 F_X1 (by decide) fl_X1_39 rfl ha e hv hd kk
theorem gp_X1_39 (C : Cx ε κ cc nL RX1 d) {a : Nat} {fs : List Value} {x : Int32} (fs' : List Value) (ha : a < NP) (e : h a = .inr (1, fs)) (hjl : 7 < fs.length) (hfs : fs.set 7 (.int x) = fs') (hd : decode cc pc = .ok (.putfield 39, 3)) (kk : ∀ h1 : Hp, h1 = va_up h a (.inr (1, fs')) → G ε κ k n (pc + 3) lv st h1) : G ε κ k n pc lv (.int x :: .ref (ad ε a) :: st) h := g_put C 7 F_X1 (by decide) fl_X1_39 rfl ha e rfl rfl rfl hjl hfs hd kk
theorem gf_X1_43 (C : Cx ε κ cc nL RX1 d) {a : Nat} {fs : List Value} {v : Value} (ha : a < NP) (e : h a = .inr (1, fs)) (hv : fs[8]? = some v) (hd : decode cc pc = .ok (.getfield 43, 3)) (kk : G ε κ k n (pc + 3) lv (v :: st) h) : G ε κ k n pc lv (.ref (ad ε a) :: st) h := g_get C 8 F_X1 (by decide) fl_X1_43 rfl ha e hv hd kk
theorem gp_X1_43 (C : Cx ε κ cc nL RX1 d) {a : Nat} {fs : List Value} {x : Int32} (hz : x = 0 ∨ x = 1) (fs' : List Value) (ha : a < NP) (e : h a = .inr (1, fs)) (hjl : 8 < fs.length) (hfs : fs.set 8 (.int x) = fs') (hd : decode cc pc = .ok (.putfield 43, 3)) (kk : ∀ h1 : Hp, h1 = va_up h a (.inr (1, fs')) → G ε κ k n (pc + 3) lv st h1) : G ε κ k n pc lv (.int x :: .ref (ad ε a) :: st) h := g_put C 8 F_X1 (by decide) fl_X1_43 rfl ha e rfl (by rcases hz with rfl | rfl <;> rfl) (by rcases hz with rfl | rfl <;> rfl) hjl hfs hd kk
theorem gf_X2_12 (C : Cx ε κ cc nL RX2 d) {a : Nat} {fs : List Value} {v : Value} (ha : a < NP) (e : h a = .inr (2, fs)) (hv : fs[0]? = some v) (hd : decode cc pc = .ok (.getfield 12, 3)) (kk : G ε κ k n (pc + 3) lv (v :: st) h) : G ε κ k n pc lv (.ref (ad ε a) :: st) h := g_get C 0 F_X2 (by decide) fl_X2_12 rfl ha e hv hd kk
theorem gp_X2_12 (C : Cx ε κ cc nL RX2 d) {a : Nat} {fs : List Value} {x : Nat} (fs' : List Value) (ha : a < NP) (e : h a = .inr (2, fs)) (hjl : 0 < fs.length) (hfs : fs.set 0 (.ref x) = fs') (hd : decode cc pc = .ok (.putfield 12, 3)) (kk : ∀ h1 : Hp, h1 = va_up h a (.inr (2, fs')) → G ε κ k n (pc + 3) lv st h1) : G ε κ k n pc lv (.ref x :: .ref (ad ε a) :: st) h := g_put C 0 F_X2 (by decide) fl_X2_12 rfl ha e rfl rfl rfl hjl hfs hd kk
theorem gf_X2_18 (C : Cx ε κ cc nL RX2 d) {a : Nat} {fs : List Value} {v : Value} (ha : a < NP) (e : h a = .inr (2, fs)) (hv : fs[1]? = some v) (hd : decode cc pc = .ok (.getfield 18, 3)) (kk : G ε κ k n (pc + 3) lv (v :: st) h) : G ε κ k n pc lv (.ref (ad ε a) :: st) h := g_get C 1 F_X2 (by decide) fl_X2_18 rfl ha e hv hd kk
theorem gp_X2_18 (C : Cx ε κ cc nL RX2 d) {a : Nat} {fs : List Value} {x : Int32} (fs' : List Value) (ha : a < NP) (e : h a = .inr (2, fs)) (hjl : 1 < fs.length) (hfs : fs.set 1 (.int x) = fs') (hd : decode cc pc = .ok (.putfield 18, 3)) (kk : ∀ h1 : Hp, h1 = va_up h a (.inr (2, fs')) → G ε κ k n (pc + 3) lv st h1) : G ε κ k n pc lv (.int x :: .ref (ad ε a) :: st) h := g_put C 1 F_X2 (by decide) fl_X2_18 rfl ha e rfl rfl rfl hjl hfs hd kk
theorem gf_X2_42 (C : Cx ε κ cc nL RX2 d) {a : Nat} {fs : List Value} {v : Value} (ha : a < NP) (e : h a = .inr (2, fs)) (hv : fs[4]? = some v) (hd : decode cc pc = .ok (.getfield 42, 3)) (kk : G ε κ k n (pc + 3) lv (v :: st) h) : G ε κ k n pc lv (.ref (ad ε a) :: st) h := g_get C 4 F_X2 (by decide) fl_X2_42 rfl ha e hv hd kk
theorem gp_X2_42 (C : Cx ε κ cc nL RX2 d) {a : Nat} {fs : List Value} {x : Int32} (fs' : List Value) (ha : a < NP) (e : h a = .inr (2, fs)) (hjl : 4 < fs.length) (hfs : fs.set 4 (.int x) = fs') (hd : decode cc pc = .ok (.putfield 42, 3)) (kk : ∀ h1 : Hp, h1 = va_up h a (.inr (2, fs')) → G ε κ k n (pc + 3) lv st h1) : G ε κ k n pc lv (.int x :: .ref (ad ε a) :: st) h := g_put C 4 F_X2 (by decide) fl_X2_42 rfl ha e rfl rfl rfl hjl hfs hd kk
theorem gf_X2_49 (C : Cx ε κ cc nL RX2 d) {a : Nat} {fs : List Value} {v : Value} (ha : a < NP) (e : h a = .inr (2, fs)) (hv : fs[2]? = some v) (hd : decode cc pc = .ok (.getfield 49, 3)) (kk : G ε κ k n (pc + 3) lv (v :: st) h) : G ε κ k n pc lv (.ref (ad ε a) :: st) h := g_get C 2 F_X2 (by decide) fl_X2_49 rfl ha e hv hd kk
theorem gp_X2_49 (C : Cx ε κ cc nL RX2 d) {a : Nat} {fs : List Value} {x : Int32} (fs' : List Value) (ha : a < NP) (e : h a = .inr (2, fs)) (hjl : 2 < fs.length) (hfs : fs.set 2 (.int x) = fs') (hd : decode cc pc = .ok (.putfield 49, 3)) (kk : ∀ h1 : Hp, h1 = va_up h a (.inr (2, fs')) → G ε κ k n (pc + 3) lv st h1) : G ε κ k n pc lv (.int x :: .ref (ad ε a) :: st) h := g_put C 2 F_X2 (by decide) fl_X2_49 rfl ha e rfl rfl rfl hjl hfs hd kk
theorem gf_X2_58 (C : Cx ε κ cc nL RX2 d) {a : Nat} {fs : List Value} {v : Value} (ha : a < NP) (e : h a = .inr (2, fs)) (hv : fs[3]? = some v) (hd : decode cc pc = .ok (.getfield 58, 3)) (kk : G ε κ k n (pc + 3) lv (v :: st) h) : G ε κ k n pc lv (.ref (ad ε a) :: st) h := g_get C 3 F_X2 (by decide) fl_X2_58 rfl ha e hv hd kk
theorem gp_X2_58 (C : Cx ε κ cc nL RX2 d) {a : Nat} {fs : List Value} {x : Int32} (fs' : List Value) (ha : a < NP) (e : h a = .inr (2, fs)) (hjl : 3 < fs.length) (hfs : fs.set 3 (.int x) = fs') (hd : decode cc pc = .ok (.putfield 58, 3)) (kk : ∀ h1 : Hp, h1 = va_up h a (.inr (2, fs')) → G ε κ k n (pc + 3) lv st h1) : G ε κ k n pc lv (.int x :: .ref (ad ε a) :: st) h := g_put C 3 F_X2 (by decide) fl_X2_58 rfl ha e rfl rfl rfl hjl hfs hd kk
theorem gf_X3_14 (C : Cx ε κ cc nL RX3 d) {a : Nat} {fs : List Value} {v : Value} (ha : a < NP) (e : h a = .inr (3, fs)) (hv : fs[0]? = some v) (hd : decode cc pc = .ok (.getfield 14, 3)) (kk : G ε κ k n (pc + 3) lv (v :: st) h) : G ε κ k n pc lv (.ref (ad ε a) :: st) h := g_get C 0 F_X3 (by decide) fl_X3_14 rfl ha e hv hd kk
theorem gf_X3_20 (C : Cx ε κ cc nL RX3 d) {a : Nat} {fs : List Value} {v : Value} (ha : a < NP) (e : h a = .inr (3, fs)) (hv : fs[1]? = some v) (hd : decode cc pc = .ok (.getfield 20, 3)) (kk : G ε κ k n (pc + 3) lv (v :: st) h) : G ε κ k n pc lv (.ref (ad ε a) :: st) h := g_get C 1 F_X3 (by decide) fl_X3_20 rfl ha e hv hd kk
theorem gf_X3_24 (C : Cx ε κ cc nL RX3 d) {a : Nat} {fs : List Value} {v : Value} (ha : a < NP) (e : h a = .inr (3, fs)) (hv : fs[2]? = some v) (hd : decode cc pc = .ok (.getfield 24, 3)) (kk : G ε κ k n (pc + 3) lv (v :: st) h) : G ε κ k n pc lv (.ref (ad ε a) :: st) h := g_get C 2 F_X3 (by decide) fl_X3_24 rfl ha e hv hd kk
theorem gf_X3_27 (C : Cx ε κ cc nL RX3 d) {a : Nat} {fs : List Value} {v : Value} (ha : a < NP) (e : h a = .inr (3, fs)) (hv : fs[3]? = some v) (hd : decode cc pc = .ok (.getfield 27, 3)) (kk : G ε κ k n (pc + 3) lv (v :: st) h) : G ε κ k n pc lv (.ref (ad ε a) :: st) h := g_get C 3 F_X3 (by decide) fl_X3_27 rfl ha e hv hd kk
theorem gf_X3_33 (C : Cx ε κ cc nL RX3 d) {a : Nat} {fs : List Value} {v : Value} (ha : a < NP) (e : h a = .inr (3, fs)) (hv : fs[4]? = some v) (hd : decode cc pc = .ok (.getfield 33, 3)) (kk : G ε κ k n (pc + 3) lv (v :: st) h) : G ε κ k n pc lv (.ref (ad ε a) :: st) h := g_get C 4 F_X3 (by decide) fl_X3_33 rfl ha e hv hd kk
theorem gp_X3_33 (C : Cx ε κ cc nL RX3 d) {a : Nat} {fs : List Value} {x : Int32} (fs' : List Value) (ha : a < NP) (e : h a = .inr (3, fs)) (hjl : 4 < fs.length) (hfs : fs.set 4 (.int x) = fs') (hd : decode cc pc = .ok (.putfield 33, 3)) (kk : ∀ h1 : Hp, h1 = va_up h a (.inr (3, fs')) → G ε κ k n (pc + 3) lv st h1) : G ε κ k n pc lv (.int x :: .ref (ad ε a) :: st) h := g_put C 4 F_X3 (by decide) fl_X3_33 rfl ha e rfl rfl rfl hjl hfs hd kk
theorem gf_X3_37 (C : Cx ε κ cc nL RX3 d) {a : Nat} {fs : List Value} {v : Value} (ha : a < NP) (e : h a = .inr (3, fs)) (hv : fs[5]? = some v) (hd : decode cc pc = .ok (.getfield 37, 3)) (kk : G ε κ k n (pc + 3) lv (v :: st) h) : G ε κ k n pc lv (.ref (ad ε a) :: st) h := g_get C 5 F_X3 (by decide) fl_X3_37 rfl ha e hv hd kk
theorem gp_X3_37 (C : Cx ε κ cc nL RX3 d) {a : Nat} {fs : List Value} {x : Int32} (hz : x = 0 ∨ x = 1) (fs' : List Value) (ha : a < NP) (e : h a = .inr (3, fs)) (hjl : 5 < fs.length) (hfs : fs.set 5 (.int x) = fs') (hd : decode cc pc = .ok (.putfield 37, 3)) (kk : ∀ h1 : Hp, h1 = va_up h a (.inr (3, fs')) → G ε κ k n (pc + 3) lv st h1) : G ε κ k n pc lv (.int x :: .ref (ad ε a) :: st) h := g_put C 5 F_X3 (by decide) fl_X3_37 rfl ha e rfl (by rcases hz with rfl | rfl <;> rfl) (by rcases hz with rfl | rfl <;> rfl) hjl hfs hd kk
theorem gf_X4_15 (C : Cx ε κ cc nL RX4 d) {a : Nat} {fs : List Value} {v : Value} (ha : a < NP) (e : h a = .inr (4, fs)) (hv : fs[0]? = some v) (hd : decode cc pc = .ok (.getfield 15, 3)) (kk : G ε κ k n (pc + 3) lv (v :: st) h) : G ε κ k n pc lv (.ref (ad ε a) :: st) h := g_get C 0 F_X4 (by decide) fl_X4_15 rfl ha e hv hd kk
theorem gf_X4_21 (C : Cx ε κ cc nL RX4 d) {a : Nat} {fs : List Value} {v : Value} (ha : a < NP) (e : h a = .inr (4, fs)) (hv : fs[1]? = some v) (hd : decode cc pc = .ok (.getfield 21, 3)) (kk : G ε κ k n (pc + 3) lv (v :: st) h) : G ε κ k n pc lv (.ref (ad ε a) :: st) h := g_get C 1 F_X4 (by decide) fl_X4_21 rfl ha e hv hd kk
theorem gp_X4_21 (C : Cx ε κ cc nL RX4 d) {a : Nat} {fs : List Value} {x : Int32} (fs' : List Value) (ha : a < NP) (e : h a = .inr (4, fs)) (hjl : 1 < fs.length) (hfs : fs.set 1 (.int x) = fs') (hd : decode cc pc = .ok (.putfield 21, 3)) (kk : ∀ h1 : Hp, h1 = va_up h a (.inr (4, fs')) → G ε κ k n (pc + 3) lv st h1) : G ε κ k n pc lv (.int x :: .ref (ad ε a) :: st) h := g_put C 1 F_X4 (by decide) fl_X4_21 rfl ha e rfl rfl rfl hjl hfs hd kk
theorem gf_X5_9 (C : Cx ε κ cc nL RX5 d) {a : Nat} {fs : List Value} {v : Value} (ha : a < NP) (e : h a = .inr (5, fs)) (hv : fs[0]? = some v) (hd : decode cc pc = .ok (.getfield 9, 3)) (kk : G ε κ k n (pc + 3) lv (v :: st) h) : G ε κ k n pc lv (.ref (ad ε a) :: st) h := g_get C 0 F_X5 (by decide) fl_X5_9 rfl ha e hv hd kk
theorem gf_X5_15 (C : Cx ε κ cc nL RX5 d) {a : Nat} {fs : List Value} {v : Value} (ha : a < NP) (e : h a = .inr (5, fs)) (hv : fs[1]? = some v) (hd : decode cc pc = .ok (.getfield 15, 3)) (kk : G ε κ k n (pc + 3) lv (v :: st) h) : G ε κ k n pc lv (.ref (ad ε a) :: st) h := g_get C 1 F_X5 (by decide) fl_X5_15 rfl ha e hv hd kk
theorem gf_X5_18 (C : Cx ε κ cc nL RX5 d) {a : Nat} {fs : List Value} {v : Value} (ha : a < NP) (e : h a = .inr (5, fs)) (hv : fs[2]? = some v) (hd : decode cc pc = .ok (.getfield 18, 3)) (kk : G ε κ k n (pc + 3) lv (v :: st) h) : G ε κ k n pc lv (.ref (ad ε a) :: st) h := g_get C 2 F_X5 (by decide) fl_X5_18 rfl ha e hv hd kk
theorem gf_X5_21 (C : Cx ε κ cc nL RX5 d) {a : Nat} {fs : List Value} {v : Value} (ha : a < NP) (e : h a = .inr (5, fs)) (hv : fs[3]? = some v) (hd : decode cc pc = .ok (.getfield 21, 3)) (kk : G ε κ k n (pc + 3) lv (v :: st) h) : G ε κ k n pc lv (.ref (ad ε a) :: st) h := g_get C 3 F_X5 (by decide) fl_X5_21 rfl ha e hv hd kk
theorem gf_X5_24 (C : Cx ε κ cc nL RX5 d) {a : Nat} {fs : List Value} {v : Value} (ha : a < NP) (e : h a = .inr (5, fs)) (hv : fs[4]? = some v) (hd : decode cc pc = .ok (.getfield 24, 3)) (kk : G ε κ k n (pc + 3) lv (v :: st) h) : G ε κ k n pc lv (.ref (ad ε a) :: st) h := g_get C 4 F_X5 (by decide) fl_X5_24 rfl ha e hv hd kk
theorem gf_X5_31 (C : Cx ε κ cc nL RX5 d) {a : Nat} {fs : List Value} {v : Value} (ha : a < NP) (e : h a = .inr (5, fs)) (hv : fs[5]? = some v) (hd : decode cc pc = .ok (.getfield 31, 3)) (kk : G ε κ k n (pc + 3) lv (v :: st) h) : G ε κ k n pc lv (.ref (ad ε a) :: st) h := g_get C 5 F_X5 (by decide) fl_X5_31 rfl ha e hv hd kk
theorem gf_X5_35 (C : Cx ε κ cc nL RX5 d) {a : Nat} {fs : List Value} {v : Value} (ha : a < NP) (e : h a = .inr (5, fs)) (hv : fs[6]? = some v) (hd : decode cc pc = .ok (.getfield 35, 3)) (kk : G ε κ k n (pc + 3) lv (v :: st) h) : G ε κ k n pc lv (.ref (ad ε a) :: st) h := g_get C 6 F_X5 (by decide) fl_X5_35 rfl ha e hv hd kk
theorem gp_X5_35 (C : Cx ε κ cc nL RX5 d) {a : Nat} {fs : List Value} {x : Int32} (hz : x = 0 ∨ x = 1) (fs' : List Value) (ha : a < NP) (e : h a = .inr (5, fs)) (hjl : 6 < fs.length) (hfs : fs.set 6 (.int x) = fs') (hd : decode cc pc = .ok (.putfield 35, 3)) (kk : ∀ h1 : Hp, h1 = va_up h a (.inr (5, fs')) → G ε κ k n (pc + 3) lv st h1) : G ε κ k n pc lv (.int x :: .ref (ad ε a) :: st) h := g_put C 6 F_X5 (by decide) fl_X5_35 rfl ha e rfl (by rcases hz with rfl | rfl <;> rfl) (by rcases hz with rfl | rfl <;> rfl) hjl hfs hd kk
theorem gf_X5_39 (C : Cx ε κ cc nL RX5 d) {a : Nat} {fs : List Value} {v : Value} (ha : a < NP) (e : h a = .inr (5, fs)) (hv : fs[8]? = some v) (hd : decode cc pc = .ok (.getfield 39, 3)) (kk : G ε κ k n (pc + 3) lv (v :: st) h) : G ε κ k n pc lv (.ref (ad ε a) :: st) h := g_get C 8 F_X5 (by decide) fl_X5_39 rfl ha e hv hd kk
theorem gp_X5_39 (C : Cx ε κ cc nL RX5 d) {a : Nat} {fs : List Value} {x : Int32} (fs' : List Value) (ha : a < NP) (e : h a = .inr (5, fs)) (hjl : 8 < fs.length) (hfs : fs.set 8 (.int x) = fs') (hd : decode cc pc = .ok (.putfield 39, 3)) (kk : ∀ h1 : Hp, h1 = va_up h a (.inr (5, fs')) → G ε κ k n (pc + 3) lv st h1) : G ε κ k n pc lv (.int x :: .ref (ad ε a) :: st) h := g_put C 8 F_X5 (by decide) fl_X5_39 rfl ha e rfl rfl rfl hjl hfs hd kk
theorem gf_X5_43 (C : Cx ε κ cc nL RX5 d) {a : Nat} {fs : List Value} {v : Value} (ha : a < NP) (e : h a = .inr (5, fs)) (hv : fs[7]? = some v) (hd : decode cc pc = .ok (.getfield 43, 3)) (kk : G ε κ k n (pc + 3) lv (v :: st) h) : G ε κ k n pc lv (.ref (ad ε a) :: st) h := g_get C 7 F_X5 (by decide) fl_X5_43 rfl ha e hv hd kk
theorem gp_X5_43 (C : Cx ε κ cc nL RX5 d) {a : Nat} {fs : List Value} {x : Int32} (fs' : List Value) (ha : a < NP) (e : h a = .inr (5, fs)) (hjl : 7 < fs.length) (hfs : fs.set 7 (.int x) = fs') (hd : decode cc pc = .ok (.putfield 43, 3)) (kk : ∀ h1 : Hp, h1 = va_up h a (.inr (5, fs')) → G ε κ k n (pc + 3) lv st h1) : G ε κ k n pc lv (.int x :: .ref (ad ε a) :: st) h := g_put C 7 F_X5 (by decide) fl_X5_43 rfl ha e rfl rfl rfl hjl hfs hd kk
theorem gf_X6_14 (C : Cx ε κ cc nL RX6 d) {a : Nat} {fs : List Value} {v : Value} (ha : a < NP) (e : h a = .inr (6, fs)) (hv : fs[0]? = some v) (hd : decode cc pc = .ok (.getfield 14, 3)) (kk : G ε κ k n (pc + 3) lv (v :: st) h) : G ε κ k n pc lv (.ref (ad ε a) :: st) h := g_get C 0 F_X6 (by decide) fl_X6_14 rfl ha e hv hd kk
theorem gf_X6_20 (C : Cx ε κ cc nL RX6 d) {a : Nat} {fs : List Value} {v : Value} (ha : a < NP) (e : h a = .inr (6, fs)) (hv : fs[3]? = some v) (hd : decode cc pc = .ok (.getfield 20, 3)) (kk : G ε κ k n (pc + 3) lv (v :: st) h) : G ε κ k n pc lv (.ref (ad ε a) :: st) h := g_get C 3 F_X6 (by decide) fl_X6_20 rfl ha e hv hd kk
theorem gp_X6_20 (C : Cx ε κ cc nL RX6 d) {a : Nat} {fs : List Value} {x : Int32} (fs' : List Value) (ha : a < NP) (e : h a = .inr (6, fs)) (hjl : 3 < fs.length) (hfs : fs.set 3 (.int x) = fs') (hd : decode cc pc = .ok (.putfield 20, 3)) (kk : ∀ h1 : Hp, h1 = va_up h a (.inr (6, fs')) → G ε κ k n (pc + 3) lv st h1) : G ε κ k n pc lv (.int x :: .ref (ad ε a) :: st) h := g_put C 3 F_X6 (by decide) fl_X6_20 rfl ha e rfl rfl rfl hjl hfs hd kk
theorem gf_X6_36 (C : Cx ε κ cc nL RX6 d) {a : Nat} {fs : List Value} {v : Value} (ha : a < NP) (e : h a = .inr (6, fs)) (hv : fs[1]? = some v) (hd : decode cc pc = .ok (.getfield 36, 3)) (kk : G ε κ k n (pc + 3) lv (v :: st) h) : G ε κ k n pc lv (.ref (ad ε a) :: st) h := g_get C 1 F_X6 (by decide) fl_X6_36 rfl ha e hv hd kk
theorem gp_X6_36 (C : Cx ε κ cc nL RX6 d) {a : Nat} {fs : List Value} {x : Int32} (fs' : List Value) (ha : a < NP) (e : h a = .inr (6, fs)) (hjl : 1 < fs.length) (hfs : fs.set 1 (.int x) = fs') (hd : decode cc pc = .ok (.putfield 36, 3)) (kk : ∀ h1 : Hp, h1 = va_up h a (.inr (6, fs')) → G ε κ k n (pc + 3) lv st h1) : G ε κ k n pc lv (.int x :: .ref (ad ε a) :: st) h := g_put C 1 F_X6 (by decide) fl_X6_36 rfl ha e rfl rfl rfl hjl hfs hd kk
theorem gf_X6_39 (C : Cx ε κ cc nL RX6 d) {a : Nat} {fs : List Value} {v : Value} (ha : a < NP) (e : h a = .inr (6, fs)) (hv : fs[2]? = some v) (hd : decode cc pc = .ok (.getfield 39, 3)) (kk : G ε κ k n (pc + 3) lv (v :: st) h) : G ε κ k n pc lv (.ref (ad ε a) :: st) h := g_get C 2 F_X6 (by decide) fl_X6_39 rfl ha e hv hd kk
theorem gp_X6_39 (C : Cx ε κ cc nL RX6 d) {a : Nat} {fs : List Value} {x : Int32} (fs' : List Value) (ha : a < NP) (e : h a = .inr (6, fs)) (hjl : 2 < fs.length) (hfs : fs.set 2 (.int x) = fs') (hd : decode cc pc = .ok (.putfield 39, 3)) (kk : ∀ h1 : Hp, h1 = va_up h a (.inr (6, fs')) → G ε κ k n (pc + 3) lv st h1) : G ε κ k n pc lv (.int x :: .ref (ad ε a) :: st) h := g_put C 2 F_X6 (by decide) fl_X6_39 rfl ha e rfl rfl rfl hjl hfs hd kk
theorem gf_X6_42 (C : Cx ε κ cc nL RX6 d) {a : Nat} {fs : List Value} {v : Value} (ha : a < NP) (e : h a = .inr (6, fs)) (hv : fs[4]? = some v) (hd : decode cc pc = .ok (.getfield 42, 3)) (kk : G ε κ k n (pc + 3) lv (v :: st) h) : G ε κ k n pc lv (.ref (ad ε a) :: st) h := g_get C 4 F_X6 (by decide) fl_X6_42 rfl ha e hv hd kk
theorem gp_X6_42 (C : Cx ε κ cc nL RX6 d) {a : Nat} {fs : List Value} {x : Int32} (fs' : List Value) (ha : a < NP) (e : h a = .inr (6, fs)) (hjl : 4 < fs.length) (hfs : fs.set 4 (.int x) = fs') (hd : decode cc pc = .ok (.putfield 42, 3)) (kk : ∀ h1 : Hp, h1 = va_up h a (.inr (6, fs')) → G ε κ k n (pc + 3) lv st h1) : G ε κ k n pc lv (.int x :: .ref (ad ε a) :: st) h := g_put C 4 F_X6 (by decide) fl_X6_42 rfl ha e rfl rfl rfl hjl hfs hd kk
theorem gf_X6_45 (C : Cx ε κ cc nL RX6 d) {a : Nat} {fs : List Value} {v : Value} (ha : a < NP) (e : h a = .inr (6, fs)) (hv : fs[5]? = some v) (hd : decode cc pc = .ok (.getfield 45, 3)) (kk : G ε κ k n (pc + 3) lv (v :: st) h) : G ε κ k n pc lv (.ref (ad ε a) :: st) h := g_get C 5 F_X6 (by decide) fl_X6_45 rfl ha e hv hd kk
theorem gp_X6_45 (C : Cx ε κ cc nL RX6 d) {a : Nat} {fs : List Value} {x : Int32} (fs' : List Value) (ha : a < NP) (e : h a = .inr (6, fs)) (hjl : 5 < fs.length) (hfs : fs.set 5 (.int x) = fs') (hd : decode cc pc = .ok (.putfield 45, 3)) (kk : ∀ h1 : Hp, h1 = va_up h a (.inr (6, fs')) → G ε κ k n (pc + 3) lv st h1) : G ε κ k n pc lv (.int x :: .ref (ad ε a) :: st) h := g_put C 5 F_X6 (by decide) fl_X6_45 rfl ha e rfl rfl rfl hjl hfs hd kk
theorem gf_X9_7 (C : Cx ε κ cc nL RX9 d) {a : Nat} {fs : List Value} {v : Value} (ha : a < NP) (e : h a = .inr (8, fs)) (hv : fs[0]? = some v) (hd : decode cc pc = .ok (.getfield 7, 3)) (kk : G ε κ k n (pc + 3) lv (v :: st) h) : G ε κ k n pc lv (.ref (ad ε a) :: st) h := g_get C 0 F_X9 (by decide) fl_X9_7 rfl ha e hv hd kk
theorem gf_X9_13 (C : Cx ε κ cc nL RX9 d) {a : Nat} {fs : List Value} {v : Value} (ha : a < NP) (e : h a = .inr (8, fs)) (hv : fs[2]? = some v) (hd : decode cc pc = .ok (.getfield 13, 3)) (kk : G ε κ k n (pc + 3) lv (v :: st) h) : G ε κ k n pc lv (.ref (ad ε a) :: st) h := g_get C 2 F_X9 (by decide) fl_X9_13 rfl ha e hv hd kk
theorem gp_X9_13 (C : Cx ε κ cc nL RX9 d) {a : Nat} {fs : List Value} {x : Int32} (fs' : List Value) (ha : a < NP) (e : h a = .inr (8, fs)) (hjl : 2 < fs.length) (hfs : fs.set 2 (.int x) = fs') (hd : decode cc pc = .ok (.putfield 13, 3)) (kk : ∀ h1 : Hp, h1 = va_up h a (.inr (8, fs')) → G ε κ k n (pc + 3) lv st h1) : G ε κ k n pc lv (.int x :: .ref (ad ε a) :: st) h := g_put C 2 F_X9 (by decide) fl_X9_13 rfl ha e rfl rfl rfl hjl hfs hd kk
theorem gf_X9_17 (C : Cx ε κ cc nL RX9 d) {a : Nat} {fs : List Value} {v : Value} (ha : a < NP) (e : h a = .inr (8, fs)) (hv : fs[4]? = some v) (hd : decode cc pc = .ok (.getfield 17, 3)) (kk : G ε κ k n (pc + 3) lv (v :: st) h) : G ε κ k n pc lv (.ref (ad ε a) :: st) h := g_get C 4 F_X9 (by decide) fl_X9_17 rfl ha e hv hd kk
theorem gf_X9_20 (C : Cx ε κ cc nL RX9 d) {a : Nat} {fs : List Value} {v : Value} (ha : a < NP) (e : h a = .inr (8, fs)) (hv : fs[5]? = some v) (hd : decode cc pc = .ok (.getfield 20, 3)) (kk : G ε κ k n (pc + 3) lv (v :: st) h) : G ε κ k n pc lv (.ref (ad ε a) :: st) h := g_get C 5 F_X9 (by decide) fl_X9_20 rfl ha e hv hd kk
theorem gf_X9_23 (C : Cx ε κ cc nL RX9 d) {a : Nat} {fs : List Value} {v : Value} (ha : a < NP) (e : h a = .inr (8, fs)) (hv : fs[6]? = some v) (hd : decode cc pc = .ok (.getfield 23, 3)) (kk : G ε κ k n (pc + 3) lv (v :: st) h) : G ε κ k n pc lv (.ref (ad ε a) :: st) h := g_get C 6 F_X9 (by decide) fl_X9_23 rfl ha e hv hd kk
theorem gf_X9_26 (C : Cx ε κ cc nL RX9 d) {a : Nat} {fs : List Value} {v : Value} (ha : a < NP) (e : h a = .inr (8, fs)) (hv : fs[7]? = some v) (hd : decode cc pc = .ok (.getfield 26, 3)) (kk : G ε κ k n (pc + 3) lv (v :: st) h) : G ε κ k n pc lv (.ref (ad ε a) :: st) h := g_get C 7 F_X9 (by decide) fl_X9_26 rfl ha e hv hd kk
theorem gf_X9_29 (C : Cx ε κ cc nL RX9 d) {a : Nat} {fs : List Value} {v : Value} (ha : a < NP) (e : h a = .inr (8, fs)) (hv : fs[8]? = some v) (hd : decode cc pc = .ok (.getfield 29, 3)) (kk : G ε κ k n (pc + 3) lv (v :: st) h) : G ε κ k n pc lv (.ref (ad ε a) :: st) h := g_get C 8 F_X9 (by decide) fl_X9_29 rfl ha e hv hd kk
theorem gf_X9_32 (C : Cx ε κ cc nL RX9 d) {a : Nat} {fs : List Value} {v : Value} (ha : a < NP) (e : h a = .inr (8, fs)) (hv : fs[11]? = some v) (hd : decode cc pc = .ok (.getfield 32, 3)) (kk : G ε κ k n (pc + 3) lv (v :: st) h) : G ε κ k n pc lv (.ref (ad ε a) :: st) h := g_get C 11 F_X9 (by decide) fl_X9_32 rfl ha e hv hd kk
theorem gf_X9_35 (C : Cx ε κ cc nL RX9 d) {a : Nat} {fs : List Value} {v : Value} (ha : a < NP) (e : h a = .inr (8, fs)) (hv : fs[14]? = some v) (hd : decode cc pc = .ok (.getfield 35, 3)) (kk : G ε κ k n (pc + 3) lv (v :: st) h) : G ε κ k n pc lv (.ref (ad ε a) :: st) h := g_get C 14 F_X9 (by decide) fl_X9_35 rfl ha e hv hd kk
theorem gf_X9_38 (C : Cx ε κ cc nL RX9 d) {a : Nat} {fs : List Value} {v : Value} (ha : a < NP) (e : h a = .inr (8, fs)) (hv : fs[18]? = some v) (hd : decode cc pc = .ok (.getfield 38, 3)) (kk : G ε κ k n (pc + 3) lv (v :: st) h) : G ε κ k n pc lv (.ref (ad ε a) :: st) h := g_get C 18 F_X9 (by decide) fl_X9_38 rfl ha e hv hd kk
theorem gp_X9_38 (C : Cx ε κ cc nL RX9 d) {a : Nat} {fs : List Value} {x : Int32} (fs' : List Value) (ha : a < NP) (e : h a = .inr (8, fs)) (hjl : 18 < fs.length) (hfs : fs.set 18 (.int x) = fs') (hd : decode cc pc = .ok (.putfield 38, 3)) (kk : ∀ h1 : Hp, h1 = va_up h a (.inr (8, fs')) → G ε κ k n (pc + 3) lv st h1) : G ε κ k n pc lv (.int x :: .ref (ad ε a) :: st) h := g_put C 18 F_X9 (by decide) fl_X9_38 rfl ha e rfl rfl rfl hjl hfs hd kk
theorem gf_X9_41 (C : Cx ε κ cc nL RX9 d) {a : Nat} {fs : List Value} {v : Value} (ha : a < NP) (e : h a = .inr (8, fs)) (hv : fs[22]? = some v) (hd : decode cc pc = .ok (.getfield 41, 3)) (kk : G ε κ k n (pc + 3) lv (v :: st) h) : G ε κ k n pc lv (.ref (ad ε a) :: st) h := g_get C 22 F_X9 (by decide) fl_X9_41 rfl ha e hv hd kk
theorem gf_X9_44 (C : Cx ε κ cc nL RX9 d) {a : Nat} {fs : List Value} {v : Value} (ha : a < NP) (e : h a = .inr (8, fs)) (hv : fs[23]? = some v) (hd : decode cc pc = .ok (.getfield 44, 3)) (kk : G ε κ k n (pc + 3) lv (v :: st) h) : G ε κ k n pc lv (.ref (ad ε a) :: st) h := g_get C 23 F_X9 (by decide) fl_X9_44 rfl ha e hv hd kk
theorem gf_X9_47 (C : Cx ε κ cc nL RX9 d) {a : Nat} {fs : List Value} {v : Value} (ha : a < NP) (e : h a = .inr (8, fs)) (hv : fs[24]? = some v) (hd : decode cc pc = .ok (.getfield 47, 3)) (kk : G ε κ k n (pc + 3) lv (v :: st) h) : G ε κ k n pc lv (.ref (ad ε a) :: st) h := g_get C 24 F_X9 (by decide) fl_X9_47 rfl ha e hv hd kk
theorem gf_X9_50 (C : Cx ε κ cc nL RX9 d) {a : Nat} {fs : List Value} {v : Value} (ha : a < NP) (e : h a = .inr (8, fs)) (hv : fs[25]? = some v) (hd : decode cc pc = .ok (.getfield 50, 3)) (kk : G ε κ k n (pc + 3) lv (v :: st) h) : G ε κ k n pc lv (.ref (ad ε a) :: st) h := g_get C 25 F_X9 (by decide) fl_X9_50 rfl ha e hv hd kk
theorem gf_X9_54 (C : Cx ε κ cc nL RX9 d) {a : Nat} {fs : List Value} {v : Value} (ha : a < NP) (e : h a = .inr (8, fs)) (hv : fs[26]? = some v) (hd : decode cc pc = .ok (.getfield 54, 3)) (kk : G ε κ k n (pc + 3) lv (v :: st) h) : G ε κ k n pc lv (.ref (ad ε a) :: st) h := g_get C 26 F_X9 (by decide) fl_X9_54 rfl ha e hv hd kk
theorem gf_X9_57 (C : Cx ε κ cc nL RX9 d) {a : Nat} {fs : List Value} {v : Value} (ha : a < NP) (e : h a = .inr (8, fs)) (hv : fs[27]? = some v) (hd : decode cc pc = .ok (.getfield 57, 3)) (kk : G ε κ k n (pc + 3) lv (v :: st) h) : G ε κ k n pc lv (.ref (ad ε a) :: st) h := g_get C 27 F_X9 (by decide) fl_X9_57 rfl ha e hv hd kk
theorem gf_X9_60 (C : Cx ε κ cc nL RX9 d) {a : Nat} {fs : List Value} {v : Value} (ha : a < NP) (e : h a = .inr (8, fs)) (hv : fs[28]? = some v) (hd : decode cc pc = .ok (.getfield 60, 3)) (kk : G ε κ k n (pc + 3) lv (v :: st) h) : G ε κ k n pc lv (.ref (ad ε a) :: st) h := g_get C 28 F_X9 (by decide) fl_X9_60 rfl ha e hv hd kk
theorem gf_X9_63 (C : Cx ε κ cc nL RX9 d) {a : Nat} {fs : List Value} {v : Value} (ha : a < NP) (e : h a = .inr (8, fs)) (hv : fs[9]? = some v) (hd : decode cc pc = .ok (.getfield 63, 3)) (kk : G ε κ k n (pc + 3) lv (v :: st) h) : G ε κ k n pc lv (.ref (ad ε a) :: st) h := g_get C 9 F_X9 (by decide) fl_X9_63 rfl ha e hv hd kk
theorem gp_X9_63 (C : Cx ε κ cc nL RX9 d) {a : Nat} {fs : List Value} {x : Int32} (fs' : List Value) (ha : a < NP) (e : h a = .inr (8, fs)) (hjl : 9 < fs.length) (hfs : fs.set 9 (.int x) = fs') (hd : decode cc pc = .ok (.putfield 63, 3)) (kk : ∀ h1 : Hp, h1 = va_up h a (.inr (8, fs')) → G ε κ k n (pc + 3) lv st h1) : G ε κ k n pc lv (.int x :: .ref (ad ε a) :: st) h := g_put C 9 F_X9 (by decide) fl_X9_63 rfl ha e rfl rfl rfl hjl hfs hd kk
theorem gf_X9_66 (C : Cx ε κ cc nL RX9 d) {a : Nat} {fs : List Value} {v : Value} (ha : a < NP) (e : h a = .inr (8, fs)) (hv : fs[3]? = some v) (hd : decode cc pc = .ok (.getfield 66, 3)) (kk : G ε κ k n (pc + 3) lv (v :: st) h) : G ε κ k n pc lv (.ref (ad ε a) :: st) h := g_get C 3 F_X9 (by decide) fl_X9_66 rfl ha e hv hd kk
theorem gp_X9_66 (C : Cx ε κ cc nL RX9 d) {a : Nat} {fs : List Value} {x : Int32} (fs' : List Value) (ha : a < NP) (e : h a = .inr (8, fs)) (hjl : 3 < fs.length) (hfs : fs.set 3 (.int x) = fs') (hd : decode cc pc = .ok (.putfield 66, 3)) (kk : ∀ h1 : Hp, h1 = va_up h a (.inr (8, fs')) → G ε κ k n (pc + 3) lv st h1) : G ε κ k n pc lv (.int x :: .ref (ad ε a) :: st) h := g_put C 3 F_X9 (by decide) fl_X9_66 rfl ha e rfl rfl rfl hjl hfs hd kk
theorem gf_X9_69 (C : Cx ε κ cc nL RX9 d) {a : Nat} {fs : List Value} {v : Value} (ha : a < NP) (e : h a = .inr (8, fs)) (hv : fs[1]? = some v) (hd : decode cc pc = .ok (.getfield 69, 3)) (kk : G ε κ k n (pc + 3) lv (v :: st) h) : G ε κ k n pc lv (.ref (ad ε a) :: st) h := g_get C 1 F_X9 (by decide) fl_X9_69 rfl ha e hv hd kk
theorem gp_X9_69 (C : Cx ε κ cc nL RX9 d) {a : Nat} {fs : List Value} {x : Int32} (fs' : List Value) (ha : a < NP) (e : h a = .inr (8, fs)) (hjl : 1 < fs.length) (hfs : fs.set 1 (.int x) = fs') (hd : decode cc pc = .ok (.putfield 69, 3)) (kk : ∀ h1 : Hp, h1 = va_up h a (.inr (8, fs')) → G ε κ k n (pc + 3) lv st h1) : G ε κ k n pc lv (.int x :: .ref (ad ε a) :: st) h := g_put C 1 F_X9 (by decide) fl_X9_69 rfl ha e rfl rfl rfl hjl hfs hd kk
theorem gf_X9_74 (C : Cx ε κ cc nL RX9 d) {a : Nat} {fs : List Value} {v : Value} (ha : a < NP) (e : h a = .inr (8, fs)) (hv : fs[32]? = some v) (hd : decode cc pc = .ok (.getfield 74, 3)) (kk : G ε κ k n (pc + 3) lv (v :: st) h) : G ε κ k n pc lv (.ref (ad ε a) :: st) h := g_get C 32 F_X9 (by decide) fl_X9_74 rfl ha e hv hd kk
theorem gp_X9_74 (C : Cx ε κ cc nL RX9 d) {a : Nat} {fs : List Value} {x : Int32} (fs' : List Value) (ha : a < NP) (e : h a = .inr (8, fs)) (hjl : 32 < fs.length) (hfs : fs.set 32 (.int x) = fs') (hd : decode cc pc = .ok (.putfield 74, 3)) (kk : ∀ h1 : Hp, h1 = va_up h a (.inr (8, fs')) → G ε κ k n (pc + 3) lv st h1) : G ε κ k n pc lv (.int x :: .ref (ad ε a) :: st) h := g_put C 32 F_X9 (by decide) fl_X9_74 rfl ha e rfl rfl rfl hjl hfs hd kk
theorem gf_X9_77 (C : Cx ε κ cc nL RX9 d) {a : Nat} {fs : List Value} {v : Value} (ha : a < NP) (e : h a = .inr (8, fs)) (hv : fs[31]? = some v) (hd : decode cc pc = .ok (.getfield 77, 3)) (kk : G ε κ k n (pc + 3) lv (v :: st) h) : G ε κ k n pc lv (.ref (ad ε a) :: st) h := g_get C 31 F_X9 (by decide) fl_X9_77 rfl ha e hv hd kk
theorem gp_X9_77 (C : Cx ε κ cc nL RX9 d) {a : Nat} {fs : List Value} {x : Int32} (fs' : List Value) (ha : a < NP) (e : h a = .inr (8, fs)) (hjl : 31 < fs.length) (hfs : fs.set 31 (.int x) = fs') (hd : decode cc pc = .ok (.putfield 77, 3)) (kk : ∀ h1 : Hp, h1 = va_up h a (.inr (8, fs')) → G ε κ k n (pc + 3) lv st h1) : G ε κ k n pc lv (.int x :: .ref (ad ε a) :: st) h := g_put C 31 F_X9 (by decide) fl_X9_77 rfl ha e rfl rfl rfl hjl hfs hd kk
theorem gf_X9_88 (C : Cx ε κ cc nL RX9 d) {a : Nat} {fs : List Value} {v : Value} (ha : a < NP) (e : h a = .inr (8, fs)) (hv : fs[10]? = some v) (hd : decode cc pc = .ok (.getfield 88, 3)) (kk : G ε κ k n (pc + 3) lv (v :: st) h) : G ε κ k n pc lv (.ref (ad ε a) :: st) h := g_get C 10 F_X9 (by decide) fl_X9_88 rfl ha e hv hd kk
theorem gp_X9_88 (C : Cx ε κ cc nL RX9 d) {a : Nat} {fs : List Value} {x : Int32} (fs' : List Value) (ha : a < NP) (e : h a = .inr (8, fs)) (hjl : 10 < fs.length) (hfs : fs.set 10 (.int x) = fs') (hd : decode cc pc = .ok (.putfield 88, 3)) (kk : ∀ h1 : Hp, h1 = va_up h a (.inr (8, fs')) → G ε κ k n (pc + 3) lv st h1) : G ε κ k n pc lv (.int x :: .ref (ad ε a) :: st) h := g_put C 10 F_X9 (by decide) fl_X9_88 rfl ha e rfl rfl rfl hjl hfs hd kk
theorem gf_X9_114 (C : Cx ε κ cc nL RX9 d) {a : Nat} {fs : List Value} {v : Value} (ha : a < NP) (e : h a = .inr (8, fs)) (hv : fs[19]? = some v) (hd : decode cc pc = .ok (.getfield 114, 3)) (kk : G ε κ k n (pc + 3) lv (v :: st) h) : G ε κ k n pc lv (.ref (ad ε a) :: st) h := g_get C 19 F_X9 (by decide) fl_X9_114 rfl ha e hv hd kk
theorem gp_X9_114 (C : Cx ε κ cc nL RX9 d) {a : Nat} {fs : List Value} {x : Int32} (hz : x = 0 ∨ x = 1) (fs' : List Value) (ha : a < NP) (e : h a = .inr (8, fs)) (hjl : 19 < fs.length) (hfs : fs.set 19 (.int x) = fs') (hd : decode cc pc = .ok (.putfield 114, 3)) (kk : ∀ h1 : Hp, h1 = va_up h a (.inr (8, fs')) → G ε κ k n (pc + 3) lv st h1) : G ε κ k n pc lv (.int x :: .ref (ad ε a) :: st) h := g_put C 19 F_X9 (by decide) fl_X9_114 rfl ha e rfl (by rcases hz with rfl | rfl <;> rfl) (by rcases hz with rfl | rfl <;> rfl) hjl hfs hd kk
theorem gf_X9_118 (C : Cx ε κ cc nL RX9 d) {a : Nat} {fs : List Value} {v : Value} (ha : a < NP) (e : h a = .inr (8, fs)) (hv : fs[12]? = some v) (hd : decode cc pc = .ok (.getfield 118, 3)) (kk : G ε κ k n (pc + 3) lv (v :: st) h) : G ε κ k n pc lv (.ref (ad ε a) :: st) h := g_get C 12 F_X9 (by decide) fl_X9_118 rfl ha e hv hd kk
theorem gp_X9_118 (C : Cx ε κ cc nL RX9 d) {a : Nat} {fs : List Value} {x : Int32} (fs' : List Value) (ha : a < NP) (e : h a = .inr (8, fs)) (hjl : 12 < fs.length) (hfs : fs.set 12 (.int x) = fs') (hd : decode cc pc = .ok (.putfield 118, 3)) (kk : ∀ h1 : Hp, h1 = va_up h a (.inr (8, fs')) → G ε κ k n (pc + 3) lv st h1) : G ε κ k n pc lv (.int x :: .ref (ad ε a) :: st) h := g_put C 12 F_X9 (by decide) fl_X9_118 rfl ha e rfl rfl rfl hjl hfs hd kk
theorem gf_X9_121 (C : Cx ε κ cc nL RX9 d) {a : Nat} {fs : List Value} {v : Value} (ha : a < NP) (e : h a = .inr (8, fs)) (hv : fs[13]? = some v) (hd : decode cc pc = .ok (.getfield 121, 3)) (kk : G ε κ k n (pc + 3) lv (v :: st) h) : G ε κ k n pc lv (.ref (ad ε a) :: st) h := g_get C 13 F_X9 (by decide) fl_X9_121 rfl ha e hv hd kk
theorem gp_X9_121 (C : Cx ε κ cc nL RX9 d) {a : Nat} {fs : List Value} {x : Int32} (fs' : List Value) (ha : a < NP) (e : h a = .inr (8, fs)) (hjl : 13 < fs.length) (hfs : fs.set 13 (.int x) = fs') (hd : decode cc pc = .ok (.putfield 121, 3)) (kk : ∀ h1 : Hp, h1 = va_up h a (.inr (8, fs')) → G ε κ k n (pc + 3) lv st h1) : G ε κ k n pc lv (.int x :: .ref (ad ε a) :: st) h := g_put C 13 F_X9 (by decide) fl_X9_121 rfl ha e rfl rfl rfl hjl hfs hd kk
theorem gf_X9_131 (C : Cx ε κ cc nL RX9 d) {a : Nat} {fs : List Value} {v : Value} (ha : a < NP) (e : h a = .inr (8, fs)) (hv : fs[15]? = some v) (hd : decode cc pc = .ok (.getfield 131, 3)) (kk : G ε κ k n (pc + 3) lv (v :: st) h) : G ε κ k n pc lv (.ref (ad ε a) :: st) h := g_get C 15 F_X9 (by decide) fl_X9_131 rfl ha e hv hd kk
theorem gp_X9_131 (C : Cx ε κ cc nL RX9 d) {a : Nat} {fs : List Value} {x : Int32} (fs' : List Value) (ha : a < NP) (e : h a = .inr (8, fs)) (hjl : 15 < fs.length) (hfs : fs.set 15 (.int x) = fs') (hd : decode cc pc = .ok (.putfield 131, 3)) (kk : ∀ h1 : Hp, h1 = va_up h a (.inr (8, fs')) → G ε κ k n (pc + 3) lv st h1) : G ε κ k n pc lv (.int x :: .ref (ad ε a) :: st) h := g_put C 15 F_X9 (by decide) fl_X9_131 rfl ha e rfl rfl rfl hjl hfs hd kk
theorem gf_X9_134 (C : Cx ε κ cc nL RX9 d) {a : Nat} {fs : List Value} {v : Value} (ha : a < NP) (e : h a = .inr (8, fs)) (hv : fs[16]? = some v) (hd : decode cc pc = .ok (.getfield 134, 3)) (kk : G ε κ k n (pc + 3) lv (v :: st) h) : G ε κ k n pc lv (.ref (ad ε a) :: st) h := g_get C 16 F_X9 (by decide) fl_X9_134 rfl ha e hv hd kk
theorem gp_X9_134 (C : Cx ε κ cc nL RX9 d) {a : Nat} {fs : List Value} {x : Int32} (fs' : List Value) (ha : a < NP) (e : h a = .inr (8, fs)) (hjl : 16 < fs.length) (hfs : fs.set 16 (.int x) = fs') (hd : decode cc pc = .ok (.putfield 134, 3)) (kk : ∀ h1 : Hp, h1 = va_up h a (.inr (8, fs')) → G ε κ k n (pc + 3) lv st h1) : G ε κ k n pc lv (.int x :: .ref (ad ε a) :: st) h := g_put C 16 F_X9 (by decide) fl_X9_134 rfl ha e rfl rfl rfl hjl hfs hd kk
theorem gf_X9_137 (C : Cx ε κ cc nL RX9 d) {a : Nat} {fs : List Value} {v : Value} (ha : a < NP) (e : h a = .inr (8, fs)) (hv : fs[17]? = some v) (hd : decode cc pc = .ok (.getfield 137, 3)) (kk : G ε κ k n (pc + 3) lv (v :: st) h) : G ε κ k n pc lv (.ref (ad ε a) :: st) h := g_get C 17 F_X9 (by decide) fl_X9_137 rfl ha e hv hd kk
theorem gp_X9_137 (C : Cx ε κ cc nL RX9 d) {a : Nat} {fs : List Value} {x : Int32} (fs' : List Value) (ha : a < NP) (e : h a = .inr (8, fs)) (hjl : 17 < fs.length) (hfs : fs.set 17 (.int x) = fs') (hd : decode cc pc = .ok (.putfield 137, 3)) (kk : ∀ h1 : Hp, h1 = va_up h a (.inr (8, fs')) → G ε κ k n (pc + 3) lv st h1) : G ε κ k n pc lv (.int x :: .ref (ad ε a) :: st) h := g_put C 17 F_X9 (by decide) fl_X9_137 rfl ha e rfl rfl rfl hjl hfs hd kk
theorem gf_X9_143 (C : Cx ε κ cc nL RX9 d) {a : Nat} {fs : List Value} {v : Value} (ha : a < NP) (e : h a = .inr (8, fs)) (hv : fs[33]? = some v) (hd : decode cc pc = .ok (.getfield 143, 3)) (kk : G ε κ k n (pc + 3) lv (v :: st) h) : G ε κ k n pc lv (.ref (ad ε a) :: st) h := g_get C 33 F_X9 (by decide) fl_X9_143 rfl ha e hv hd kk
theorem gp_X9_143 (C : Cx ε κ cc nL RX9 d) {a : Nat} {fs : List Value} {x : Int32} (fs' : List Value) (ha : a < NP) (e : h a = .inr (8, fs)) (hjl : 33 < fs.length) (hfs : fs.set 33 (.int x) = fs') (hd : decode cc pc = .ok (.putfield 143, 3)) (kk : ∀ h1 : Hp, h1 = va_up h a (.inr (8, fs')) → G ε κ k n (pc + 3) lv st h1) : G ε κ k n pc lv (.int x :: .ref (ad ε a) :: st) h := g_put C 33 F_X9 (by decide) fl_X9_143 rfl ha e rfl rfl rfl hjl hfs hd kk
theorem gf_X9_146 (C : Cx ε κ cc nL RX9 d) {a : Nat} {fs : List Value} {v : Value} (ha : a < NP) (e : h a = .inr (8, fs)) (hv : fs[21]? = some v) (hd : decode cc pc = .ok (.getfield 146, 3)) (kk : G ε κ k n (pc + 3) lv (v :: st) h) : G ε κ k n pc lv (.ref (ad ε a) :: st) h := g_get C 21 F_X9 (by decide) fl_X9_146 rfl ha e hv hd kk
theorem gp_X9_146 (C : Cx ε κ cc nL RX9 d) {a : Nat} {fs : List Value} {x : Int32} (fs' : List Value) (ha : a < NP) (e : h a = .inr (8, fs)) (hjl : 21 < fs.length) (hfs : fs.set 21 (.int x) = fs') (hd : decode cc pc = .ok (.putfield 146, 3)) (kk : ∀ h1 : Hp, h1 = va_up h a (.inr (8, fs')) → G ε κ k n (pc + 3) lv st h1) : G ε κ k n pc lv (.int x :: .ref (ad ε a) :: st) h := g_put C 21 F_X9 (by decide) fl_X9_146 rfl ha e rfl rfl rfl hjl hfs hd kk
theorem gf_X9_169 (C : Cx ε κ cc nL RX9 d) {a : Nat} {fs : List Value} {v : Value} (ha : a < NP) (e : h a = .inr (8, fs)) (hv : fs[20]? = some v) (hd : decode cc pc = .ok (.getfield 169, 3)) (kk : G ε κ k n (pc + 3) lv (v :: st) h) : G ε κ k n pc lv (.ref (ad ε a) :: st) h := g_get C 20 F_X9 (by decide) fl_X9_169 rfl ha e hv hd kk
theorem gp_X9_169 (C : Cx ε κ cc nL RX9 d) {a : Nat} {fs : List Value} {x : Int32} (fs' : List Value) (ha : a < NP) (e : h a = .inr (8, fs)) (hjl : 20 < fs.length) (hfs : fs.set 20 (.int x) = fs') (hd : decode cc pc = .ok (.putfield 169, 3)) (kk : ∀ h1 : Hp, h1 = va_up h a (.inr (8, fs')) → G ε κ k n (pc + 3) lv st h1) : G ε κ k n pc lv (.int x :: .ref (ad ε a) :: st) h := g_put C 20 F_X9 (by decide) fl_X9_169 rfl ha e rfl rfl rfl hjl hfs hd kk
theorem gf_X9_202 (C : Cx ε κ cc nL RX9 d) {a : Nat} {fs : List Value} {v : Value} (ha : a < NP) (e : h a = .inr (8, fs)) (hv : fs[30]? = some v) (hd : decode cc pc = .ok (.getfield 202, 3)) (kk : G ε κ k n (pc + 3) lv (v :: st) h) : G ε κ k n pc lv (.ref (ad ε a) :: st) h := g_get C 30 F_X9 (by decide) fl_X9_202 rfl ha e hv hd kk
theorem gp_X9_202 (C : Cx ε κ cc nL RX9 d) {a : Nat} {fs : List Value} {x : Int32} (fs' : List Value) (ha : a < NP) (e : h a = .inr (8, fs)) (hjl : 30 < fs.length) (hfs : fs.set 30 (.int x) = fs') (hd : decode cc pc = .ok (.putfield 202, 3)) (kk : ∀ h1 : Hp, h1 = va_up h a (.inr (8, fs')) → G ε κ k n (pc + 3) lv st h1) : G ε κ k n pc lv (.int x :: .ref (ad ε a) :: st) h := g_put C 30 F_X9 (by decide) fl_X9_202 rfl ha e rfl rfl rfl hjl hfs hd kk
theorem gf_X9_212 (C : Cx ε κ cc nL RX9 d) {a : Nat} {fs : List Value} {v : Value} (ha : a < NP) (e : h a = .inr (8, fs)) (hv : fs[29]? = some v) (hd : decode cc pc = .ok (.getfield 212, 3)) (kk : G ε κ k n (pc + 3) lv (v :: st) h) : G ε κ k n pc lv (.ref (ad ε a) :: st) h := g_get C 29 F_X9 (by decide) fl_X9_212 rfl ha e hv hd kk
theorem gp_X9_212 (C : Cx ε κ cc nL RX9 d) {a : Nat} {fs : List Value} {x : Int32} (fs' : List Value) (ha : a < NP) (e : h a = .inr (8, fs)) (hjl : 29 < fs.length) (hfs : fs.set 29 (.int x) = fs') (hd : decode cc pc = .ok (.putfield 212, 3)) (kk : ∀ h1 : Hp, h1 = va_up h a (.inr (8, fs')) → G ε κ k n (pc + 3) lv st h1) : G ε κ k n pc lv (.int x :: .ref (ad ε a) :: st) h := g_put C 29 F_X9 (by decide) fl_X9_212 rfl ha e rfl rfl rfl hjl hfs hd kk
end WD
end
section
section WORLD
/-- where the reads lie: two places, which change their parts -/
def bs (b : Bool) : Nat := match b with | true => 33 | false => 6
def ln (q : Nat) : Nat := match q with | 2 => 6000 | 4 => 12000 | 8 => 6000 | 9 => 60 | 10 => 60 | 11 => 60 | 13 => 192 | 15 => 12 | 18 => 30 | 20 => 60 | 21 => 60 | 22 => 60 | 23 => 60 | 24 => 60 | 26 => 720 | 27 => 60 | 28 => 60 | 29 => 60 | 30 => 60 | 31 => 60 | 32 => 16 | 35 => 6000 | 36 => 60 | 37 => 60 | 38 => 60 | 40 => 6000 | 41 => 120 | 42 => 4800 | 43 => 120 | 44 => 14400 | 45 => 14400 | 46 => 192 | 47 => 30 | 48 => 60 | 49 => 60 | 50 => 60 | 51 => 60 | 52 => 60 | 53 => 12000 | 54 => 12000 | _ => 0
/-- numbers of the objects (place, field), of the arrays (place, index), which reads are the reads and which the draft, the law's long -/
abbrev St : Type := (Nat → Nat → Int32) × (Nat → Nat → Int32) × Bool × Bool × (Nat → Int64)
def cO (ε : Et) (q : Nat) (s a : Nat → Int32) (rb db : Bool) (J : Nat → Int64) : va_E := match q with
  | 0 => .inr (7, [.ref (ad ε 1), .ref (ad ε 3), .ref (ad ε 5), .ref (ad ε 12), .ref (ad ε 16), .ref (ad ε 19), .ref (ad ε (bs rb)), .int (s 7)])
  | 1 => .inr (4, [.ref (ad ε 2), .int (s 1)])
  | 2 => aI ε 6000 a
  | 3 => .inr (4, [.ref (ad ε 4), .int (s 1)])
  | 4 => aI ε 12000 a
  | 5 => .inr (2, [.ref (ad ε (bs db)), .int (s 1), .int (s 2), .int (s 3), .int (s 4)])
  | 6 => .inr (3, [.ref (ad ε 7), .ref (ad ε 9), .ref (ad ε 10), .ref (ad ε 11), .int (s 4), .int (s 5)])
  | 7 => .inr (4, [.ref (ad ε 8), .int (s 1)])
  | 8 => aI ε 6000 a
  | 9 => aI ε 60 a
  | 10 => aI ε 60 a
  | 11 => aI ε 60 a
  | 12 => .inr (0, [.ref (ad ε 13), .ref (ad ε 14), .int (s 2), .int (s 3), .int (s 4)])
  | 13 => aI ε 192 a
  | 14 => .inr (4, [.ref (ad ε 15), .int (s 1)])
  | 15 => aI ε 12 a
  | 16 => .inr (6, [.ref (ad ε 17), .int (s 1), .int (s 2), .int (s 3), .int (s 4), .int (s 5)])
  | 17 => .inr (4, [.ref (ad ε 18), .int (s 1)])
  | 18 => aI ε 30 a
  | 19 => .inr (5, [.ref (ad ε 20), .ref (ad ε 21), .ref (ad ε 22), .ref (ad ε 23), .ref (ad ε 24), .ref (ad ε 25), .int (s 6), .int (s 7), .int (s 8)])
  | 20 => aI ε 60 a
  | 21 => aI ε 60 a
  | 22 => aI ε 60 a
  | 23 => aI ε 60 a
  | 24 => aZ ε 60 a
  | 25 => .inr (1, [.ref (ad ε 26), .ref (ad ε 27), .ref (ad ε 28), .ref (ad ε 29), .ref (ad ε 30), .ref (ad ε 31), .ref (ad ε 32), .int (s 7), .int (s 8)])
  | 26 => aI ε 720 a
  | 27 => aI ε 60 a
  | 28 => aI ε 60 a
  | 29 => aI ε 60 a
  | 30 => aI ε 60 a
  | 31 => aI ε 60 a
  | 32 => aI ε 16 a
  | 33 => .inr (3, [.ref (ad ε 34), .ref (ad ε 36), .ref (ad ε 37), .ref (ad ε 38), .int (s 4), .int (s 5)])
  | 34 => .inr (4, [.ref (ad ε 35), .int (s 1)])
  | 35 => aI ε 6000 a
  | 36 => aI ε 60 a
  | 37 => aI ε 60 a
  | 38 => aI ε 60 a
  | 39 => .inr (8, [.ref (ad ε 40), .int (s 1), .int (s 2), .int (s 3), .ref (ad ε 41), .ref (ad ε 42), .ref (ad ε 43), .ref (ad ε 44), .ref (ad ε 45), .int (s 9), .int (s 10), .ref (ad ε 46), .int (s 12), .int (s 13), .ref (ad ε 47), .int (s 15), .int (s 16), .int (s 17), .int (s 18), .int (s 19), .int (s 20), .int (s 21), .ref (ad ε 48), .ref (ad ε 49), .ref (ad ε 50), .ref (ad ε 51), .ref (ad ε 52), .ref (ad ε 53), .ref (ad ε 54), .int (s 29), .int (s 30), .int (s 31), .int (s 32), .int (s 33)])
  | 40 => aI ε 6000 a
  | 41 => aI ε 120 a
  | 42 => aI ε 4800 a
  | 43 => aI ε 120 a
  | 44 => aI ε 14400 a
  | 45 => aI ε 14400 a
  | 46 => aI ε 192 a
  | 47 => aI ε 30 a
  | 48 => aI ε 60 a
  | 49 => aI ε 60 a
  | 50 => aI ε 60 a
  | 51 => aZ ε 60 a
  | 52 => aI ε 60 a
  | 53 => aI ε 12000 a
  | 54 => aI ε 12000 a
  | 55 => aJ ε 1 J
  | _ => aI ε 0 a
def WX (ε : Et) (σ : St) : Hp := fun q => cO ε q (σ.1 q) (σ.2.1 q) σ.2.2.1 σ.2.2.2.1 σ.2.2.2.2
def sS (σ : St) (p j : Nat) (v : Int32) : St := (va_up σ.1 p (va_up (σ.1 p) j v), σ.2)
def sA (σ : St) (q : Nat) (i : Int32) (v : Int32) : St := (σ.1, va_up σ.2.1 q (upd (σ.2.1 q) i.toNatClampNeg v), σ.2.2)
def sD (σ : St) (b : Bool) : St := (σ.1, σ.2.1, σ.2.2.1, b, σ.2.2.2.2)
def sR (σ : St) (b : Bool) : St := (σ.1, σ.2.1, b, σ.2.2.2)
def sJ (σ : St) (J : Nat → Int64) : St := (σ.1, σ.2.1, σ.2.2.1, σ.2.2.2.1, J)
def Rw (p : Nat) : Prop := p = 1 ∨ p = 3 ∨ p = 7 ∨ p = 14 ∨ p = 17 ∨ p = 34
abbrev AI (q : Nat) : Prop := q ∈ [2, 4, 8, 9, 10, 11, 13, 15, 18, 20, 21, 22, 23, 26, 27, 28, 29, 30, 31, 32, 35, 36, 37, 38, 40, 41, 42, 43, 44, 45, 46, 47, 48, 49, 50, 52, 53, 54]
abbrev AZ (q : Nat) : Prop := q ∈ [24, 51]
theorem ai_rw {p : Nat} (hp : Rw p) : AI (p + 1) := by rcases hp with rfl | rfl | rfl | rfl | rfl | rfl <;> decide +kernel
theorem ai_bs (b : Bool) {i : Nat} (hi : i = 3 ∨ i = 4 ∨ i = 5) : AI (bs b + i) := by cases b <;> rcases hi with rfl | rfl | rfl <;> decide +kernel
theorem rw_bs (b : Bool) : Rw (bs b + 1) := by cases b <;> simp [Rw, bs]
theorem rw_lt {p : Nat} (hp : Rw p) : p < NP := by rcases hp with rfl | rfl | rfl | rfl | rfl | rfl <;> decide
theorem bs_lt (b : Bool) : bs b < NP := by cases b <;> decide
theorem up_same {σ : St} {ε : Et} {p : Nat} {s a : Nat → Int32} : va_up (WX ε σ) p (cO ε p s a σ.2.2.1 σ.2.2.2.1 σ.2.2.2.2) = WX ε (va_up σ.1 p s, va_up σ.2.1 p a, σ.2.2) := by
  funext q
  by_cases h : q = p
  · subst h
    simp [WX, va_up_self]
  · simp [WX, va_up_ne _ _ h]
theorem va_up_id {α : Type} (f : Nat → α) (p : Nat) : va_up f p (f p) = f := by
  funext q
  by_cases h : q = p
  · subst h
    simp [va_up_self]
  · simp [va_up_ne _ _ h]
theorem up_s {σ : St} {ε : Et} {p : Nat} {j : Nat} {v : Int32} {c : va_E} (hc : c = cO ε p (va_up (σ.1 p) j v) (σ.2.1 p) σ.2.2.1 σ.2.2.2.1 σ.2.2.2.2) : va_up (WX ε σ) p c = WX ε (sS σ p j v) := by
  rw [hc, up_same, va_up_id]
  rfl
theorem up_a {σ : St} {ε : Et} {q : Nat} {i v : Int32} {c : va_E} (hc : c = cO ε q (σ.1 q) (upd (σ.2.1 q) i.toNatClampNeg v) σ.2.2.1 σ.2.2.2.1 σ.2.2.2.2) : va_up (WX ε σ) q c = WX ε (sA σ q i v) := by
  rw [hc, up_same, va_up_id]
  rfl
variable {ε : Et} {κ : Kt} {cc : ByteArray} {nL d : Nat} {own : String} {k n pc : Nat} {lv : List (Nat × Value)} {st : List Value} {σ : St}
theorem wx_ai {q : Nat} (h : AI q) : WX ε σ q = aI ε (ln q) (σ.2.1 q) := by
  simp only [AI, List.mem_cons, List.not_mem_nil, or_false] at h
  rcases h with rfl | rfl | rfl | rfl | rfl | rfl | rfl | rfl | rfl | rfl | rfl | rfl | rfl | rfl | rfl | rfl | rfl | rfl | rfl | rfl | rfl | rfl | rfl | rfl | rfl | rfl | rfl | rfl | rfl | rfl | rfl | rfl | rfl | rfl | rfl | rfl | rfl | rfl <;> rfl
theorem wx_az {q : Nat} (h : AZ q) : WX ε σ q = aZ ε (ln q) (σ.2.1 q) := by
  simp only [AZ, List.mem_cons, List.not_mem_nil, or_false] at h
  rcases h with rfl | rfl <;> rfl
theorem wx_aiu {q : Nat} (h : AI q) (s a : Nat → Int32) (rb db : Bool) (J : Nat → Int64) : cO ε q s a rb db J = aI ε (ln q) a := by
  simp only [AI, List.mem_cons, List.not_mem_nil, or_false] at h
  rcases h with rfl | rfl | rfl | rfl | rfl | rfl | rfl | rfl | rfl | rfl | rfl | rfl | rfl | rfl | rfl | rfl | rfl | rfl | rfl | rfl | rfl | rfl | rfl | rfl | rfl | rfl | rfl | rfl | rfl | rfl | rfl | rfl | rfl | rfl | rfl | rfl | rfl | rfl <;> rfl
theorem wx_azu {q : Nat} (h : AZ q) (s a : Nat → Int32) (rb db : Bool) (J : Nat → Int64) : cO ε q s a rb db J = aZ ε (ln q) a := by
  simp only [AZ, List.mem_cons, List.not_mem_nil, or_false] at h
  rcases h with rfl | rfl <;> rfl
theorem ai_lt {q : Nat} (h : AI q) : q < NP := by
  simp only [AI, List.mem_cons, List.not_mem_nil, or_false] at h
  simp only [NP]
  omega
theorem az_lt {q : Nat} (h : AZ q) : q < NP := by
  simp only [AZ, List.mem_cons, List.not_mem_nil, or_false] at h
  simp only [NP]
  omega
/-- an index is in a row -/
def inb (i : Int32) (n : Nat) : Bool := decide (¬ (i < 0 ∨ n ≤ i.toNatClampNeg))
theorem inb_in {i : Int32} {n : Nat} (h : inb i n = true) : vp_in i n := (of_decide_eq_true (p := ¬ (i < 0 ∨ n ≤ i.toNatClampNeg)) h)
theorem q_ald (C : Cx ε κ cc nL own d) {q : Nat} {i : Int32} (hq : AI q) (hi : inb i (ln q) = true) (hd : decode cc pc = .ok (.iaload, 1)) (kk : G ε κ k n (pc + 1) lv (.int (σ.2.1 q i.toNatClampNeg) :: st) (WX ε σ)) : G ε κ k n pc lv (.int i :: .ref (ad ε q) :: st) (WX ε σ) := g_ald C (ai_lt hq) (wx_ai hq) (inb_in hi) hd kk
theorem q_zld (C : Cx ε κ cc nL own d) {q : Nat} {i : Int32} (hq : AZ q) (hi : inb i (ln q) = true) (hd : decode cc pc = .ok (.baload, 1)) (kk : G ε κ k n (pc + 1) lv (.int (σ.2.1 q i.toNatClampNeg) :: st) (WX ε σ)) : G ε κ k n pc lv (.int i :: .ref (ad ε q) :: st) (WX ε σ) := g_zld C (az_lt hq) (wx_az hq) (inb_in hi) hd kk
theorem q_ast (C : Cx ε κ cc nL own d) {q : Nat} {i x : Int32} (hq : AI q) (hi : inb i (ln q) = true) (hd : decode cc pc = .ok (.iastore, 1)) (kk : ∀ σ1 : St, σ1 = sA σ q i x → G ε κ k n (pc + 1) lv st (WX ε σ1)) : G ε κ k n pc lv (.int x :: .int i :: .ref (ad ε q) :: st) (WX ε σ) := g_ast C (ai_lt hq) (wx_ai hq) (inb_in hi) hd (fun h1 e1 => by
  rw [e1, up_a (i := i) (v := x) (wx_aiu hq _ _ _ _ _).symm]
  exact kk _ rfl)
theorem nar_z {x : Int32} (hz : x = 0 ∨ x = 1) : vp_nar .boolean x = x := by rcases hz with rfl | rfl <;> rfl
theorem q_zst (C : Cx ε κ cc nL own d) {q : Nat} {i x : Int32} (hq : AZ q) (hi : inb i (ln q) = true) (hz : x = 0 ∨ x = 1) (hd : decode cc pc = .ok (.bastore, 1)) (kk : ∀ σ1 : St, σ1 = sA σ q i x → G ε κ k n (pc + 1) lv st (WX ε σ1)) : G ε κ k n pc lv (.int x :: .int i :: .ref (ad ε q) :: st) (WX ε σ) := g_zst C (az_lt hq) (wx_az hq) (inb_in hi) hd (fun h1 e1 => by
  rw [e1, nar_z hz, up_a (i := i) (v := x) (wx_azu hq _ _ _ _ _).symm]
  exact kk _ rfl)
theorem q_len (C : Cx ε κ cc nL own d) {q : Nat} (hq : AI q) (hd : decode cc pc = .ok (.arraylength, 1)) (kk : G ε κ k n (pc + 1) lv (.int (nI (ln q)) :: st) (WX ε σ)) : G ε κ k n pc lv (.ref (ad ε q) :: st) (WX ε σ) := g_len C (ai_lt hq) (wx_ai hq) rfl hd kk
theorem wx_X0 : WX ε σ 12 = .inr (0, [.ref (ad ε 13), .ref (ad ε 14), .int (σ.1 12 2), .int (σ.1 12 3), .int (σ.1 12 4)]) := rfl
theorem wx_X1 : WX ε σ 25 = .inr (1, [.ref (ad ε 26), .ref (ad ε 27), .ref (ad ε 28), .ref (ad ε 29), .ref (ad ε 30), .ref (ad ε 31), .ref (ad ε 32), .int (σ.1 25 7), .int (σ.1 25 8)]) := rfl
theorem wx_X2 : WX ε σ 5 = .inr (2, [.ref (ad ε (bs σ.2.2.2.1)), .int (σ.1 5 1), .int (σ.1 5 2), .int (σ.1 5 3), .int (σ.1 5 4)]) := rfl
theorem wx_X3 (b : Bool) : WX ε σ (bs b) = .inr (3, [.ref (ad ε (bs b + 1)), .ref (ad ε (bs b + 3)), .ref (ad ε (bs b + 4)), .ref (ad ε (bs b + 5)), .int (σ.1 (bs b) 4), .int (σ.1 (bs b) 5)]) := by cases b <;> rfl
theorem wx_X4 {p : Nat} (hp : Rw p) : WX ε σ p = .inr (4, [.ref (ad ε (p + 1)), .int (σ.1 p 1)]) := by rcases hp with rfl | rfl | rfl | rfl | rfl | rfl <;> rfl
theorem wx_X5 : WX ε σ 19 = .inr (5, [.ref (ad ε 20), .ref (ad ε 21), .ref (ad ε 22), .ref (ad ε 23), .ref (ad ε 24), .ref (ad ε 25), .int (σ.1 19 6), .int (σ.1 19 7), .int (σ.1 19 8)]) := rfl
theorem wx_X6 : WX ε σ 16 = .inr (6, [.ref (ad ε 17), .int (σ.1 16 1), .int (σ.1 16 2), .int (σ.1 16 3), .int (σ.1 16 4), .int (σ.1 16 5)]) := rfl
theorem wx_X8 : WX ε σ 0 = .inr (7, [.ref (ad ε 1), .ref (ad ε 3), .ref (ad ε 5), .ref (ad ε 12), .ref (ad ε 16), .ref (ad ε 19), .ref (ad ε (bs σ.2.2.1)), .int (σ.1 0 7)]) := rfl
theorem wx_X9 : WX ε σ 39 = .inr (8, [.ref (ad ε 40), .int (σ.1 39 1), .int (σ.1 39 2), .int (σ.1 39 3), .ref (ad ε 41), .ref (ad ε 42), .ref (ad ε 43), .ref (ad ε 44), .ref (ad ε 45), .int (σ.1 39 9), .int (σ.1 39 10), .ref (ad ε 46), .int (σ.1 39 12), .int (σ.1 39 13), .ref (ad ε 47), .int (σ.1 39 15), .int (σ.1 39 16), .int (σ.1 39 17), .int (σ.1 39 18), .int (σ.1 39 19), .int (σ.1 39 20), .int (σ.1 39 21), .ref (ad ε 48), .ref (ad ε 49), .ref (ad ε 50), .ref (ad ε 51), .ref (ad ε 52), .ref (ad ε 53), .ref (ad ε 54), .int (σ.1 39 29), .int (σ.1 39 30), .int (σ.1 39 31), .int (σ.1 39 32), .int (σ.1 39 33)]) := rfl
theorem q_X8_14 (C : Cx ε κ cc nL RX8 d) (hd : decode cc pc = .ok (.getfield 14, 3)) (kk : G ε κ k n (pc + 3) lv (.ref (ad ε 1) :: st) (WX ε σ)) : G ε κ k n pc lv (.ref (ad ε 0) :: st) (WX ε σ) := gf_X8_14 C (by decide) wx_X8 rfl hd kk
theorem q_X8_18 (C : Cx ε κ cc nL RX8 d) (hd : decode cc pc = .ok (.getfield 18, 3)) (kk : G ε κ k n (pc + 3) lv (.ref (ad ε 3) :: st) (WX ε σ)) : G ε κ k n pc lv (.ref (ad ε 0) :: st) (WX ε σ) := gf_X8_18 C (by decide) wx_X8 rfl hd kk
theorem q_X8_24 (C : Cx ε κ cc nL RX8 d) (hd : decode cc pc = .ok (.getfield 24, 3)) (kk : G ε κ k n (pc + 3) lv (.ref (ad ε 5) :: st) (WX ε σ)) : G ε κ k n pc lv (.ref (ad ε 0) :: st) (WX ε σ) := gf_X8_24 C (by decide) wx_X8 rfl hd kk
theorem q_X8_31 (C : Cx ε κ cc nL RX8 d) (hd : decode cc pc = .ok (.getfield 31, 3)) (kk : G ε κ k n (pc + 3) lv (.ref (ad ε 12) :: st) (WX ε σ)) : G ε κ k n pc lv (.ref (ad ε 0) :: st) (WX ε σ) := gf_X8_31 C (by decide) wx_X8 rfl hd kk
theorem q_X8_38 (C : Cx ε κ cc nL RX8 d) (hd : decode cc pc = .ok (.getfield 38, 3)) (kk : G ε κ k n (pc + 3) lv (.ref (ad ε 16) :: st) (WX ε σ)) : G ε κ k n pc lv (.ref (ad ε 0) :: st) (WX ε σ) := gf_X8_38 C (by decide) wx_X8 rfl hd kk
theorem q_X8_45 (C : Cx ε κ cc nL RX8 d) (hd : decode cc pc = .ok (.getfield 45, 3)) (kk : G ε κ k n (pc + 3) lv (.ref (ad ε 19) :: st) (WX ε σ)) : G ε κ k n pc lv (.ref (ad ε 0) :: st) (WX ε σ) := gf_X8_45 C (by decide) wx_X8 rfl hd kk
theorem q_X8_52 (C : Cx ε κ cc nL RX8 d) (hd : decode cc pc = .ok (.getfield 52, 3)) (kk : G ε κ k n (pc + 3) lv (.ref (ad ε (bs σ.2.2.1)) :: st) (WX ε σ)) : G ε κ k n pc lv (.ref (ad ε 0) :: st) (WX ε σ) := gf_X8_52 C (by decide) wx_X8 rfl hd kk
theorem p_X8_52 (C : Cx ε κ cc nL RX8 d) (b : Bool) (hd : decode cc pc = .ok (.putfield 52, 3)) (kk : ∀ σ1 : St, σ1 = sR σ b → G ε κ k n (pc + 3) lv st (WX ε σ1)) : G ε κ k n pc lv (.ref (ad ε (bs b)) :: .ref (ad ε 0) :: st) (WX ε σ) := gp_X8_52 C _ (by decide) wx_X8 (by simp) rfl hd (fun h1 e1 => by
  have e2 : h1 = WX ε (sR σ b) := by
    rw [e1]
    funext q
    by_cases hq : q = 0
    · subst hq
      rw [va_up_self]
      rfl
    · rw [va_up_ne _ _ hq]
      simp only [WX, sR]
      unfold cO
      split <;> first | rfl | exact absurd rfl hq
  rw [e2]
  exact kk _ rfl)
theorem q_X8_56 (C : Cx ε κ cc nL RX8 d) (hd : decode cc pc = .ok (.getfield 56, 3)) (kk : G ε κ k n (pc + 3) lv (.int (σ.1 0 7) :: st) (WX ε σ)) : G ε κ k n pc lv (.ref (ad ε 0) :: st) (WX ε σ) := gf_X8_56 C (by decide) wx_X8 rfl hd kk
theorem p_X8_56 (C : Cx ε κ cc nL RX8 d) {x : Int32} (hd : decode cc pc = .ok (.putfield 56, 3)) (kk : ∀ σ1 : St, σ1 = sS σ 0 7 x → G ε κ k n (pc + 3) lv st (WX ε σ1)) : G ε κ k n pc lv (.int x :: .ref (ad ε 0) :: st) (WX ε σ) := gp_X8_56 C _ (by decide) wx_X8 (by simp) rfl hd (fun h1 e1 => by have e2 := e1.trans (up_s (j := 7) (v := x) rfl); rw [e2]; exact kk _ rfl)
theorem q_X0_9 (C : Cx ε κ cc nL RX0 d) (hd : decode cc pc = .ok (.getfield 9, 3)) (kk : G ε κ k n (pc + 3) lv (.ref (ad ε 13) :: st) (WX ε σ)) : G ε κ k n pc lv (.ref (ad ε 12) :: st) (WX ε σ) := gf_X0_9 C (by decide) wx_X0 rfl hd kk
theorem q_X0_20 (C : Cx ε κ cc nL RX0 d) (hd : decode cc pc = .ok (.getfield 20, 3)) (kk : G ε κ k n (pc + 3) lv (.ref (ad ε 14) :: st) (WX ε σ)) : G ε κ k n pc lv (.ref (ad ε 12) :: st) (WX ε σ) := gf_X0_20 C (by decide) wx_X0 rfl hd kk
theorem q_X0_24 (C : Cx ε κ cc nL RX0 d) (hd : decode cc pc = .ok (.getfield 24, 3)) (kk : G ε κ k n (pc + 3) lv (.int (σ.1 12 4) :: st) (WX ε σ)) : G ε κ k n pc lv (.ref (ad ε 12) :: st) (WX ε σ) := gf_X0_24 C (by decide) wx_X0 rfl hd kk
theorem p_X0_24 (C : Cx ε κ cc nL RX0 d) {x : Int32} (hd : decode cc pc = .ok (.putfield 24, 3)) (kk : ∀ σ1 : St, σ1 = sS σ 12 4 x → G ε κ k n (pc + 3) lv st (WX ε σ1)) : G ε κ k n pc lv (.int x :: .ref (ad ε 12) :: st) (WX ε σ) := gp_X0_24 C _ (by decide) wx_X0 (by simp) rfl hd (fun h1 e1 => by have e2 := e1.trans (up_s (j := 4) (v := x) rfl); rw [e2]; exact kk _ rfl)
theorem q_X0_28 (C : Cx ε κ cc nL RX0 d) (hd : decode cc pc = .ok (.getfield 28, 3)) (kk : G ε κ k n (pc + 3) lv (.int (σ.1 12 2) :: st) (WX ε σ)) : G ε κ k n pc lv (.ref (ad ε 12) :: st) (WX ε σ) := gf_X0_28 C (by decide) wx_X0 rfl hd kk
theorem p_X0_28 (C : Cx ε κ cc nL RX0 d) {x : Int32} (hd : decode cc pc = .ok (.putfield 28, 3)) (kk : ∀ σ1 : St, σ1 = sS σ 12 2 x → G ε κ k n (pc + 3) lv st (WX ε σ1)) : G ε κ k n pc lv (.int x :: .ref (ad ε 12) :: st) (WX ε σ) := gp_X0_28 C _ (by decide) wx_X0 (by simp) rfl hd (fun h1 e1 => by have e2 := e1.trans (up_s (j := 2) (v := x) rfl); rw [e2]; exact kk _ rfl)
theorem q_X0_31 (C : Cx ε κ cc nL RX0 d) (hd : decode cc pc = .ok (.getfield 31, 3)) (kk : G ε κ k n (pc + 3) lv (.int (σ.1 12 3) :: st) (WX ε σ)) : G ε κ k n pc lv (.ref (ad ε 12) :: st) (WX ε σ) := gf_X0_31 C (by decide) wx_X0 rfl hd kk
theorem p_X0_31 (C : Cx ε κ cc nL RX0 d) {x : Int32} (hd : decode cc pc = .ok (.putfield 31, 3)) (kk : ∀ σ1 : St, σ1 = sS σ 12 3 x → G ε κ k n (pc + 3) lv st (WX ε σ1)) : G ε κ k n pc lv (.int x :: .ref (ad ε 12) :: st) (WX ε σ) := gp_X0_31 C _ (by decide) wx_X0 (by simp) rfl hd (fun h1 e1 => by have e2 := e1.trans (up_s (j := 3) (v := x) rfl); rw [e2]; exact kk _ rfl)
theorem q_X1_9 (C : Cx ε κ cc nL RX1 d) (hd : decode cc pc = .ok (.getfield 9, 3)) (kk : G ε κ k n (pc + 3) lv (.ref (ad ε 26) :: st) (WX ε σ)) : G ε κ k n pc lv (.ref (ad ε 25) :: st) (WX ε σ) := gf_X1_9 C (by decide) wx_X1 rfl hd kk
theorem q_X1_15 (C : Cx ε κ cc nL RX1 d) (hd : decode cc pc = .ok (.getfield 15, 3)) (kk : G ε κ k n (pc + 3) lv (.ref (ad ε 27) :: st) (WX ε σ)) : G ε κ k n pc lv (.ref (ad ε 25) :: st) (WX ε σ) := gf_X1_15 C (by decide) wx_X1 rfl hd kk
theorem q_X1_18 (C : Cx ε κ cc nL RX1 d) (hd : decode cc pc = .ok (.getfield 18, 3)) (kk : G ε κ k n (pc + 3) lv (.ref (ad ε 28) :: st) (WX ε σ)) : G ε κ k n pc lv (.ref (ad ε 25) :: st) (WX ε σ) := gf_X1_18 C (by decide) wx_X1 rfl hd kk
theorem q_X1_21 (C : Cx ε κ cc nL RX1 d) (hd : decode cc pc = .ok (.getfield 21, 3)) (kk : G ε κ k n (pc + 3) lv (.ref (ad ε 29) :: st) (WX ε σ)) : G ε κ k n pc lv (.ref (ad ε 25) :: st) (WX ε σ) := gf_X1_21 C (by decide) wx_X1 rfl hd kk
theorem q_X1_24 (C : Cx ε κ cc nL RX1 d) (hd : decode cc pc = .ok (.getfield 24, 3)) (kk : G ε κ k n (pc + 3) lv (.ref (ad ε 30) :: st) (WX ε σ)) : G ε κ k n pc lv (.ref (ad ε 25) :: st) (WX ε σ) := gf_X1_24 C (by decide) wx_X1 rfl hd kk
theorem q_X1_27 (C : Cx ε κ cc nL RX1 d) (hd : decode cc pc = .ok (.getfield 27, 3)) (kk : G ε κ k n (pc + 3) lv (.ref (ad ε 31) :: st) (WX ε σ)) : G ε κ k n pc lv (.ref (ad ε 25) :: st) (WX ε σ) := gf_X1_27 C (by decide) wx_X1 rfl hd kk
theorem q_X1_30 (C : Cx ε κ cc nL RX1 d) (hd : decode cc pc = .ok (.getfield 30, 3)) (kk : G ε κ k n (pc + 3) lv (.ref (ad ε 32) :: st) (WX ε σ)) : G ε κ k n pc lv (.ref (ad ε 25) :: st) (WX ε σ) := gf_X1_30 C (by decide) wx_X1 rfl hd kk
theorem q_X1_39 (C : Cx ε κ cc nL RX1 d) (hd : decode cc pc = .ok (.getfield 39, 3)) (kk : G ε κ k n (pc + 3) lv (.int (σ.1 25 7) :: st) (WX ε σ)) : G ε κ k n pc lv (.ref (ad ε 25) :: st) (WX ε σ) := gf_X1_39 C (by decide) wx_X1 rfl hd kk
theorem p_X1_39 (C : Cx ε κ cc nL RX1 d) {x : Int32} (hd : decode cc pc = .ok (.putfield 39, 3)) (kk : ∀ σ1 : St, σ1 = sS σ 25 7 x → G ε κ k n (pc + 3) lv st (WX ε σ1)) : G ε κ k n pc lv (.int x :: .ref (ad ε 25) :: st) (WX ε σ) := gp_X1_39 C _ (by decide) wx_X1 (by simp) rfl hd (fun h1 e1 => by have e2 := e1.trans (up_s (j := 7) (v := x) rfl); rw [e2]; exact kk _ rfl)
theorem q_X1_43 (C : Cx ε κ cc nL RX1 d) (hd : decode cc pc = .ok (.getfield 43, 3)) (kk : G ε κ k n (pc + 3) lv (.int (σ.1 25 8) :: st) (WX ε σ)) : G ε κ k n pc lv (.ref (ad ε 25) :: st) (WX ε σ) := gf_X1_43 C (by decide) wx_X1 rfl hd kk
theorem p_X1_43 (C : Cx ε κ cc nL RX1 d) {x : Int32} (hz : x = 0 ∨ x = 1) (hd : decode cc pc = .ok (.putfield 43, 3)) (kk : ∀ σ1 : St, σ1 = sS σ 25 8 x → G ε κ k n (pc + 3) lv st (WX ε σ1)) : G ε κ k n pc lv (.int x :: .ref (ad ε 25) :: st) (WX ε σ) := gp_X1_43 C hz _ (by decide) wx_X1 (by simp) rfl hd (fun h1 e1 => by have e2 := e1.trans (up_s (j := 8) (v := x) rfl); rw [e2]; exact kk _ rfl)
theorem q_X2_12 (C : Cx ε κ cc nL RX2 d) (hd : decode cc pc = .ok (.getfield 12, 3)) (kk : G ε κ k n (pc + 3) lv (.ref (ad ε (bs σ.2.2.2.1)) :: st) (WX ε σ)) : G ε κ k n pc lv (.ref (ad ε 5) :: st) (WX ε σ) := gf_X2_12 C (by decide) wx_X2 rfl hd kk
theorem p_X2_12 (C : Cx ε κ cc nL RX2 d) (b : Bool) (hd : decode cc pc = .ok (.putfield 12, 3)) (kk : ∀ σ1 : St, σ1 = sD σ b → G ε κ k n (pc + 3) lv st (WX ε σ1)) : G ε κ k n pc lv (.ref (ad ε (bs b)) :: .ref (ad ε 5) :: st) (WX ε σ) := gp_X2_12 C _ (by decide) wx_X2 (by simp) rfl hd (fun h1 e1 => by
  have e2 : h1 = WX ε (sD σ b) := by
    rw [e1]
    funext q
    by_cases hq : q = 5
    · subst hq
      rw [va_up_self]
      rfl
    · rw [va_up_ne _ _ hq]
      simp only [WX, sD]
      unfold cO
      split <;> first | rfl | exact absurd rfl hq
  rw [e2]
  exact kk _ rfl)
theorem q_X2_18 (C : Cx ε κ cc nL RX2 d) (hd : decode cc pc = .ok (.getfield 18, 3)) (kk : G ε κ k n (pc + 3) lv (.int (σ.1 5 1) :: st) (WX ε σ)) : G ε κ k n pc lv (.ref (ad ε 5) :: st) (WX ε σ) := gf_X2_18 C (by decide) wx_X2 rfl hd kk
theorem p_X2_18 (C : Cx ε κ cc nL RX2 d) {x : Int32} (hd : decode cc pc = .ok (.putfield 18, 3)) (kk : ∀ σ1 : St, σ1 = sS σ 5 1 x → G ε κ k n (pc + 3) lv st (WX ε σ1)) : G ε κ k n pc lv (.int x :: .ref (ad ε 5) :: st) (WX ε σ) := gp_X2_18 C _ (by decide) wx_X2 (by simp) rfl hd (fun h1 e1 => by have e2 := e1.trans (up_s (j := 1) (v := x) rfl); rw [e2]; exact kk _ rfl)
theorem q_X2_42 (C : Cx ε κ cc nL RX2 d) (hd : decode cc pc = .ok (.getfield 42, 3)) (kk : G ε κ k n (pc + 3) lv (.int (σ.1 5 4) :: st) (WX ε σ)) : G ε κ k n pc lv (.ref (ad ε 5) :: st) (WX ε σ) := gf_X2_42 C (by decide) wx_X2 rfl hd kk
theorem p_X2_42 (C : Cx ε κ cc nL RX2 d) {x : Int32} (hd : decode cc pc = .ok (.putfield 42, 3)) (kk : ∀ σ1 : St, σ1 = sS σ 5 4 x → G ε κ k n (pc + 3) lv st (WX ε σ1)) : G ε κ k n pc lv (.int x :: .ref (ad ε 5) :: st) (WX ε σ) := gp_X2_42 C _ (by decide) wx_X2 (by simp) rfl hd (fun h1 e1 => by have e2 := e1.trans (up_s (j := 4) (v := x) rfl); rw [e2]; exact kk _ rfl)
theorem q_X2_49 (C : Cx ε κ cc nL RX2 d) (hd : decode cc pc = .ok (.getfield 49, 3)) (kk : G ε κ k n (pc + 3) lv (.int (σ.1 5 2) :: st) (WX ε σ)) : G ε κ k n pc lv (.ref (ad ε 5) :: st) (WX ε σ) := gf_X2_49 C (by decide) wx_X2 rfl hd kk
theorem p_X2_49 (C : Cx ε κ cc nL RX2 d) {x : Int32} (hd : decode cc pc = .ok (.putfield 49, 3)) (kk : ∀ σ1 : St, σ1 = sS σ 5 2 x → G ε κ k n (pc + 3) lv st (WX ε σ1)) : G ε κ k n pc lv (.int x :: .ref (ad ε 5) :: st) (WX ε σ) := gp_X2_49 C _ (by decide) wx_X2 (by simp) rfl hd (fun h1 e1 => by have e2 := e1.trans (up_s (j := 2) (v := x) rfl); rw [e2]; exact kk _ rfl)
theorem q_X2_58 (C : Cx ε κ cc nL RX2 d) (hd : decode cc pc = .ok (.getfield 58, 3)) (kk : G ε κ k n (pc + 3) lv (.int (σ.1 5 3) :: st) (WX ε σ)) : G ε κ k n pc lv (.ref (ad ε 5) :: st) (WX ε σ) := gf_X2_58 C (by decide) wx_X2 rfl hd kk
theorem p_X2_58 (C : Cx ε κ cc nL RX2 d) {x : Int32} (hd : decode cc pc = .ok (.putfield 58, 3)) (kk : ∀ σ1 : St, σ1 = sS σ 5 3 x → G ε κ k n (pc + 3) lv st (WX ε σ1)) : G ε κ k n pc lv (.int x :: .ref (ad ε 5) :: st) (WX ε σ) := gp_X2_58 C _ (by decide) wx_X2 (by simp) rfl hd (fun h1 e1 => by have e2 := e1.trans (up_s (j := 3) (v := x) rfl); rw [e2]; exact kk _ rfl)
theorem q_X3_14 (C : Cx ε κ cc nL RX3 d) (b : Bool) (hd : decode cc pc = .ok (.getfield 14, 3)) (kk : G ε κ k n (pc + 3) lv (.ref (ad ε (bs b + 1)) :: st) (WX ε σ)) : G ε κ k n pc lv (.ref (ad ε (bs b)) :: st) (WX ε σ) := gf_X3_14 C (bs_lt b) (wx_X3 b) rfl hd kk
theorem q_X3_20 (C : Cx ε κ cc nL RX3 d) (b : Bool) (hd : decode cc pc = .ok (.getfield 20, 3)) (kk : G ε κ k n (pc + 3) lv (.ref (ad ε (bs b + 3)) :: st) (WX ε σ)) : G ε κ k n pc lv (.ref (ad ε (bs b)) :: st) (WX ε σ) := gf_X3_20 C (bs_lt b) (wx_X3 b) rfl hd kk
theorem q_X3_24 (C : Cx ε κ cc nL RX3 d) (b : Bool) (hd : decode cc pc = .ok (.getfield 24, 3)) (kk : G ε κ k n (pc + 3) lv (.ref (ad ε (bs b + 4)) :: st) (WX ε σ)) : G ε κ k n pc lv (.ref (ad ε (bs b)) :: st) (WX ε σ) := gf_X3_24 C (bs_lt b) (wx_X3 b) rfl hd kk
theorem q_X3_27 (C : Cx ε κ cc nL RX3 d) (b : Bool) (hd : decode cc pc = .ok (.getfield 27, 3)) (kk : G ε κ k n (pc + 3) lv (.ref (ad ε (bs b + 5)) :: st) (WX ε σ)) : G ε κ k n pc lv (.ref (ad ε (bs b)) :: st) (WX ε σ) := gf_X3_27 C (bs_lt b) (wx_X3 b) rfl hd kk
theorem q_X3_33 (C : Cx ε κ cc nL RX3 d) (b : Bool) (hd : decode cc pc = .ok (.getfield 33, 3)) (kk : G ε κ k n (pc + 3) lv (.int (σ.1 (bs b) 4) :: st) (WX ε σ)) : G ε κ k n pc lv (.ref (ad ε (bs b)) :: st) (WX ε σ) := gf_X3_33 C (bs_lt b) (wx_X3 b) rfl hd kk
theorem p_X3_33 (C : Cx ε κ cc nL RX3 d) (b : Bool) {x : Int32} (hd : decode cc pc = .ok (.putfield 33, 3)) (kk : ∀ σ1 : St, σ1 = sS σ (bs b) 4 x → G ε κ k n (pc + 3) lv st (WX ε σ1)) : G ε κ k n pc lv (.int x :: .ref (ad ε (bs b)) :: st) (WX ε σ) := gp_X3_33 C _ (bs_lt b) (wx_X3 b) (by simp) rfl hd (fun h1 e1 => by have e2 := e1.trans (up_s (j := 4) (v := x) (by cases b <;> rfl)); rw [e2]; exact kk _ rfl)
theorem q_X3_37 (C : Cx ε κ cc nL RX3 d) (b : Bool) (hd : decode cc pc = .ok (.getfield 37, 3)) (kk : G ε κ k n (pc + 3) lv (.int (σ.1 (bs b) 5) :: st) (WX ε σ)) : G ε κ k n pc lv (.ref (ad ε (bs b)) :: st) (WX ε σ) := gf_X3_37 C (bs_lt b) (wx_X3 b) rfl hd kk
theorem p_X3_37 (C : Cx ε κ cc nL RX3 d) (b : Bool) {x : Int32} (hz : x = 0 ∨ x = 1) (hd : decode cc pc = .ok (.putfield 37, 3)) (kk : ∀ σ1 : St, σ1 = sS σ (bs b) 5 x → G ε κ k n (pc + 3) lv st (WX ε σ1)) : G ε κ k n pc lv (.int x :: .ref (ad ε (bs b)) :: st) (WX ε σ) := gp_X3_37 C hz _ (bs_lt b) (wx_X3 b) (by simp) rfl hd (fun h1 e1 => by have e2 := e1.trans (up_s (j := 5) (v := x) (by cases b <;> rfl)); rw [e2]; exact kk _ rfl)
theorem q_X4_15 (C : Cx ε κ cc nL RX4 d) {p : Nat} (hp : Rw p) (hd : decode cc pc = .ok (.getfield 15, 3)) (kk : G ε κ k n (pc + 3) lv (.ref (ad ε (p + 1)) :: st) (WX ε σ)) : G ε κ k n pc lv (.ref (ad ε p) :: st) (WX ε σ) := gf_X4_15 C (rw_lt hp) (wx_X4 hp) rfl hd kk
theorem q_X4_21 (C : Cx ε κ cc nL RX4 d) {p : Nat} (hp : Rw p) (hd : decode cc pc = .ok (.getfield 21, 3)) (kk : G ε κ k n (pc + 3) lv (.int (σ.1 p 1) :: st) (WX ε σ)) : G ε κ k n pc lv (.ref (ad ε p) :: st) (WX ε σ) := gf_X4_21 C (rw_lt hp) (wx_X4 hp) rfl hd kk
theorem p_X4_21 (C : Cx ε κ cc nL RX4 d) {p : Nat} (hp : Rw p) {x : Int32} (hd : decode cc pc = .ok (.putfield 21, 3)) (kk : ∀ σ1 : St, σ1 = sS σ p 1 x → G ε κ k n (pc + 3) lv st (WX ε σ1)) : G ε κ k n pc lv (.int x :: .ref (ad ε p) :: st) (WX ε σ) := gp_X4_21 C _ (rw_lt hp) (wx_X4 hp) (by simp) rfl hd (fun h1 e1 => by have e2 := e1.trans (up_s (j := 1) (v := x) (by rcases hp with rfl | rfl | rfl | rfl | rfl | rfl <;> rfl)); rw [e2]; exact kk _ rfl)
theorem q_X5_9 (C : Cx ε κ cc nL RX5 d) (hd : decode cc pc = .ok (.getfield 9, 3)) (kk : G ε κ k n (pc + 3) lv (.ref (ad ε 20) :: st) (WX ε σ)) : G ε κ k n pc lv (.ref (ad ε 19) :: st) (WX ε σ) := gf_X5_9 C (by decide) wx_X5 rfl hd kk
theorem q_X5_15 (C : Cx ε κ cc nL RX5 d) (hd : decode cc pc = .ok (.getfield 15, 3)) (kk : G ε κ k n (pc + 3) lv (.ref (ad ε 21) :: st) (WX ε σ)) : G ε κ k n pc lv (.ref (ad ε 19) :: st) (WX ε σ) := gf_X5_15 C (by decide) wx_X5 rfl hd kk
theorem q_X5_18 (C : Cx ε κ cc nL RX5 d) (hd : decode cc pc = .ok (.getfield 18, 3)) (kk : G ε κ k n (pc + 3) lv (.ref (ad ε 22) :: st) (WX ε σ)) : G ε κ k n pc lv (.ref (ad ε 19) :: st) (WX ε σ) := gf_X5_18 C (by decide) wx_X5 rfl hd kk
theorem q_X5_21 (C : Cx ε κ cc nL RX5 d) (hd : decode cc pc = .ok (.getfield 21, 3)) (kk : G ε κ k n (pc + 3) lv (.ref (ad ε 23) :: st) (WX ε σ)) : G ε κ k n pc lv (.ref (ad ε 19) :: st) (WX ε σ) := gf_X5_21 C (by decide) wx_X5 rfl hd kk
theorem q_X5_24 (C : Cx ε κ cc nL RX5 d) (hd : decode cc pc = .ok (.getfield 24, 3)) (kk : G ε κ k n (pc + 3) lv (.ref (ad ε 24) :: st) (WX ε σ)) : G ε κ k n pc lv (.ref (ad ε 19) :: st) (WX ε σ) := gf_X5_24 C (by decide) wx_X5 rfl hd kk
theorem q_X5_31 (C : Cx ε κ cc nL RX5 d) (hd : decode cc pc = .ok (.getfield 31, 3)) (kk : G ε κ k n (pc + 3) lv (.ref (ad ε 25) :: st) (WX ε σ)) : G ε κ k n pc lv (.ref (ad ε 19) :: st) (WX ε σ) := gf_X5_31 C (by decide) wx_X5 rfl hd kk
theorem q_X5_35 (C : Cx ε κ cc nL RX5 d) (hd : decode cc pc = .ok (.getfield 35, 3)) (kk : G ε κ k n (pc + 3) lv (.int (σ.1 19 6) :: st) (WX ε σ)) : G ε κ k n pc lv (.ref (ad ε 19) :: st) (WX ε σ) := gf_X5_35 C (by decide) wx_X5 rfl hd kk
theorem p_X5_35 (C : Cx ε κ cc nL RX5 d) {x : Int32} (hz : x = 0 ∨ x = 1) (hd : decode cc pc = .ok (.putfield 35, 3)) (kk : ∀ σ1 : St, σ1 = sS σ 19 6 x → G ε κ k n (pc + 3) lv st (WX ε σ1)) : G ε κ k n pc lv (.int x :: .ref (ad ε 19) :: st) (WX ε σ) := gp_X5_35 C hz _ (by decide) wx_X5 (by simp) rfl hd (fun h1 e1 => by have e2 := e1.trans (up_s (j := 6) (v := x) rfl); rw [e2]; exact kk _ rfl)
theorem q_X5_39 (C : Cx ε κ cc nL RX5 d) (hd : decode cc pc = .ok (.getfield 39, 3)) (kk : G ε κ k n (pc + 3) lv (.int (σ.1 19 8) :: st) (WX ε σ)) : G ε κ k n pc lv (.ref (ad ε 19) :: st) (WX ε σ) := gf_X5_39 C (by decide) wx_X5 rfl hd kk
theorem p_X5_39 (C : Cx ε κ cc nL RX5 d) {x : Int32} (hd : decode cc pc = .ok (.putfield 39, 3)) (kk : ∀ σ1 : St, σ1 = sS σ 19 8 x → G ε κ k n (pc + 3) lv st (WX ε σ1)) : G ε κ k n pc lv (.int x :: .ref (ad ε 19) :: st) (WX ε σ) := gp_X5_39 C _ (by decide) wx_X5 (by simp) rfl hd (fun h1 e1 => by have e2 := e1.trans (up_s (j := 8) (v := x) rfl); rw [e2]; exact kk _ rfl)
theorem q_X5_43 (C : Cx ε κ cc nL RX5 d) (hd : decode cc pc = .ok (.getfield 43, 3)) (kk : G ε κ k n (pc + 3) lv (.int (σ.1 19 7) :: st) (WX ε σ)) : G ε κ k n pc lv (.ref (ad ε 19) :: st) (WX ε σ) := gf_X5_43 C (by decide) wx_X5 rfl hd kk
theorem p_X5_43 (C : Cx ε κ cc nL RX5 d) {x : Int32} (hd : decode cc pc = .ok (.putfield 43, 3)) (kk : ∀ σ1 : St, σ1 = sS σ 19 7 x → G ε κ k n (pc + 3) lv st (WX ε σ1)) : G ε κ k n pc lv (.int x :: .ref (ad ε 19) :: st) (WX ε σ) := gp_X5_43 C _ (by decide) wx_X5 (by simp) rfl hd (fun h1 e1 => by have e2 := e1.trans (up_s (j := 7) (v := x) rfl); rw [e2]; exact kk _ rfl)
theorem q_X6_14 (C : Cx ε κ cc nL RX6 d) (hd : decode cc pc = .ok (.getfield 14, 3)) (kk : G ε κ k n (pc + 3) lv (.ref (ad ε 17) :: st) (WX ε σ)) : G ε κ k n pc lv (.ref (ad ε 16) :: st) (WX ε σ) := gf_X6_14 C (by decide) wx_X6 rfl hd kk
theorem q_X6_20 (C : Cx ε κ cc nL RX6 d) (hd : decode cc pc = .ok (.getfield 20, 3)) (kk : G ε κ k n (pc + 3) lv (.int (σ.1 16 3) :: st) (WX ε σ)) : G ε κ k n pc lv (.ref (ad ε 16) :: st) (WX ε σ) := gf_X6_20 C (by decide) wx_X6 rfl hd kk
theorem p_X6_20 (C : Cx ε κ cc nL RX6 d) {x : Int32} (hd : decode cc pc = .ok (.putfield 20, 3)) (kk : ∀ σ1 : St, σ1 = sS σ 16 3 x → G ε κ k n (pc + 3) lv st (WX ε σ1)) : G ε κ k n pc lv (.int x :: .ref (ad ε 16) :: st) (WX ε σ) := gp_X6_20 C _ (by decide) wx_X6 (by simp) rfl hd (fun h1 e1 => by have e2 := e1.trans (up_s (j := 3) (v := x) rfl); rw [e2]; exact kk _ rfl)
theorem q_X6_36 (C : Cx ε κ cc nL RX6 d) (hd : decode cc pc = .ok (.getfield 36, 3)) (kk : G ε κ k n (pc + 3) lv (.int (σ.1 16 1) :: st) (WX ε σ)) : G ε κ k n pc lv (.ref (ad ε 16) :: st) (WX ε σ) := gf_X6_36 C (by decide) wx_X6 rfl hd kk
theorem p_X6_36 (C : Cx ε κ cc nL RX6 d) {x : Int32} (hd : decode cc pc = .ok (.putfield 36, 3)) (kk : ∀ σ1 : St, σ1 = sS σ 16 1 x → G ε κ k n (pc + 3) lv st (WX ε σ1)) : G ε κ k n pc lv (.int x :: .ref (ad ε 16) :: st) (WX ε σ) := gp_X6_36 C _ (by decide) wx_X6 (by simp) rfl hd (fun h1 e1 => by have e2 := e1.trans (up_s (j := 1) (v := x) rfl); rw [e2]; exact kk _ rfl)
theorem q_X6_39 (C : Cx ε κ cc nL RX6 d) (hd : decode cc pc = .ok (.getfield 39, 3)) (kk : G ε κ k n (pc + 3) lv (.int (σ.1 16 2) :: st) (WX ε σ)) : G ε κ k n pc lv (.ref (ad ε 16) :: st) (WX ε σ) := gf_X6_39 C (by decide) wx_X6 rfl hd kk
theorem p_X6_39 (C : Cx ε κ cc nL RX6 d) {x : Int32} (hd : decode cc pc = .ok (.putfield 39, 3)) (kk : ∀ σ1 : St, σ1 = sS σ 16 2 x → G ε κ k n (pc + 3) lv st (WX ε σ1)) : G ε κ k n pc lv (.int x :: .ref (ad ε 16) :: st) (WX ε σ) := gp_X6_39 C _ (by decide) wx_X6 (by simp) rfl hd (fun h1 e1 => by have e2 := e1.trans (up_s (j := 2) (v := x) rfl); rw [e2]; exact kk _ rfl)
theorem q_X6_42 (C : Cx ε κ cc nL RX6 d) (hd : decode cc pc = .ok (.getfield 42, 3)) (kk : G ε κ k n (pc + 3) lv (.int (σ.1 16 4) :: st) (WX ε σ)) : G ε κ k n pc lv (.ref (ad ε 16) :: st) (WX ε σ) := gf_X6_42 C (by decide) wx_X6 rfl hd kk
theorem p_X6_42 (C : Cx ε κ cc nL RX6 d) {x : Int32} (hd : decode cc pc = .ok (.putfield 42, 3)) (kk : ∀ σ1 : St, σ1 = sS σ 16 4 x → G ε κ k n (pc + 3) lv st (WX ε σ1)) : G ε κ k n pc lv (.int x :: .ref (ad ε 16) :: st) (WX ε σ) := gp_X6_42 C _ (by decide) wx_X6 (by simp) rfl hd (fun h1 e1 => by have e2 := e1.trans (up_s (j := 4) (v := x) rfl); rw [e2]; exact kk _ rfl)
theorem q_X6_45 (C : Cx ε κ cc nL RX6 d) (hd : decode cc pc = .ok (.getfield 45, 3)) (kk : G ε κ k n (pc + 3) lv (.int (σ.1 16 5) :: st) (WX ε σ)) : G ε κ k n pc lv (.ref (ad ε 16) :: st) (WX ε σ) := gf_X6_45 C (by decide) wx_X6 rfl hd kk
theorem p_X6_45 (C : Cx ε κ cc nL RX6 d) {x : Int32} (hd : decode cc pc = .ok (.putfield 45, 3)) (kk : ∀ σ1 : St, σ1 = sS σ 16 5 x → G ε κ k n (pc + 3) lv st (WX ε σ1)) : G ε κ k n pc lv (.int x :: .ref (ad ε 16) :: st) (WX ε σ) := gp_X6_45 C _ (by decide) wx_X6 (by simp) rfl hd (fun h1 e1 => by have e2 := e1.trans (up_s (j := 5) (v := x) rfl); rw [e2]; exact kk _ rfl)
theorem q_X9_7 (C : Cx ε κ cc nL RX9 d) (hd : decode cc pc = .ok (.getfield 7, 3)) (kk : G ε κ k n (pc + 3) lv (.ref (ad ε 40) :: st) (WX ε σ)) : G ε κ k n pc lv (.ref (ad ε 39) :: st) (WX ε σ) := gf_X9_7 C (by decide) wx_X9 rfl hd kk
theorem q_X9_13 (C : Cx ε κ cc nL RX9 d) (hd : decode cc pc = .ok (.getfield 13, 3)) (kk : G ε κ k n (pc + 3) lv (.int (σ.1 39 2) :: st) (WX ε σ)) : G ε κ k n pc lv (.ref (ad ε 39) :: st) (WX ε σ) := gf_X9_13 C (by decide) wx_X9 rfl hd kk
theorem p_X9_13 (C : Cx ε κ cc nL RX9 d) {x : Int32} (hd : decode cc pc = .ok (.putfield 13, 3)) (kk : ∀ σ1 : St, σ1 = sS σ 39 2 x → G ε κ k n (pc + 3) lv st (WX ε σ1)) : G ε κ k n pc lv (.int x :: .ref (ad ε 39) :: st) (WX ε σ) := gp_X9_13 C _ (by decide) wx_X9 (by simp) rfl hd (fun h1 e1 => by have e2 := e1.trans (up_s (j := 2) (v := x) rfl); rw [e2]; exact kk _ rfl)
theorem q_X9_17 (C : Cx ε κ cc nL RX9 d) (hd : decode cc pc = .ok (.getfield 17, 3)) (kk : G ε κ k n (pc + 3) lv (.ref (ad ε 41) :: st) (WX ε σ)) : G ε κ k n pc lv (.ref (ad ε 39) :: st) (WX ε σ) := gf_X9_17 C (by decide) wx_X9 rfl hd kk
theorem q_X9_20 (C : Cx ε κ cc nL RX9 d) (hd : decode cc pc = .ok (.getfield 20, 3)) (kk : G ε κ k n (pc + 3) lv (.ref (ad ε 42) :: st) (WX ε σ)) : G ε κ k n pc lv (.ref (ad ε 39) :: st) (WX ε σ) := gf_X9_20 C (by decide) wx_X9 rfl hd kk
theorem q_X9_23 (C : Cx ε κ cc nL RX9 d) (hd : decode cc pc = .ok (.getfield 23, 3)) (kk : G ε κ k n (pc + 3) lv (.ref (ad ε 43) :: st) (WX ε σ)) : G ε κ k n pc lv (.ref (ad ε 39) :: st) (WX ε σ) := gf_X9_23 C (by decide) wx_X9 rfl hd kk
theorem q_X9_26 (C : Cx ε κ cc nL RX9 d) (hd : decode cc pc = .ok (.getfield 26, 3)) (kk : G ε κ k n (pc + 3) lv (.ref (ad ε 44) :: st) (WX ε σ)) : G ε κ k n pc lv (.ref (ad ε 39) :: st) (WX ε σ) := gf_X9_26 C (by decide) wx_X9 rfl hd kk
theorem q_X9_29 (C : Cx ε κ cc nL RX9 d) (hd : decode cc pc = .ok (.getfield 29, 3)) (kk : G ε κ k n (pc + 3) lv (.ref (ad ε 45) :: st) (WX ε σ)) : G ε κ k n pc lv (.ref (ad ε 39) :: st) (WX ε σ) := gf_X9_29 C (by decide) wx_X9 rfl hd kk
theorem q_X9_32 (C : Cx ε κ cc nL RX9 d) (hd : decode cc pc = .ok (.getfield 32, 3)) (kk : G ε κ k n (pc + 3) lv (.ref (ad ε 46) :: st) (WX ε σ)) : G ε κ k n pc lv (.ref (ad ε 39) :: st) (WX ε σ) := gf_X9_32 C (by decide) wx_X9 rfl hd kk
theorem q_X9_35 (C : Cx ε κ cc nL RX9 d) (hd : decode cc pc = .ok (.getfield 35, 3)) (kk : G ε κ k n (pc + 3) lv (.ref (ad ε 47) :: st) (WX ε σ)) : G ε κ k n pc lv (.ref (ad ε 39) :: st) (WX ε σ) := gf_X9_35 C (by decide) wx_X9 rfl hd kk
theorem q_X9_38 (C : Cx ε κ cc nL RX9 d) (hd : decode cc pc = .ok (.getfield 38, 3)) (kk : G ε κ k n (pc + 3) lv (.int (σ.1 39 18) :: st) (WX ε σ)) : G ε κ k n pc lv (.ref (ad ε 39) :: st) (WX ε σ) := gf_X9_38 C (by decide) wx_X9 rfl hd kk
theorem p_X9_38 (C : Cx ε κ cc nL RX9 d) {x : Int32} (hd : decode cc pc = .ok (.putfield 38, 3)) (kk : ∀ σ1 : St, σ1 = sS σ 39 18 x → G ε κ k n (pc + 3) lv st (WX ε σ1)) : G ε κ k n pc lv (.int x :: .ref (ad ε 39) :: st) (WX ε σ) := gp_X9_38 C _ (by decide) wx_X9 (by simp) rfl hd (fun h1 e1 => by have e2 := e1.trans (up_s (j := 18) (v := x) rfl); rw [e2]; exact kk _ rfl)
theorem q_X9_41 (C : Cx ε κ cc nL RX9 d) (hd : decode cc pc = .ok (.getfield 41, 3)) (kk : G ε κ k n (pc + 3) lv (.ref (ad ε 48) :: st) (WX ε σ)) : G ε κ k n pc lv (.ref (ad ε 39) :: st) (WX ε σ) := gf_X9_41 C (by decide) wx_X9 rfl hd kk
theorem q_X9_44 (C : Cx ε κ cc nL RX9 d) (hd : decode cc pc = .ok (.getfield 44, 3)) (kk : G ε κ k n (pc + 3) lv (.ref (ad ε 49) :: st) (WX ε σ)) : G ε κ k n pc lv (.ref (ad ε 39) :: st) (WX ε σ) := gf_X9_44 C (by decide) wx_X9 rfl hd kk
theorem q_X9_47 (C : Cx ε κ cc nL RX9 d) (hd : decode cc pc = .ok (.getfield 47, 3)) (kk : G ε κ k n (pc + 3) lv (.ref (ad ε 50) :: st) (WX ε σ)) : G ε κ k n pc lv (.ref (ad ε 39) :: st) (WX ε σ) := gf_X9_47 C (by decide) wx_X9 rfl hd kk
theorem q_X9_50 (C : Cx ε κ cc nL RX9 d) (hd : decode cc pc = .ok (.getfield 50, 3)) (kk : G ε κ k n (pc + 3) lv (.ref (ad ε 51) :: st) (WX ε σ)) : G ε κ k n pc lv (.ref (ad ε 39) :: st) (WX ε σ) := gf_X9_50 C (by decide) wx_X9 rfl hd kk
theorem q_X9_54 (C : Cx ε κ cc nL RX9 d) (hd : decode cc pc = .ok (.getfield 54, 3)) (kk : G ε κ k n (pc + 3) lv (.ref (ad ε 52) :: st) (WX ε σ)) : G ε κ k n pc lv (.ref (ad ε 39) :: st) (WX ε σ) := gf_X9_54 C (by decide) wx_X9 rfl hd kk
theorem q_X9_57 (C : Cx ε κ cc nL RX9 d) (hd : decode cc pc = .ok (.getfield 57, 3)) (kk : G ε κ k n (pc + 3) lv (.ref (ad ε 53) :: st) (WX ε σ)) : G ε κ k n pc lv (.ref (ad ε 39) :: st) (WX ε σ) := gf_X9_57 C (by decide) wx_X9 rfl hd kk
theorem q_X9_60 (C : Cx ε κ cc nL RX9 d) (hd : decode cc pc = .ok (.getfield 60, 3)) (kk : G ε κ k n (pc + 3) lv (.ref (ad ε 54) :: st) (WX ε σ)) : G ε κ k n pc lv (.ref (ad ε 39) :: st) (WX ε σ) := gf_X9_60 C (by decide) wx_X9 rfl hd kk
theorem q_X9_63 (C : Cx ε κ cc nL RX9 d) (hd : decode cc pc = .ok (.getfield 63, 3)) (kk : G ε κ k n (pc + 3) lv (.int (σ.1 39 9) :: st) (WX ε σ)) : G ε κ k n pc lv (.ref (ad ε 39) :: st) (WX ε σ) := gf_X9_63 C (by decide) wx_X9 rfl hd kk
theorem p_X9_63 (C : Cx ε κ cc nL RX9 d) {x : Int32} (hd : decode cc pc = .ok (.putfield 63, 3)) (kk : ∀ σ1 : St, σ1 = sS σ 39 9 x → G ε κ k n (pc + 3) lv st (WX ε σ1)) : G ε κ k n pc lv (.int x :: .ref (ad ε 39) :: st) (WX ε σ) := gp_X9_63 C _ (by decide) wx_X9 (by simp) rfl hd (fun h1 e1 => by have e2 := e1.trans (up_s (j := 9) (v := x) rfl); rw [e2]; exact kk _ rfl)
theorem q_X9_66 (C : Cx ε κ cc nL RX9 d) (hd : decode cc pc = .ok (.getfield 66, 3)) (kk : G ε κ k n (pc + 3) lv (.int (σ.1 39 3) :: st) (WX ε σ)) : G ε κ k n pc lv (.ref (ad ε 39) :: st) (WX ε σ) := gf_X9_66 C (by decide) wx_X9 rfl hd kk
theorem p_X9_66 (C : Cx ε κ cc nL RX9 d) {x : Int32} (hd : decode cc pc = .ok (.putfield 66, 3)) (kk : ∀ σ1 : St, σ1 = sS σ 39 3 x → G ε κ k n (pc + 3) lv st (WX ε σ1)) : G ε κ k n pc lv (.int x :: .ref (ad ε 39) :: st) (WX ε σ) := gp_X9_66 C _ (by decide) wx_X9 (by simp) rfl hd (fun h1 e1 => by have e2 := e1.trans (up_s (j := 3) (v := x) rfl); rw [e2]; exact kk _ rfl)
theorem q_X9_69 (C : Cx ε κ cc nL RX9 d) (hd : decode cc pc = .ok (.getfield 69, 3)) (kk : G ε κ k n (pc + 3) lv (.int (σ.1 39 1) :: st) (WX ε σ)) : G ε κ k n pc lv (.ref (ad ε 39) :: st) (WX ε σ) := gf_X9_69 C (by decide) wx_X9 rfl hd kk
theorem p_X9_69 (C : Cx ε κ cc nL RX9 d) {x : Int32} (hd : decode cc pc = .ok (.putfield 69, 3)) (kk : ∀ σ1 : St, σ1 = sS σ 39 1 x → G ε κ k n (pc + 3) lv st (WX ε σ1)) : G ε κ k n pc lv (.int x :: .ref (ad ε 39) :: st) (WX ε σ) := gp_X9_69 C _ (by decide) wx_X9 (by simp) rfl hd (fun h1 e1 => by have e2 := e1.trans (up_s (j := 1) (v := x) rfl); rw [e2]; exact kk _ rfl)
theorem q_X9_74 (C : Cx ε κ cc nL RX9 d) (hd : decode cc pc = .ok (.getfield 74, 3)) (kk : G ε κ k n (pc + 3) lv (.int (σ.1 39 32) :: st) (WX ε σ)) : G ε κ k n pc lv (.ref (ad ε 39) :: st) (WX ε σ) := gf_X9_74 C (by decide) wx_X9 rfl hd kk
theorem p_X9_74 (C : Cx ε κ cc nL RX9 d) {x : Int32} (hd : decode cc pc = .ok (.putfield 74, 3)) (kk : ∀ σ1 : St, σ1 = sS σ 39 32 x → G ε κ k n (pc + 3) lv st (WX ε σ1)) : G ε κ k n pc lv (.int x :: .ref (ad ε 39) :: st) (WX ε σ) := gp_X9_74 C _ (by decide) wx_X9 (by simp) rfl hd (fun h1 e1 => by have e2 := e1.trans (up_s (j := 32) (v := x) rfl); rw [e2]; exact kk _ rfl)
theorem q_X9_77 (C : Cx ε κ cc nL RX9 d) (hd : decode cc pc = .ok (.getfield 77, 3)) (kk : G ε κ k n (pc + 3) lv (.int (σ.1 39 31) :: st) (WX ε σ)) : G ε κ k n pc lv (.ref (ad ε 39) :: st) (WX ε σ) := gf_X9_77 C (by decide) wx_X9 rfl hd kk
theorem p_X9_77 (C : Cx ε κ cc nL RX9 d) {x : Int32} (hd : decode cc pc = .ok (.putfield 77, 3)) (kk : ∀ σ1 : St, σ1 = sS σ 39 31 x → G ε κ k n (pc + 3) lv st (WX ε σ1)) : G ε κ k n pc lv (.int x :: .ref (ad ε 39) :: st) (WX ε σ) := gp_X9_77 C _ (by decide) wx_X9 (by simp) rfl hd (fun h1 e1 => by have e2 := e1.trans (up_s (j := 31) (v := x) rfl); rw [e2]; exact kk _ rfl)
theorem q_X9_88 (C : Cx ε κ cc nL RX9 d) (hd : decode cc pc = .ok (.getfield 88, 3)) (kk : G ε κ k n (pc + 3) lv (.int (σ.1 39 10) :: st) (WX ε σ)) : G ε κ k n pc lv (.ref (ad ε 39) :: st) (WX ε σ) := gf_X9_88 C (by decide) wx_X9 rfl hd kk
theorem p_X9_88 (C : Cx ε κ cc nL RX9 d) {x : Int32} (hd : decode cc pc = .ok (.putfield 88, 3)) (kk : ∀ σ1 : St, σ1 = sS σ 39 10 x → G ε κ k n (pc + 3) lv st (WX ε σ1)) : G ε κ k n pc lv (.int x :: .ref (ad ε 39) :: st) (WX ε σ) := gp_X9_88 C _ (by decide) wx_X9 (by simp) rfl hd (fun h1 e1 => by have e2 := e1.trans (up_s (j := 10) (v := x) rfl); rw [e2]; exact kk _ rfl)
theorem q_X9_114 (C : Cx ε κ cc nL RX9 d) (hd : decode cc pc = .ok (.getfield 114, 3)) (kk : G ε κ k n (pc + 3) lv (.int (σ.1 39 19) :: st) (WX ε σ)) : G ε κ k n pc lv (.ref (ad ε 39) :: st) (WX ε σ) := gf_X9_114 C (by decide) wx_X9 rfl hd kk
theorem p_X9_114 (C : Cx ε κ cc nL RX9 d) {x : Int32} (hz : x = 0 ∨ x = 1) (hd : decode cc pc = .ok (.putfield 114, 3)) (kk : ∀ σ1 : St, σ1 = sS σ 39 19 x → G ε κ k n (pc + 3) lv st (WX ε σ1)) : G ε κ k n pc lv (.int x :: .ref (ad ε 39) :: st) (WX ε σ) := gp_X9_114 C hz _ (by decide) wx_X9 (by simp) rfl hd (fun h1 e1 => by have e2 := e1.trans (up_s (j := 19) (v := x) rfl); rw [e2]; exact kk _ rfl)
theorem q_X9_118 (C : Cx ε κ cc nL RX9 d) (hd : decode cc pc = .ok (.getfield 118, 3)) (kk : G ε κ k n (pc + 3) lv (.int (σ.1 39 12) :: st) (WX ε σ)) : G ε κ k n pc lv (.ref (ad ε 39) :: st) (WX ε σ) := gf_X9_118 C (by decide) wx_X9 rfl hd kk
theorem p_X9_118 (C : Cx ε κ cc nL RX9 d) {x : Int32} (hd : decode cc pc = .ok (.putfield 118, 3)) (kk : ∀ σ1 : St, σ1 = sS σ 39 12 x → G ε κ k n (pc + 3) lv st (WX ε σ1)) : G ε κ k n pc lv (.int x :: .ref (ad ε 39) :: st) (WX ε σ) := gp_X9_118 C _ (by decide) wx_X9 (by simp) rfl hd (fun h1 e1 => by have e2 := e1.trans (up_s (j := 12) (v := x) rfl); rw [e2]; exact kk _ rfl)
theorem q_X9_121 (C : Cx ε κ cc nL RX9 d) (hd : decode cc pc = .ok (.getfield 121, 3)) (kk : G ε κ k n (pc + 3) lv (.int (σ.1 39 13) :: st) (WX ε σ)) : G ε κ k n pc lv (.ref (ad ε 39) :: st) (WX ε σ) := gf_X9_121 C (by decide) wx_X9 rfl hd kk
theorem p_X9_121 (C : Cx ε κ cc nL RX9 d) {x : Int32} (hd : decode cc pc = .ok (.putfield 121, 3)) (kk : ∀ σ1 : St, σ1 = sS σ 39 13 x → G ε κ k n (pc + 3) lv st (WX ε σ1)) : G ε κ k n pc lv (.int x :: .ref (ad ε 39) :: st) (WX ε σ) := gp_X9_121 C _ (by decide) wx_X9 (by simp) rfl hd (fun h1 e1 => by have e2 := e1.trans (up_s (j := 13) (v := x) rfl); rw [e2]; exact kk _ rfl)
theorem q_X9_131 (C : Cx ε κ cc nL RX9 d) (hd : decode cc pc = .ok (.getfield 131, 3)) (kk : G ε κ k n (pc + 3) lv (.int (σ.1 39 15) :: st) (WX ε σ)) : G ε κ k n pc lv (.ref (ad ε 39) :: st) (WX ε σ) := gf_X9_131 C (by decide) wx_X9 rfl hd kk
theorem p_X9_131 (C : Cx ε κ cc nL RX9 d) {x : Int32} (hd : decode cc pc = .ok (.putfield 131, 3)) (kk : ∀ σ1 : St, σ1 = sS σ 39 15 x → G ε κ k n (pc + 3) lv st (WX ε σ1)) : G ε κ k n pc lv (.int x :: .ref (ad ε 39) :: st) (WX ε σ) := gp_X9_131 C _ (by decide) wx_X9 (by simp) rfl hd (fun h1 e1 => by have e2 := e1.trans (up_s (j := 15) (v := x) rfl); rw [e2]; exact kk _ rfl)
theorem q_X9_134 (C : Cx ε κ cc nL RX9 d) (hd : decode cc pc = .ok (.getfield 134, 3)) (kk : G ε κ k n (pc + 3) lv (.int (σ.1 39 16) :: st) (WX ε σ)) : G ε κ k n pc lv (.ref (ad ε 39) :: st) (WX ε σ) := gf_X9_134 C (by decide) wx_X9 rfl hd kk
theorem p_X9_134 (C : Cx ε κ cc nL RX9 d) {x : Int32} (hd : decode cc pc = .ok (.putfield 134, 3)) (kk : ∀ σ1 : St, σ1 = sS σ 39 16 x → G ε κ k n (pc + 3) lv st (WX ε σ1)) : G ε κ k n pc lv (.int x :: .ref (ad ε 39) :: st) (WX ε σ) := gp_X9_134 C _ (by decide) wx_X9 (by simp) rfl hd (fun h1 e1 => by have e2 := e1.trans (up_s (j := 16) (v := x) rfl); rw [e2]; exact kk _ rfl)
theorem q_X9_137 (C : Cx ε κ cc nL RX9 d) (hd : decode cc pc = .ok (.getfield 137, 3)) (kk : G ε κ k n (pc + 3) lv (.int (σ.1 39 17) :: st) (WX ε σ)) : G ε κ k n pc lv (.ref (ad ε 39) :: st) (WX ε σ) := gf_X9_137 C (by decide) wx_X9 rfl hd kk
theorem p_X9_137 (C : Cx ε κ cc nL RX9 d) {x : Int32} (hd : decode cc pc = .ok (.putfield 137, 3)) (kk : ∀ σ1 : St, σ1 = sS σ 39 17 x → G ε κ k n (pc + 3) lv st (WX ε σ1)) : G ε κ k n pc lv (.int x :: .ref (ad ε 39) :: st) (WX ε σ) := gp_X9_137 C _ (by decide) wx_X9 (by simp) rfl hd (fun h1 e1 => by have e2 := e1.trans (up_s (j := 17) (v := x) rfl); rw [e2]; exact kk _ rfl)
theorem q_X9_143 (C : Cx ε κ cc nL RX9 d) (hd : decode cc pc = .ok (.getfield 143, 3)) (kk : G ε κ k n (pc + 3) lv (.int (σ.1 39 33) :: st) (WX ε σ)) : G ε κ k n pc lv (.ref (ad ε 39) :: st) (WX ε σ) := gf_X9_143 C (by decide) wx_X9 rfl hd kk
theorem p_X9_143 (C : Cx ε κ cc nL RX9 d) {x : Int32} (hd : decode cc pc = .ok (.putfield 143, 3)) (kk : ∀ σ1 : St, σ1 = sS σ 39 33 x → G ε κ k n (pc + 3) lv st (WX ε σ1)) : G ε κ k n pc lv (.int x :: .ref (ad ε 39) :: st) (WX ε σ) := gp_X9_143 C _ (by decide) wx_X9 (by simp) rfl hd (fun h1 e1 => by have e2 := e1.trans (up_s (j := 33) (v := x) rfl); rw [e2]; exact kk _ rfl)
theorem q_X9_146 (C : Cx ε κ cc nL RX9 d) (hd : decode cc pc = .ok (.getfield 146, 3)) (kk : G ε κ k n (pc + 3) lv (.int (σ.1 39 21) :: st) (WX ε σ)) : G ε κ k n pc lv (.ref (ad ε 39) :: st) (WX ε σ) := gf_X9_146 C (by decide) wx_X9 rfl hd kk
theorem p_X9_146 (C : Cx ε κ cc nL RX9 d) {x : Int32} (hd : decode cc pc = .ok (.putfield 146, 3)) (kk : ∀ σ1 : St, σ1 = sS σ 39 21 x → G ε κ k n (pc + 3) lv st (WX ε σ1)) : G ε κ k n pc lv (.int x :: .ref (ad ε 39) :: st) (WX ε σ) := gp_X9_146 C _ (by decide) wx_X9 (by simp) rfl hd (fun h1 e1 => by have e2 := e1.trans (up_s (j := 21) (v := x) rfl); rw [e2]; exact kk _ rfl)
theorem q_X9_169 (C : Cx ε κ cc nL RX9 d) (hd : decode cc pc = .ok (.getfield 169, 3)) (kk : G ε κ k n (pc + 3) lv (.int (σ.1 39 20) :: st) (WX ε σ)) : G ε κ k n pc lv (.ref (ad ε 39) :: st) (WX ε σ) := gf_X9_169 C (by decide) wx_X9 rfl hd kk
theorem p_X9_169 (C : Cx ε κ cc nL RX9 d) {x : Int32} (hd : decode cc pc = .ok (.putfield 169, 3)) (kk : ∀ σ1 : St, σ1 = sS σ 39 20 x → G ε κ k n (pc + 3) lv st (WX ε σ1)) : G ε κ k n pc lv (.int x :: .ref (ad ε 39) :: st) (WX ε σ) := gp_X9_169 C _ (by decide) wx_X9 (by simp) rfl hd (fun h1 e1 => by have e2 := e1.trans (up_s (j := 20) (v := x) rfl); rw [e2]; exact kk _ rfl)
theorem q_X9_202 (C : Cx ε κ cc nL RX9 d) (hd : decode cc pc = .ok (.getfield 202, 3)) (kk : G ε κ k n (pc + 3) lv (.int (σ.1 39 30) :: st) (WX ε σ)) : G ε κ k n pc lv (.ref (ad ε 39) :: st) (WX ε σ) := gf_X9_202 C (by decide) wx_X9 rfl hd kk
theorem p_X9_202 (C : Cx ε κ cc nL RX9 d) {x : Int32} (hd : decode cc pc = .ok (.putfield 202, 3)) (kk : ∀ σ1 : St, σ1 = sS σ 39 30 x → G ε κ k n (pc + 3) lv st (WX ε σ1)) : G ε κ k n pc lv (.int x :: .ref (ad ε 39) :: st) (WX ε σ) := gp_X9_202 C _ (by decide) wx_X9 (by simp) rfl hd (fun h1 e1 => by have e2 := e1.trans (up_s (j := 30) (v := x) rfl); rw [e2]; exact kk _ rfl)
theorem q_X9_212 (C : Cx ε κ cc nL RX9 d) (hd : decode cc pc = .ok (.getfield 212, 3)) (kk : G ε κ k n (pc + 3) lv (.int (σ.1 39 29) :: st) (WX ε σ)) : G ε κ k n pc lv (.ref (ad ε 39) :: st) (WX ε σ) := gf_X9_212 C (by decide) wx_X9 rfl hd kk
theorem p_X9_212 (C : Cx ε κ cc nL RX9 d) {x : Int32} (hd : decode cc pc = .ok (.putfield 212, 3)) (kk : ∀ σ1 : St, σ1 = sS σ 39 29 x → G ε κ k n (pc + 3) lv st (WX ε σ1)) : G ε κ k n pc lv (.int x :: .ref (ad ε 39) :: st) (WX ε σ) := gp_X9_212 C _ (by decide) wx_X9 (by simp) rfl hd (fun h1 e1 => by have e2 := e1.trans (up_s (j := 29) (v := x) rfl); rw [e2]; exact kk _ rfl)
end WORLD
end
section
section RUN
abbrev Rs : Type := Int32 × St
abbrev Rx : Type := Nat × Int32 × St
def FU : Nat := 20000
def gd {α : Type} (c : Bool) (o : Option α) : Option α := bif c then o else none
def nx {α β : Type} (a : α) (f : α → β) : β := f a
def bd {α : Type} (o : Option Rs) (f : Int32 → St → Option α) : Option α := match o with | none => none | some z => f z.1 z.2
def gz {α : Type} (x : Int32) (o : Option α) : Option α := if x = 0 ∨ x = 1 then o else none
theorem gd_ok {α : Type} {c : Bool} {o : Option α} {z : α} (h : gd c o = some z) : c = true ∧ o = some z := by
  cases c
  · cases h
  · exact ⟨rfl, h⟩
theorem gz_ok {α : Type} {x : Int32} {o : Option α} {z : α} (h : gz x o = some z) : (x = 0 ∨ x = 1) ∧ o = some z := by
  unfold gz at h
  split at h
  · exact ⟨‹_›, h⟩
  · cases h
theorem bd_ok {α : Type} {o : Option Rs} {f : Int32 → St → Option α} {z : α} (h : bd o f = some z) : ∃ r σ, o = some (r, σ) ∧ f r σ = some z := by
  cases o with
  | none => cases h
  | some q => exact ⟨q.1, q.2, rfl, h⟩
theorem nx_ok {α β : Type} {a : α} {f : α → Option β} {z : β} (h : nx a f = some z) : ∀ x, x = a → f x = some z := fun _ e => e ▸ h
theorem ok_t {α : Type} {c : Prop} [Decidable c] {a b : Option α} {z : α} (hc : c) (h : (if c then a else b) = some z) : a = some z := by rwa [if_pos hc] at h
theorem ok_f {α : Type} {c : Prop} [Decidable c] {a b : Option α} {z : α} (hc : ¬ c) (h : (if c then a else b) = some z) : b = some z := by rwa [if_neg hc] at h
def PI (ε : Et) (z : Rs) : Option Value → Hp → Prop := fun v X => v = some (.int z.1) ∧ X = WX ε z.2
def PV (ε : Et) (z : Rs) : Option Value → Hp → Prop := fun v X => v = none ∧ X = WX ε z.2
def PR (ε : Et) (p : Nat) (σ : St) : Option Value → Hp → Prop := fun v X => v = some (.ref (ad ε p)) ∧ X = WX ε σ
theorem pi_ok {ε : Et} {r : Int32} {σ : St} {z : Rs} (h : some (r, σ) = some z) : PI ε z (some (.int r)) (WX ε σ) := by
  cases h
  exact ⟨rfl, rfl⟩
theorem pv_ok {ε : Et} {r : Int32} {σ : St} {z : Rs} (h : some (r, σ) = some z) : PV ε z none (WX ε σ) := by
  cases h
  exact ⟨rfl, rfl⟩
theorem nar_b {r : Int32} (hz : r = 0 ∨ r = 1) : narrow .boolean (.int r) = .int r := by rcases hz with rfl | rfl <;> rfl
variable {ε : Et} {κ : Kt} {cc : ByteArray} {nL d : Nat} {own : String} {pc : Nat} {lv : List (Nat × Value)} {st : List Value} {σ : St}
/-- a computed number gets a name -/
theorem q_nm {x : Int32} {k n : Nat} (kk : ∀ y : Int32, y = x → G ε κ k n pc lv (.int y :: st) (WX ε σ)) : G ε κ k n pc lv (.int x :: st) (WX ε σ) := kk x rfl
theorem q_cI (C : Cx ε κ cc nL own d) {y : MethodName} {bytes : ByteArray} {maxL d' b ci index np : Nat} {ret : Option FieldType} {rest st0 : List Value} {fs : List Value} {T : u_T} {N : Nat} {r1 : Int32} {σ1 : St} (As : List Value)
    (hM : RM κ.2.1 ε y bytes maxL ret d' 0 0 (.ref (ad ε b) :: As) (WX ε σ) (PI ε (r1, σ1))) (hw9 : Wv own index y bytes maxL ret np) (hdp : d' < d) (hb9 : b < NP) (he : WX ε σ b = .inr (ci, fs)) (hci : vwCl[ci]? = some (y.cls, T, N)) (hn : As.length = np) (hst : st0 = As.reverse ++ .ref (ad ε b) :: rest) (hcat : (rest.map fun v => v.category).sum ≤ 8) (hd : decode cc pc = .ok (.invokevirtual index, 3))
    (kk : G ε κ 0 0 (pc + 3) lv (.int r1 :: rest) (WX ε σ1)) : G ε κ 0 0 pc lv st0 (WX ε σ) := g_call0 C hM hw9 hdp hb9 he hci hn hst hcat hd (fun v h1 hp => by obtain ⟨rfl, rfl⟩ := hp; exact kk)
theorem q_cV (C : Cx ε κ cc nL own d) {y : MethodName} {bytes : ByteArray} {maxL d' b ci index np : Nat} {ret : Option FieldType} {rest st0 : List Value} {fs : List Value} {T : u_T} {N : Nat} {r1 : Int32} {σ1 : St} (As : List Value)
    (hM : RM κ.2.1 ε y bytes maxL ret d' 0 0 (.ref (ad ε b) :: As) (WX ε σ) (PV ε (r1, σ1))) (hw9 : Wv own index y bytes maxL ret np) (hdp : d' < d) (hb9 : b < NP) (he : WX ε σ b = .inr (ci, fs)) (hci : vwCl[ci]? = some (y.cls, T, N)) (hn : As.length = np) (hst : st0 = As.reverse ++ .ref (ad ε b) :: rest) (hcat : (rest.map fun v => v.category).sum ≤ 8) (hd : decode cc pc = .ok (.invokevirtual index, 3))
    (kk : G ε κ 0 0 (pc + 3) lv rest (WX ε σ1)) : G ε κ 0 0 pc lv st0 (WX ε σ) := g_call0 C hM hw9 hdp hb9 he hci hn hst hcat hd (fun v h1 hp => by obtain ⟨rfl, rfl⟩ := hp; exact kk)
theorem q_cR (C : Cx ε κ cc nL own d) {y : MethodName} {bytes : ByteArray} {maxL d' b ci index np : Nat} {ret : Option FieldType} {rest st0 : List Value} {fs : List Value} {T : u_T} {N : Nat} {q : Nat} {σ1 : St} (As : List Value)
    (hM : RM κ.2.1 ε y bytes maxL ret d' 0 0 (.ref (ad ε b) :: As) (WX ε σ) (PR ε q σ1)) (hw9 : Wv own index y bytes maxL ret np) (hdp : d' < d) (hb9 : b < NP) (he : WX ε σ b = .inr (ci, fs)) (hci : vwCl[ci]? = some (y.cls, T, N)) (hn : As.length = np) (hst : st0 = As.reverse ++ .ref (ad ε b) :: rest) (hcat : (rest.map fun v => v.category).sum ≤ 8) (hd : decode cc pc = .ok (.invokevirtual index, 3))
    (kk : G ε κ 0 0 (pc + 3) lv (.ref (ad ε q) :: rest) (WX ε σ1)) : G ε κ 0 0 pc lv st0 (WX ε σ) := g_call0 C hM hw9 hdp hb9 he hci hn hst hcat hd (fun v h1 hp => by obtain ⟨rfl, rfl⟩ := hp; exact kk)
theorem q_sI (C : Cx ε κ cc nL own d) {y : MethodName} {bytes : ByteArray} {maxL d' index np : Nat} {ret : Option FieldType} {rest st0 : List Value} {r1 : Int32} {σ1 : St} (As : List Value)
    (hM : RM κ.2.1 ε y bytes maxL ret d' 0 0 As (WX ε σ) (PI ε (r1, σ1))) (hw9 : Wst own index y bytes maxL ret np) (hdp : d' < d) (hn : As.length = np) (hst : st0 = As.reverse ++ rest) (hcat : (rest.map fun v => v.category).sum ≤ 8) (hd : decode cc pc = .ok (.invokestatic index, 3))
    (kk : G ε κ 0 0 (pc + 3) lv (.int r1 :: rest) (WX ε σ1)) : G ε κ 0 0 pc lv st0 (WX ε σ) := g_callS0 C hM hw9 hdp hn hst hcat hd (fun v h1 hp => by obtain ⟨rfl, rfl⟩ := hp; exact kk)
theorem q_sV (C : Cx ε κ cc nL own d) {y : MethodName} {bytes : ByteArray} {maxL d' index np : Nat} {ret : Option FieldType} {rest st0 : List Value} {r1 : Int32} {σ1 : St} (As : List Value)
    (hM : RM κ.2.1 ε y bytes maxL ret d' 0 0 As (WX ε σ) (PV ε (r1, σ1))) (hw9 : Wst own index y bytes maxL ret np) (hdp : d' < d) (hn : As.length = np) (hst : st0 = As.reverse ++ rest) (hcat : (rest.map fun v => v.category).sum ≤ 8) (hd : decode cc pc = .ok (.invokestatic index, 3))
    (kk : G ε κ 0 0 (pc + 3) lv rest (WX ε σ1)) : G ε κ 0 0 pc lv st0 (WX ε σ) := g_callS0 C hM hw9 hdp hn hst hcat hd (fun v h1 hp => by obtain ⟨rfl, rfl⟩ := hp; exact kk)
theorem q_nI (C : Cx ε κ cc nL own d) {y : MethodName} {bytes : ByteArray} {maxL d' index np : Nat} {ret : Option FieldType} {rest st0 : List Value} {r1 : Int32} {σ1 : St} (As : List Value)
    (hM : RM κ.2.1 ε y bytes maxL ret d' 0 0 As (WX ε σ) (PI ε (r1, σ1))) (hw9 : Wsn own index y bytes maxL ret np) (hdp : d' < d) (hn : As.length = np) (hst : st0 = As.reverse ++ rest) (hcat : (rest.map fun v => v.category).sum ≤ 8) (hd : decode cc pc = .ok (.invokestatic index, 3))
    (kk : G ε κ 0 0 (pc + 3) lv (.int r1 :: rest) (WX ε σ1)) : G ε κ 0 0 pc lv st0 (WX ε σ) := g_callN0 C hM hw9 hdp hn hst hcat hd (fun v h1 hp => by obtain ⟨rfl, rfl⟩ := hp; exact kk)
theorem RM.ofR {l : Launch} {h : Hp} {y : MethodName} {cl : String} {av : List Value} {Post : Option Value → Hp → Prop} (hy : plainName y.cls = true) (hav : (lg_sl av).length ≤ nL)
    (body : ∀ κ : Kt, Cx ε κ cc nL y.cls d → (∀ (pc : Nat) (lv : List (Nat × Value)) (h : Hp) (r : Nat), decode cc pc = .ok (.areturn, 1) → Post (some (.ref r)) h → G ε κ 0 0 pc lv [.ref r] h) → G ε κ 0 0 0 (lv_args 0 av) [] h) : RM l ε y cc nL (some (.object cl)) d 0 0 av h Post := by
  intro sz
  refine Met.ofW (cc := cc) (maxL := nL) (ret := some (.object cl)) hy rfl ?_
  intro p e s m args below meth c s₁ B hml hv
  obtain ⟨rfl, hsz, hP, hK, hN, hD0⟩ := hv
  subst hsz
  have hts := atoms_spec (ws := .code y cc nL (some (.object cl)) :: TB) B.pre
  have hD := hD0.self (sz := s.heap.size)
  have hA : ∀ q : Nat, s.heap.size ≤ q → va_A (pl ε h) s.heap.size q := fun q h => Or.inr h
  have hl := lv_entry av (n := nL) hav
  rw [lg_entry_eq]
  have hr := B.returns
  have hlk : meth.locks = false := B.notSynchronized
  refine body (p, l, e, _, s, m, av.toArray, below, meth, c, _, _) ⟨B.exec, B.bytes, hml, findClass_of_methodNamed B.named, fun w hw => hts w (List.mem_cons_of_mem _ hw), hK, hN, hlk, hA, Nat.le_refl _, Nat.le_refl _⟩ ?_ s.heap [] _ ⟨hP, hD, va_S.rf⟩ (by rw [hml]; exact hl)
  intro pc lv h' r hd hp H locs ls hw hl
  exact W.aret B.exec B.bytes hr (Or.inl ⟨_, rfl⟩) (Or.inr ⟨_, rfl⟩) (fun t ht hW => ⟨⟨some (.ref r), h', rfl, hp, by rw [ht]; exact hw.1, hw.2.1⟩, hw.2.2.F ht⟩) hw.2.2.2.2 hd
theorem tab_out {x : Int32} (lo n : Nat) (hn : n + 1 < 2 ^ 31) (h : ∀ k : Nat, lo ≤ k → k ≤ n → x ≠ nI k) : x.toInt < (lo : Int) ∨ (n : Int) < x.toInt := by
  rcases pk_ix x hn with h0 | h1 | ⟨j, hj, rfl⟩
  · left
    have := Int32.lt_iff_toInt_lt.mp h0
    simp at this
    omega
  · right
    have := Int32.le_iff_toInt_le.mp h1
    rw [nI_toInt hn] at this
    omega
  · by_cases hlo : lo ≤ j
    · exact absurd rfl (h j hlo (by omega))
    · left
      rw [nI_toInt (by omega)]
      omega
theorem rw_1 : Rw 1 := by simp [Rw]
theorem rw_3 : Rw 3 := by simp [Rw]
theorem rw_14 : Rw 14 := by simp [Rw]
theorem rw_17 : Rw 17 := by simp [Rw]
theorem ai_2 : AI 2 := by decide
theorem ai_4 : AI 4 := by decide
theorem ai_8 : AI 8 := by decide
theorem ai_9 : AI 9 := by decide
theorem ai_10 : AI 10 := by decide
theorem ai_11 : AI 11 := by decide
theorem ai_13 : AI 13 := by decide
theorem ai_15 : AI 15 := by decide
theorem ai_18 : AI 18 := by decide
theorem ai_20 : AI 20 := by decide
theorem ai_21 : AI 21 := by decide
theorem ai_22 : AI 22 := by decide
theorem ai_23 : AI 23 := by decide
theorem ai_26 : AI 26 := by decide
theorem ai_27 : AI 27 := by decide
theorem ai_28 : AI 28 := by decide
theorem ai_29 : AI 29 := by decide
theorem ai_30 : AI 30 := by decide
theorem ai_31 : AI 31 := by decide
theorem ai_32 : AI 32 := by decide
theorem ai_35 : AI 35 := by decide
theorem ai_36 : AI 36 := by decide
theorem ai_37 : AI 37 := by decide
theorem ai_38 : AI 38 := by decide
theorem ai_40 : AI 40 := by decide
theorem ai_41 : AI 41 := by decide
theorem ai_42 : AI 42 := by decide
theorem ai_43 : AI 43 := by decide
theorem ai_44 : AI 44 := by decide
theorem ai_45 : AI 45 := by decide
theorem ai_46 : AI 46 := by decide
theorem ai_47 : AI 47 := by decide
theorem ai_48 : AI 48 := by decide
theorem ai_49 : AI 49 := by decide
theorem ai_50 : AI 50 := by decide
theorem ai_52 : AI 52 := by decide
theorem ai_53 : AI 53 := by decide
theorem ai_54 : AI 54 := by decide
theorem az_24 : AZ 24 := by decide
theorem az_51 : AZ 51 := by decide
theorem lt_N {p : Nat} (h : p < 56) : p < NP := h
theorem c_X5_grouping {l : Launch} {σ : St} : RM l ε yX5_grouping cX5_grouping 1 (some (.object "ReadBins$Grouping")) 0 0 0 [.ref (ad ε 19)] (WX ε σ) (PR ε 25 σ) := by
  refine RM.ofR (by decide) (Nat.le_of_ble_eq_true rfl) (fun κ C K => ?_)
  refine g_aload_n C dX5_grouping_0 rfl 0 rfl ?_
  refine q_X5_31 C dX5_grouping_1 ?_
  exact K _ _ _ _ dX5_grouping_4 ⟨rfl, rfl⟩
theorem c_X2_exchange {l : Launch} {σ : St} (b : Bool) : RM l ε yX2_exchange cX2_exchange 3 (some (.object "ReadBins$Reads")) 0 0 0 [.ref (ad ε 5), .ref (ad ε (bs b))] (WX ε σ) (PR ε (bs σ.2.2.2.1) (sD σ b)) := by
  refine RM.ofR (by decide) (Nat.le_of_ble_eq_true rfl) (fun κ C K => ?_)
  refine g_aload_n C dX2_exchange_0 rfl 0 rfl ?_
  refine q_X2_12 C dX2_exchange_1 ?_
  refine g_astore_n C [(2, .ref (ad ε (bs σ.2.2.2.1))), (0, .ref (ad ε 5)), (1, .ref (ad ε (bs b)))] dX2_exchange_4 rfl (by decide) rfl ?_
  refine g_aload_n C dX2_exchange_5 rfl 1 rfl ?_
  refine g_aload_n C dX2_exchange_6 rfl 2 rfl ?_
  refine p_X2_12 C b dX2_exchange_7 (fun s1 e1 => ?_)
  refine g_aload_n C dX2_exchange_10 rfl 0 rfl ?_
  exact K _ _ _ _ dX2_exchange_11 ⟨rfl, by rw [e1]⟩
end RUN
end
section
def b_X8_isBase_29 (t0 : Int32) (σ : St) : Option Rs := gz t0 (some (t0, σ))
set_option maxRecDepth 10000 in
set_option maxHeartbeats 1000000 in
theorem t_X8_isBase_29 {ε : Et} {κ : Kt} {z : Rs} (C : Cx ε κ cX8_isBase 1 RX8 0) (K : Ret ε κ cX8_isBase (some .boolean) 0 0 (PI ε z)) (t0 : Int32) (σ : St) (ok : b_X8_isBase_29 t0 σ = some z) : G ε κ 0 0 29 [] [.int t0] (WX ε σ) := by
  unfold b_X8_isBase_29 at ok
  obtain ⟨z1, ok⟩ := gz_ok ok
  exact K.2 .boolean _ _ _ _ rfl dX8_isBase_29 (nar_b z1) (pi_ok ok)
def b_X8_isBase_24 (σ : St) : Option Rs := b_X8_isBase_29 (1 : Int32) σ
set_option maxRecDepth 10000 in
set_option maxHeartbeats 1000000 in
theorem t_X8_isBase_24 {ε : Et} {κ : Kt} {z : Rs} (C : Cx ε κ cX8_isBase 1 RX8 0) (K : Ret ε κ cX8_isBase (some .boolean) 0 0 (PI ε z)) (σ : St) (ok : b_X8_isBase_24 σ = some z) : G ε κ 0 0 24 [] [] (WX ε σ) := by
  unfold b_X8_isBase_24 at ok
  refine g_iconst (v := 1) C dX8_isBase_24 (by decide) ?_
  refine g_goto (tgt := 29) C dX8_isBase_25 (by decide) ?_
  exact t_X8_isBase_29 C K _ _ ok
def f_X8_isBase (x0 : Int32) (σ : St) : Option Rs := (if x0 = (65 : Int32) then b_X8_isBase_24 σ else (if x0 = (67 : Int32) then b_X8_isBase_24 σ else (if x0 = (71 : Int32) then b_X8_isBase_24 σ else (if x0 = (84 : Int32) then b_X8_isBase_24 σ else b_X8_isBase_29 (0 : Int32) σ))))
set_option maxRecDepth 10000 in
set_option maxHeartbeats 1000000 in
theorem tf_X8_isBase {ε : Et} {κ : Kt} {z : Rs} (C : Cx ε κ cX8_isBase 1 RX8 0) (K : Ret ε κ cX8_isBase (some .boolean) 0 0 (PI ε z)) (x0 : Int32) (σ : St) (ok : f_X8_isBase x0 σ = some z) : G ε κ 0 0 0 [(0, .int x0)] [] (WX ε σ) := by
  unfold f_X8_isBase at ok
  refine g_iload_n C dX8_isBase_0 rfl 0 rfl ?_
  refine g_bipush (v := 65) C dX8_isBase_1 (by decide) ?_
  refine g_icmp_eq (tgt := 24) C dX8_isBase_3 (by decide) (fun c1 => ?_) (fun c1 => ?_)
  · replace ok := ok_t c1 ok
    refine g_pick (lv' := []) ?_ [] rfl
    exact t_X8_isBase_24 C K _ ok
  · replace ok := ok_f c1 ok
    refine g_iload_n C dX8_isBase_6 rfl 0 rfl ?_
    refine g_bipush (v := 67) C dX8_isBase_7 (by decide) ?_
    refine g_icmp_eq (tgt := 24) C dX8_isBase_9 (by decide) (fun c2 => ?_) (fun c2 => ?_)
    · replace ok := ok_t c2 ok
      refine g_pick (lv' := []) ?_ [] rfl
      exact t_X8_isBase_24 C K _ ok
    · replace ok := ok_f c2 ok
      refine g_iload_n C dX8_isBase_12 rfl 0 rfl ?_
      refine g_bipush (v := 71) C dX8_isBase_13 (by decide) ?_
      refine g_icmp_eq (tgt := 24) C dX8_isBase_15 (by decide) (fun c3 => ?_) (fun c3 => ?_)
      · replace ok := ok_t c3 ok
        refine g_pick (lv' := []) ?_ [] rfl
        exact t_X8_isBase_24 C K _ ok
      · replace ok := ok_f c3 ok
        refine g_iload_n C dX8_isBase_18 rfl 0 rfl ?_
        refine g_bipush (v := 84) C dX8_isBase_19 (by decide) ?_
        refine g_icmp_ne (tgt := 28) C dX8_isBase_21 (by decide) (fun c4 => ?_) (fun c4 => ?_)
        · replace ok := ok_f c4 ok
          refine g_iconst (v := 0) C dX8_isBase_28 (by decide) ?_
          refine g_pick (lv' := []) ?_ [] rfl
          exact t_X8_isBase_29 C K _ _ ok
        · replace ok := ok_t c4 ok
          refine g_pick (lv' := []) ?_ [] rfl
          exact t_X8_isBase_24 C K _ ok
theorem c_X8_isBase {l : Launch} {ε : Et} {σ : St} {z : Rs} {x0 : Int32} (e : f_X8_isBase x0 σ = some z) : RM l ε yX8_isBase cX8_isBase 1 (some .boolean) 0 0 0 [.int x0] (WX ε σ) (PI ε z) := RM.of (by decide) (Nat.le_of_ble_eq_true rfl) (fun κ C K => tf_X8_isBase C K x0 σ e)
def b_X8_isSign_17 (t0 : Int32) (σ : St) : Option Rs := gz t0 (some (t0, σ))
set_option maxRecDepth 10000 in
set_option maxHeartbeats 1000000 in
theorem t_X8_isSign_17 {ε : Et} {κ : Kt} {z : Rs} (C : Cx ε κ cX8_isSign 1 RX8 0) (K : Ret ε κ cX8_isSign (some .boolean) 0 0 (PI ε z)) (t0 : Int32) (σ : St) (ok : b_X8_isSign_17 t0 σ = some z) : G ε κ 0 0 17 [] [.int t0] (WX ε σ) := by
  unfold b_X8_isSign_17 at ok
  obtain ⟨z1, ok⟩ := gz_ok ok
  exact K.2 .boolean _ _ _ _ rfl dX8_isSign_17 (nar_b z1) (pi_ok ok)
def b_X8_isSign_16 (σ : St) : Option Rs := b_X8_isSign_17 (0 : Int32) σ
set_option maxRecDepth 10000 in
set_option maxHeartbeats 1000000 in
theorem t_X8_isSign_16 {ε : Et} {κ : Kt} {z : Rs} (C : Cx ε κ cX8_isSign 1 RX8 0) (K : Ret ε κ cX8_isSign (some .boolean) 0 0 (PI ε z)) (σ : St) (ok : b_X8_isSign_16 σ = some z) : G ε κ 0 0 16 [] [] (WX ε σ) := by
  unfold b_X8_isSign_16 at ok
  refine g_iconst (v := 0) C dX8_isSign_16 (by decide) ?_
  exact t_X8_isSign_17 C K _ _ ok
def f_X8_isSign (x0 : Int32) (σ : St) : Option Rs := (if x0 < (33 : Int32) then b_X8_isSign_16 σ else (if (126 : Int32) < x0 then b_X8_isSign_16 σ else b_X8_isSign_17 (1 : Int32) σ))
set_option maxRecDepth 10000 in
set_option maxHeartbeats 1000000 in
theorem tf_X8_isSign {ε : Et} {κ : Kt} {z : Rs} (C : Cx ε κ cX8_isSign 1 RX8 0) (K : Ret ε κ cX8_isSign (some .boolean) 0 0 (PI ε z)) (x0 : Int32) (σ : St) (ok : f_X8_isSign x0 σ = some z) : G ε κ 0 0 0 [(0, .int x0)] [] (WX ε σ) := by
  unfold f_X8_isSign at ok
  refine g_iload_n C dX8_isSign_0 rfl 0 rfl ?_
  refine g_bipush (v := 33) C dX8_isSign_1 (by decide) ?_
  refine g_icmp_lt (tgt := 16) C dX8_isSign_3 (by decide) (fun c1 => ?_) (fun c1 => ?_)
  · replace ok := ok_t c1 ok
    refine g_pick (lv' := []) ?_ [] rfl
    exact t_X8_isSign_16 C K _ ok
  · replace ok := ok_f c1 ok
    refine g_iload_n C dX8_isSign_6 rfl 0 rfl ?_
    refine g_bipush (v := 126) C dX8_isSign_7 (by decide) ?_
    refine g_icmp_gt (tgt := 16) C dX8_isSign_9 (by decide) (fun c2 => ?_) (fun c2 => ?_)
    · replace ok := ok_t c2 ok
      refine g_pick (lv' := []) ?_ [] rfl
      exact t_X8_isSign_16 C K _ ok
    · replace ok := ok_f c2 ok
      refine g_iconst (v := 1) C dX8_isSign_12 (by decide) ?_
      refine g_goto (tgt := 17) C dX8_isSign_13 (by decide) ?_
      refine g_pick (lv' := []) ?_ [] rfl
      exact t_X8_isSign_17 C K _ _ ok
theorem c_X8_isSign {l : Launch} {ε : Et} {σ : St} {z : Rs} {x0 : Int32} (e : f_X8_isSign x0 σ = some z) : RM l ε yX8_isSign cX8_isSign 1 (some .boolean) 0 0 0 [.int x0] (WX ε σ) (PI ε z) := RM.of (by decide) (Nat.le_of_ble_eq_true rfl) (fun κ C K => tf_X8_isSign C K x0 σ e)
def b_X8_isLetter_18 (t0 : Int32) (σ : St) : Option Rs := gz t0 (some (t0, σ))
set_option maxRecDepth 10000 in
set_option maxHeartbeats 1000000 in
theorem t_X8_isLetter_18 {ε : Et} {κ : Kt} {z : Rs} (C : Cx ε κ cX8_isLetter 1 RX8 1) (K : Ret ε κ cX8_isLetter (some .boolean) 0 0 (PI ε z)) (t0 : Int32) (σ : St) (ok : b_X8_isLetter_18 t0 σ = some z) : G ε κ 0 0 18 [] [.int t0] (WX ε σ) := by
  unfold b_X8_isLetter_18 at ok
  obtain ⟨z1, ok⟩ := gz_ok ok
  exact K.2 .boolean _ _ _ _ rfl dX8_isLetter_18 (nar_b z1) (pi_ok ok)
def b_X8_isLetter_13 (σ : St) : Option Rs := b_X8_isLetter_18 (1 : Int32) σ
set_option maxRecDepth 10000 in
set_option maxHeartbeats 1000000 in
theorem t_X8_isLetter_13 {ε : Et} {κ : Kt} {z : Rs} (C : Cx ε κ cX8_isLetter 1 RX8 1) (K : Ret ε κ cX8_isLetter (some .boolean) 0 0 (PI ε z)) (σ : St) (ok : b_X8_isLetter_13 σ = some z) : G ε κ 0 0 13 [] [] (WX ε σ) := by
  unfold b_X8_isLetter_13 at ok
  refine g_iconst (v := 1) C dX8_isLetter_13 (by decide) ?_
  refine g_goto (tgt := 18) C dX8_isLetter_14 (by decide) ?_
  exact t_X8_isLetter_18 C K _ _ ok
def f_X8_isLetter (x0 : Int32) (σ : St) : Option Rs := bd (f_X8_isBase x0 σ) (fun r1 s2 => (if r1 = 0 then (if x0 = (78 : Int32) then b_X8_isLetter_13 s2 else b_X8_isLetter_18 (0 : Int32) s2) else b_X8_isLetter_13 s2))
set_option maxRecDepth 10000 in
set_option maxHeartbeats 1000000 in
theorem tf_X8_isLetter {ε : Et} {κ : Kt} {z : Rs} (C : Cx ε κ cX8_isLetter 1 RX8 1) (K : Ret ε κ cX8_isLetter (some .boolean) 0 0 (PI ε z)) (x0 : Int32) (σ : St) (ok : f_X8_isLetter x0 σ = some z) : G ε κ 0 0 0 [(0, .int x0)] [] (WX ε σ) := by
  unfold f_X8_isLetter at ok
  refine g_iload_n C dX8_isLetter_0 rfl 0 rfl ?_
  obtain ⟨r1, s2, e3, ok⟩ := bd_ok ok
  refine q_sI C [.int x0] (c_X8_isBase e3) wv_X8_286 (by decide) rfl rfl (Nat.le_of_ble_eq_true rfl) dX8_isLetter_1 ?_
  refine g_if_ne (tgt := 13) C dX8_isLetter_4 (by decide) (fun c4 => ?_) (fun c4 => ?_)
  · replace ok := ok_f c4 ok
    refine g_pick (lv' := []) ?_ [] rfl
    exact t_X8_isLetter_13 C K _ ok
  · replace ok := ok_t c4 ok
    refine g_iload_n C dX8_isLetter_7 rfl 0 rfl ?_
    refine g_bipush (v := 78) C dX8_isLetter_8 (by decide) ?_
    refine g_icmp_ne (tgt := 17) C dX8_isLetter_10 (by decide) (fun c5 => ?_) (fun c5 => ?_)
    · replace ok := ok_f c5 ok
      refine g_iconst (v := 0) C dX8_isLetter_17 (by decide) ?_
      refine g_pick (lv' := []) ?_ [] rfl
      exact t_X8_isLetter_18 C K _ _ ok
    · replace ok := ok_t c5 ok
      refine g_pick (lv' := []) ?_ [] rfl
      exact t_X8_isLetter_13 C K _ ok
theorem c_X8_isLetter {l : Launch} {ε : Et} {σ : St} {z : Rs} {x0 : Int32} (e : f_X8_isLetter x0 σ = some z) : RM l ε yX8_isLetter cX8_isLetter 1 (some .boolean) 1 0 0 [.int x0] (WX ε σ) (PI ε z) := RM.of (by decide) (Nat.le_of_ble_eq_true rfl) (fun κ C K => tf_X8_isLetter C K x0 σ e)
def b_X8_isForm_14 (t0 : Int32) (σ : St) : Option Rs := gz t0 (some (t0, σ))
set_option maxRecDepth 10000 in
set_option maxHeartbeats 1000000 in
theorem t_X8_isForm_14 {ε : Et} {κ : Kt} {z : Rs} (C : Cx ε κ cX8_isForm 1 RX8 0) (K : Ret ε κ cX8_isForm (some .boolean) 0 0 (PI ε z)) (t0 : Int32) (σ : St) (ok : b_X8_isForm_14 t0 σ = some z) : G ε κ 0 0 14 [] [.int t0] (WX ε σ) := by
  unfold b_X8_isForm_14 at ok
  obtain ⟨z1, ok⟩ := gz_ok ok
  exact K.2 .boolean _ _ _ _ rfl dX8_isForm_14 (nar_b z1) (pi_ok ok)
def b_X8_isForm_9 (σ : St) : Option Rs := b_X8_isForm_14 (1 : Int32) σ
set_option maxRecDepth 10000 in
set_option maxHeartbeats 1000000 in
theorem t_X8_isForm_9 {ε : Et} {κ : Kt} {z : Rs} (C : Cx ε κ cX8_isForm 1 RX8 0) (K : Ret ε κ cX8_isForm (some .boolean) 0 0 (PI ε z)) (σ : St) (ok : b_X8_isForm_9 σ = some z) : G ε κ 0 0 9 [] [] (WX ε σ) := by
  unfold b_X8_isForm_9 at ok
  refine g_iconst (v := 1) C dX8_isForm_9 (by decide) ?_
  refine g_goto (tgt := 14) C dX8_isForm_10 (by decide) ?_
  exact t_X8_isForm_14 C K _ _ ok
def f_X8_isForm (x0 : Int32) (σ : St) : Option Rs := (if x0 = 0 then b_X8_isForm_9 σ else (if x0 = (1 : Int32) then b_X8_isForm_9 σ else b_X8_isForm_14 (0 : Int32) σ))
set_option maxRecDepth 10000 in
set_option maxHeartbeats 1000000 in
theorem tf_X8_isForm {ε : Et} {κ : Kt} {z : Rs} (C : Cx ε κ cX8_isForm 1 RX8 0) (K : Ret ε κ cX8_isForm (some .boolean) 0 0 (PI ε z)) (x0 : Int32) (σ : St) (ok : f_X8_isForm x0 σ = some z) : G ε κ 0 0 0 [(0, .int x0)] [] (WX ε σ) := by
  unfold f_X8_isForm at ok
  refine g_iload_n C dX8_isForm_0 rfl 0 rfl ?_
  refine g_if_eq (tgt := 9) C dX8_isForm_1 (by decide) (fun c1 => ?_) (fun c1 => ?_)
  · replace ok := ok_t c1 ok
    refine g_pick (lv' := []) ?_ [] rfl
    exact t_X8_isForm_9 C K _ ok
  · replace ok := ok_f c1 ok
    refine g_iload_n C dX8_isForm_4 rfl 0 rfl ?_
    refine g_iconst (v := 1) C dX8_isForm_5 (by decide) ?_
    refine g_icmp_ne (tgt := 13) C dX8_isForm_6 (by decide) (fun c2 => ?_) (fun c2 => ?_)
    · replace ok := ok_f c2 ok
      refine g_iconst (v := 0) C dX8_isForm_13 (by decide) ?_
      refine g_pick (lv' := []) ?_ [] rfl
      exact t_X8_isForm_14 C K _ _ ok
    · replace ok := ok_t c2 ok
      refine g_pick (lv' := []) ?_ [] rfl
      exact t_X8_isForm_9 C K _ ok
theorem c_X8_isForm {l : Launch} {ε : Et} {σ : St} {z : Rs} {x0 : Int32} (e : f_X8_isForm x0 σ = some z) : RM l ε yX8_isForm cX8_isForm 1 (some .boolean) 0 0 0 [.int x0] (WX ε σ) (PI ε z) := RM.of (by decide) (Nat.le_of_ble_eq_true rfl) (fun κ C K => tf_X8_isForm C K x0 σ e)
def b_X8_isWithin_14 (t0 : Int32) (σ : St) : Option Rs := gz t0 (some (t0, σ))
set_option maxRecDepth 10000 in
set_option maxHeartbeats 1000000 in
theorem t_X8_isWithin_14 {ε : Et} {κ : Kt} {z : Rs} (C : Cx ε κ cX8_isWithin 2 RX8 0) (K : Ret ε κ cX8_isWithin (some .boolean) 0 0 (PI ε z)) (t0 : Int32) (σ : St) (ok : b_X8_isWithin_14 t0 σ = some z) : G ε κ 0 0 14 [] [.int t0] (WX ε σ) := by
  unfold b_X8_isWithin_14 at ok
  obtain ⟨z1, ok⟩ := gz_ok ok
  exact K.2 .boolean _ _ _ _ rfl dX8_isWithin_14 (nar_b z1) (pi_ok ok)
def b_X8_isWithin_13 (σ : St) : Option Rs := b_X8_isWithin_14 (0 : Int32) σ
set_option maxRecDepth 10000 in
set_option maxHeartbeats 1000000 in
theorem t_X8_isWithin_13 {ε : Et} {κ : Kt} {z : Rs} (C : Cx ε κ cX8_isWithin 2 RX8 0) (K : Ret ε κ cX8_isWithin (some .boolean) 0 0 (PI ε z)) (σ : St) (ok : b_X8_isWithin_13 σ = some z) : G ε κ 0 0 13 [] [] (WX ε σ) := by
  unfold b_X8_isWithin_13 at ok
  refine g_iconst (v := 0) C dX8_isWithin_13 (by decide) ?_
  exact t_X8_isWithin_14 C K _ _ ok
def f_X8_isWithin (x0 : Int32) (x1 : Int32) (σ : St) : Option Rs := (if x0 < 0 then b_X8_isWithin_13 σ else (if x1 < x0 then b_X8_isWithin_13 σ else b_X8_isWithin_14 (1 : Int32) σ))
set_option maxRecDepth 10000 in
set_option maxHeartbeats 1000000 in
theorem tf_X8_isWithin {ε : Et} {κ : Kt} {z : Rs} (C : Cx ε κ cX8_isWithin 2 RX8 0) (K : Ret ε κ cX8_isWithin (some .boolean) 0 0 (PI ε z)) (x0 : Int32) (x1 : Int32) (σ : St) (ok : f_X8_isWithin x0 x1 σ = some z) : G ε κ 0 0 0 [(0, .int x0), (1, .int x1)] [] (WX ε σ) := by
  unfold f_X8_isWithin at ok
  refine g_iload_n C dX8_isWithin_0 rfl 0 rfl ?_
  refine g_if_lt (tgt := 13) C dX8_isWithin_1 (by decide) (fun c1 => ?_) (fun c1 => ?_)
  · replace ok := ok_t c1 ok
    refine g_pick (lv' := []) ?_ [] rfl
    exact t_X8_isWithin_13 C K _ ok
  · replace ok := ok_f c1 ok
    refine g_iload_n C dX8_isWithin_4 rfl 0 rfl ?_
    refine g_iload_n C dX8_isWithin_5 rfl 1 rfl ?_
    refine g_icmp_gt (tgt := 13) C dX8_isWithin_6 (by decide) (fun c2 => ?_) (fun c2 => ?_)
    · replace ok := ok_t c2 ok
      refine g_pick (lv' := []) ?_ [] rfl
      exact t_X8_isWithin_13 C K _ ok
    · replace ok := ok_f c2 ok
      refine g_iconst (v := 1) C dX8_isWithin_9 (by decide) ?_
      refine g_goto (tgt := 14) C dX8_isWithin_10 (by decide) ?_
      refine g_pick (lv' := []) ?_ [] rfl
      exact t_X8_isWithin_14 C K _ _ ok
theorem c_X8_isWithin {l : Launch} {ε : Et} {σ : St} {z : Rs} {x0 : Int32} {x1 : Int32} (e : f_X8_isWithin x0 x1 σ = some z) : RM l ε yX8_isWithin cX8_isWithin 2 (some .boolean) 0 0 0 [.int x0, .int x1] (WX ε σ) (PI ε z) := RM.of (by decide) (Nat.le_of_ble_eq_true rfl) (fun κ C K => tf_X8_isWithin C K x0 x1 σ e)
end
section
def b_X4_at_31 (p0 : Nat) (t0 : Int32) (σ : St) : Option Rs := some (t0, σ)
set_option maxRecDepth 10000 in
set_option maxHeartbeats 1000000 in
theorem t_X4_at_31 {ε : Et} {κ : Kt} {z : Rs} (p0 : Nat) (h_p0 : Rw p0) (C : Cx ε κ cX4_at 2 RX4 0) (K : Ret ε κ cX4_at (some .int) 0 0 (PI ε z)) (t0 : Int32) (σ : St) (ok : b_X4_at_31 p0 t0 σ = some z) : G ε κ 0 0 31 [] [.int t0] (WX ε σ) := by
  unfold b_X4_at_31 at ok
  exact K.2 .int _ _ _ _ rfl dX4_at_31 rfl (pi_ok ok)
def b_X4_at_30 (p0 : Nat) (σ : St) : Option Rs := b_X4_at_31 p0 (-1 : Int32) σ
set_option maxRecDepth 10000 in
set_option maxHeartbeats 1000000 in
theorem t_X4_at_30 {ε : Et} {κ : Kt} {z : Rs} (p0 : Nat) (h_p0 : Rw p0) (C : Cx ε κ cX4_at 2 RX4 0) (K : Ret ε κ cX4_at (some .int) 0 0 (PI ε z)) (σ : St) (ok : b_X4_at_30 p0 σ = some z) : G ε κ 0 0 30 [] [] (WX ε σ) := by
  unfold b_X4_at_30 at ok
  refine g_iconst (v := -1) C dX4_at_30 (by decide) ?_
  exact t_X4_at_31 p0 h_p0 C K _ _ ok
def f_X4_at (p0 : Nat) (x1 : Int32) (σ : St) : Option Rs := (if x1 < 0 then b_X4_at_30 p0 σ else (if (σ.1 p0 1) ≤ x1 then b_X4_at_30 p0 σ else (if (nI (ln (p0 + 1))) ≤ x1 then b_X4_at_30 p0 σ else gd (inb x1 (ln (p0 + 1))) (b_X4_at_31 p0 (σ.2.1 (p0 + 1) x1.toNatClampNeg) σ))))
set_option maxRecDepth 10000 in
set_option maxHeartbeats 1000000 in
theorem tf_X4_at {ε : Et} {κ : Kt} {z : Rs} (p0 : Nat) (h_p0 : Rw p0) (C : Cx ε κ cX4_at 2 RX4 0) (K : Ret ε κ cX4_at (some .int) 0 0 (PI ε z)) (x1 : Int32) (σ : St) (ok : f_X4_at p0 x1 σ = some z) : G ε κ 0 0 0 [(0, .ref (ad ε p0)), (1, .int x1)] [] (WX ε σ) := by
  unfold f_X4_at at ok
  refine g_iload_n C dX4_at_0 rfl 1 rfl ?_
  refine g_if_lt (tgt := 30) C dX4_at_1 (by decide) (fun c1 => ?_) (fun c1 => ?_)
  · replace ok := ok_t c1 ok
    refine g_pick (lv' := []) ?_ [] rfl
    exact t_X4_at_30 p0 h_p0 C K _ ok
  · replace ok := ok_f c1 ok
    refine g_iload_n C dX4_at_4 rfl 1 rfl ?_
    refine g_aload_n C dX4_at_5 rfl 0 rfl ?_
    refine q_X4_21 C h_p0 dX4_at_6 ?_
    refine g_icmp_ge (tgt := 30) C dX4_at_9 (by decide) (fun c2 => ?_) (fun c2 => ?_)
    · replace ok := ok_t c2 ok
      refine g_pick (lv' := []) ?_ [] rfl
      exact t_X4_at_30 p0 h_p0 C K _ ok
    · replace ok := ok_f c2 ok
      refine g_iload_n C dX4_at_12 rfl 1 rfl ?_
      refine g_aload_n C dX4_at_13 rfl 0 rfl ?_
      refine q_X4_15 C h_p0 dX4_at_14 ?_
      refine q_len C (ai_rw h_p0) dX4_at_17 ?_
      refine g_icmp_ge (tgt := 30) C dX4_at_18 (by decide) (fun c3 => ?_) (fun c3 => ?_)
      · replace ok := ok_t c3 ok
        refine g_pick (lv' := []) ?_ [] rfl
        exact t_X4_at_30 p0 h_p0 C K _ ok
      · replace ok := ok_f c3 ok
        refine g_aload_n C dX4_at_21 rfl 0 rfl ?_
        refine q_X4_15 C h_p0 dX4_at_22 ?_
        refine g_iload_n C dX4_at_25 rfl 1 rfl ?_
        obtain ⟨h4, ok⟩ := gd_ok ok
        refine q_ald C (ai_rw h_p0) h4 dX4_at_26 ?_
        refine g_goto (tgt := 31) C dX4_at_27 (by decide) ?_
        refine g_pick (lv' := []) ?_ [] rfl
        exact t_X4_at_31 p0 h_p0 C K _ _ ok
theorem c_X4_at {l : Launch} {ε : Et} {σ : St} {z : Rs} {p0 : Nat} {x1 : Int32} (h_p0 : Rw p0) (e : f_X4_at p0 x1 σ = some z) : RM l ε yX4_at cX4_at 2 (some .int) 0 0 0 [.ref (ad ε p0), .int x1] (WX ε σ) (PI ε z) := RM.of (by decide) (Nat.le_of_ble_eq_true rfl) (fun κ C K => tf_X4_at p0 h_p0 C K x1 σ e)
def b_X4_isOfBases_16 (p0 : Nat) (σ : St) : Option Rs := gz (0 : Int32) (some ((0 : Int32), σ))
set_option maxRecDepth 10000 in
set_option maxHeartbeats 1000000 in
theorem t_X4_isOfBases_16 {ε : Et} {κ : Kt} {z : Rs} (p0 : Nat) (h_p0 : Rw p0) (C : Cx ε κ cX4_isOfBases 4 RX4 1) (K : Ret ε κ cX4_isOfBases (some .boolean) 0 0 (PI ε z)) (σ : St) (ok : b_X4_isOfBases_16 p0 σ = some z) : G ε κ 0 0 16 [] [] (WX ε σ) := by
  unfold b_X4_isOfBases_16 at ok
  refine g_iconst (v := 0) C dX4_isOfBases_16 (by decide) ?_
  obtain ⟨z1, ok⟩ := gz_ok ok
  exact K.2 .boolean _ _ _ _ rfl dX4_isOfBases_17 (nar_b z1) (pi_ok ok)
def b_X4_isOfBases_20 (p0 : Nat) (k20 : Int32 → St → Option Rs) (x3 : Int32) (σ : St) : Option Rs := (if (σ.1 p0 1) ≤ x3 then gz (1 : Int32) (some ((1 : Int32), σ)) else bd (f_X4_at p0 x3 σ) (fun r3 s4 => bd (f_X8_isBase r3 s4) (fun r6 s7 => (if r6 = 0 then gz (0 : Int32) (some ((0 : Int32), s7)) else nx (x3 + (1 : Int32)) (fun y10 => k20 y10 s7)))))
set_option maxRecDepth 10000 in
set_option maxHeartbeats 1000000 in
theorem t_X4_isOfBases_20 {ε : Et} {κ : Kt} {z : Rs} (p0 : Nat) (h_p0 : Rw p0) (C : Cx ε κ cX4_isOfBases 4 RX4 1) (K : Ret ε κ cX4_isOfBases (some .boolean) 0 0 (PI ε z)) (k20 : Int32 → St → Option Rs) (g20 : ∀ (x3 : Int32) (σ : St), k20 x3 σ = some z → G ε κ 0 0 20 [(0, .ref (ad ε p0)), (3, .int x3)] [] (WX ε σ)) (x3 : Int32) (σ : St) (ok : b_X4_isOfBases_20 p0 k20 x3 σ = some z) : G ε κ 0 0 20 [(0, .ref (ad ε p0)), (3, .int x3)] [] (WX ε σ) := by
  unfold b_X4_isOfBases_20 at ok
  refine g_iload_n C dX4_isOfBases_20 rfl 1 rfl ?_
  refine g_aload_n C dX4_isOfBases_21 rfl 0 rfl ?_
  refine q_X4_21 C h_p0 dX4_isOfBases_22 ?_
  refine g_icmp_ge (tgt := 47) C dX4_isOfBases_25 (by decide) (fun c1 => ?_) (fun c1 => ?_)
  · replace ok := ok_t c1 ok
    refine g_iconst (v := 1) C dX4_isOfBases_47 (by decide) ?_
    obtain ⟨z2, ok⟩ := gz_ok ok
    exact K.2 .boolean _ _ _ _ rfl dX4_isOfBases_48 (nar_b z2) (pi_ok ok)
  · replace ok := ok_f c1 ok
    refine g_aload_n C dX4_isOfBases_28 rfl 0 rfl ?_
    refine g_iload_n C dX4_isOfBases_29 rfl 1 rfl ?_
    obtain ⟨r3, s4, e5, ok⟩ := bd_ok ok
    refine q_cI C [.int x3] (c_X4_at h_p0 e5) wv_X4_31 (by decide) (rw_lt h_p0) (wx_X4 h_p0) rfl rfl rfl (Nat.le_of_ble_eq_true rfl) dX4_isOfBases_30 ?_
    obtain ⟨r6, s7, e8, ok⟩ := bd_ok ok
    refine q_nI C [.int r3] (c_X8_isBase e8) wv_X4_39 (by decide) rfl rfl (Nat.le_of_ble_eq_true rfl) dX4_isOfBases_33 ?_
    refine g_if_ne (tgt := 41) C dX4_isOfBases_36 (by decide) (fun c9 => ?_) (fun c9 => ?_)
    · replace ok := ok_f c9 ok
      obtain ⟨y10, e11⟩ : ∃ y : Int32, y = (x3 + (1 : Int32)) := ⟨_, rfl⟩
      replace ok := nx_ok ok y10 e11
      refine g_iinc (v := y10) C [(3, .int y10), (0, .ref (ad ε p0))] dX4_isOfBases_41 1 rfl (by rw [e11]; rfl) (by decide) rfl ?_
      refine g_goto (tgt := 20) C dX4_isOfBases_44 (by decide) ?_
      refine g_pick (lv' := [(0, .ref (ad ε p0)), (3, .int y10)]) ?_ [1, 0] rfl
      exact g20 _ _ ok
    · replace ok := ok_t c9 ok
      refine g_iconst (v := 0) C dX4_isOfBases_39 (by decide) ?_
      obtain ⟨z12, ok⟩ := gz_ok ok
      exact K.2 .boolean _ _ _ _ rfl dX4_isOfBases_40 (nar_b z12) (pi_ok ok)
def l_X4_isOfBases_20 (p0 : Nat) : Nat → Int32 → St → Option Rs
  | 0 => fun _ _ => none
  | n + 1 => fun x3 σ => b_X4_isOfBases_20 p0 (l_X4_isOfBases_20 p0 n) x3 σ
theorem tl_X4_isOfBases_20 {ε : Et} {κ : Kt} {z : Rs} (p0 : Nat) (h_p0 : Rw p0) (C : Cx ε κ cX4_isOfBases 4 RX4 1) (K : Ret ε κ cX4_isOfBases (some .boolean) 0 0 (PI ε z)) : ∀ (n : Nat) (x3 : Int32) (σ : St), l_X4_isOfBases_20 p0 n x3 σ = some z → G ε κ 0 0 20 [(0, .ref (ad ε p0)), (3, .int x3)] [] (WX ε σ) := by
  intro n
  induction n with
  | zero =>
    intro x3 σ ok
    cases ok
  | succ n ih =>
    intro x3 σ ok
    exact t_X4_isOfBases_20 p0 h_p0 C K (l_X4_isOfBases_20 p0 n) ih x3 σ ok
def f_X4_isOfBases (p0 : Nat) (x1 : Int32) (x2 : Int32) (σ : St) : Option Rs := (if (σ.1 p0 1) < x1 then b_X4_isOfBases_16 p0 σ else (if (σ.1 p0 1) ≤ x2 then l_X4_isOfBases_20 p0 FU (0 : Int32) σ else b_X4_isOfBases_16 p0 σ))
set_option maxRecDepth 10000 in
set_option maxHeartbeats 1000000 in
theorem tf_X4_isOfBases {ε : Et} {κ : Kt} {z : Rs} (p0 : Nat) (h_p0 : Rw p0) (C : Cx ε κ cX4_isOfBases 4 RX4 1) (K : Ret ε κ cX4_isOfBases (some .boolean) 0 0 (PI ε z)) (x1 : Int32) (x2 : Int32) (σ : St) (ok : f_X4_isOfBases p0 x1 x2 σ = some z) : G ε κ 0 0 0 [(0, .ref (ad ε p0)), (1, .int x1), (2, .int x2)] [] (WX ε σ) := by
  unfold f_X4_isOfBases at ok
  refine g_aload_n C dX4_isOfBases_0 rfl 0 rfl ?_
  refine q_X4_21 C h_p0 dX4_isOfBases_1 ?_
  refine g_iload_n C dX4_isOfBases_4 rfl 1 rfl ?_
  refine g_icmp_lt (tgt := 16) C dX4_isOfBases_5 (by decide) (fun c1 => ?_) (fun c1 => ?_)
  · replace ok := ok_t c1 ok
    refine g_pick (lv' := []) ?_ [] rfl
    exact t_X4_isOfBases_16 p0 h_p0 C K _ ok
  · replace ok := ok_f c1 ok
    refine g_aload_n C dX4_isOfBases_8 rfl 0 rfl ?_
    refine q_X4_21 C h_p0 dX4_isOfBases_9 ?_
    refine g_iload_n C dX4_isOfBases_12 rfl 2 rfl ?_
    refine g_icmp_le (tgt := 18) C dX4_isOfBases_13 (by decide) (fun c2 => ?_) (fun c2 => ?_)
    · replace ok := ok_t c2 ok
      refine g_iconst (v := 0) C dX4_isOfBases_18 (by decide) ?_
      refine g_istore_n C [(3, .int (0 : Int32)), (0, .ref (ad ε p0)), (1, .int x1), (2, .int x2)] dX4_isOfBases_19 rfl (by decide) rfl ?_
      refine g_pick (lv' := [(0, .ref (ad ε p0)), (3, .int (0 : Int32))]) ?_ [1, 0] rfl
      exact tl_X4_isOfBases_20 p0 h_p0 C K FU _ _ ok
    · replace ok := ok_f c2 ok
      refine g_pick (lv' := []) ?_ [] rfl
      exact t_X4_isOfBases_16 p0 h_p0 C K _ ok
theorem c_X4_isOfBases {l : Launch} {ε : Et} {σ : St} {z : Rs} {p0 : Nat} {x1 : Int32} {x2 : Int32} (h_p0 : Rw p0) (e : f_X4_isOfBases p0 x1 x2 σ = some z) : RM l ε yX4_isOfBases cX4_isOfBases 4 (some .boolean) 1 0 0 [.ref (ad ε p0), .int x1, .int x2] (WX ε σ) (PI ε z) := RM.of (by decide) (Nat.le_of_ble_eq_true rfl) (fun κ C K => tf_X4_isOfBases p0 h_p0 C K x1 x2 σ e)
def f_X4_size (p0 : Nat) (σ : St) : Option Rs := some ((σ.1 p0 1), σ)
set_option maxRecDepth 10000 in
set_option maxHeartbeats 1000000 in
theorem tf_X4_size {ε : Et} {κ : Kt} {z : Rs} (p0 : Nat) (h_p0 : Rw p0) (C : Cx ε κ cX4_size 1 RX4 0) (K : Ret ε κ cX4_size (some .int) 0 0 (PI ε z)) (σ : St) (ok : f_X4_size p0 σ = some z) : G ε κ 0 0 0 [(0, .ref (ad ε p0))] [] (WX ε σ) := by
  unfold f_X4_size at ok
  refine g_aload_n C dX4_size_0 rfl 0 rfl ?_
  refine q_X4_21 C h_p0 dX4_size_1 ?_
  exact K.2 .int _ _ _ _ rfl dX4_size_4 rfl (pi_ok ok)
theorem c_X4_size {l : Launch} {ε : Et} {σ : St} {z : Rs} {p0 : Nat} (h_p0 : Rw p0) (e : f_X4_size p0 σ = some z) : RM l ε yX4_size cX4_size 1 (some .int) 0 0 0 [.ref (ad ε p0)] (WX ε σ) (PI ε z) := RM.of (by decide) (Nat.le_of_ble_eq_true rfl) (fun κ C K => tf_X4_size p0 h_p0 C K σ e)
def f_X4_clear (p0 : Nat) (σ : St) : Option Rs := nx (sS σ p0 1 (0 : Int32)) (fun s1 => some ((0 : Int32), s1))
set_option maxRecDepth 10000 in
set_option maxHeartbeats 1000000 in
theorem tf_X4_clear {ε : Et} {κ : Kt} {z : Rs} (p0 : Nat) (h_p0 : Rw p0) (C : Cx ε κ cX4_clear 1 RX4 0) (K : Ret ε κ cX4_clear none 0 0 (PV ε z)) (σ : St) (ok : f_X4_clear p0 σ = some z) : G ε κ 0 0 0 [(0, .ref (ad ε p0))] [] (WX ε σ) := by
  unfold f_X4_clear at ok
  refine g_aload_n C dX4_clear_0 rfl 0 rfl ?_
  refine g_iconst (v := 0) C dX4_clear_1 (by decide) ?_
  refine p_X4_21 C h_p0 dX4_clear_2 (fun s1 e2 => ?_)
  replace ok := nx_ok ok s1 e2
  exact K.1 rfl _ _ _ dX4_clear_5 (pv_ok ok)
theorem c_X4_clear {l : Launch} {ε : Et} {σ : St} {z : Rs} {p0 : Nat} (h_p0 : Rw p0) (e : f_X4_clear p0 σ = some z) : RM l ε yX4_clear cX4_clear 1 none 0 0 0 [.ref (ad ε p0)] (WX ε σ) (PV ε z) := RM.of (by decide) (Nat.le_of_ble_eq_true rfl) (fun κ C K => tf_X4_clear p0 h_p0 C K σ e)
def b_X4_add_39 (p0 : Nat) (σ : St) : Option Rs := some ((0 : Int32), σ)
set_option maxRecDepth 10000 in
set_option maxHeartbeats 1000000 in
theorem t_X4_add_39 {ε : Et} {κ : Kt} {z : Rs} (p0 : Nat) (h_p0 : Rw p0) (C : Cx ε κ cX4_add 2 RX4 0) (K : Ret ε κ cX4_add none 0 0 (PV ε z)) (σ : St) (ok : b_X4_add_39 p0 σ = some z) : G ε κ 0 0 39 [] [] (WX ε σ) := by
  unfold b_X4_add_39 at ok
  exact K.1 rfl _ _ _ dX4_add_39 (pv_ok ok)
def f_X4_add (p0 : Nat) (x1 : Int32) (σ : St) : Option Rs := (if (σ.1 p0 1) < 0 then b_X4_add_39 p0 σ else (if (nI (ln (p0 + 1))) ≤ (σ.1 p0 1) then b_X4_add_39 p0 σ else gd (inb (σ.1 p0 1) (ln (p0 + 1))) (nx (sA σ (p0 + 1) (σ.1 p0 1) x1) (fun s4 => nx (sS s4 p0 1 ((s4.1 p0 1) + (1 : Int32))) (fun s6 => b_X4_add_39 p0 s6)))))
set_option maxRecDepth 10000 in
set_option maxHeartbeats 1000000 in
theorem tf_X4_add {ε : Et} {κ : Kt} {z : Rs} (p0 : Nat) (h_p0 : Rw p0) (C : Cx ε κ cX4_add 2 RX4 0) (K : Ret ε κ cX4_add none 0 0 (PV ε z)) (x1 : Int32) (σ : St) (ok : f_X4_add p0 x1 σ = some z) : G ε κ 0 0 0 [(0, .ref (ad ε p0)), (1, .int x1)] [] (WX ε σ) := by
  unfold f_X4_add at ok
  refine g_aload_n C dX4_add_0 rfl 0 rfl ?_
  refine q_X4_21 C h_p0 dX4_add_1 ?_
  refine g_if_lt (tgt := 39) C dX4_add_4 (by decide) (fun c1 => ?_) (fun c1 => ?_)
  · replace ok := ok_t c1 ok
    refine g_pick (lv' := []) ?_ [] rfl
    exact t_X4_add_39 p0 h_p0 C K _ ok
  · replace ok := ok_f c1 ok
    refine g_aload_n C dX4_add_7 rfl 0 rfl ?_
    refine q_X4_21 C h_p0 dX4_add_8 ?_
    refine g_aload_n C dX4_add_11 rfl 0 rfl ?_
    refine q_X4_15 C h_p0 dX4_add_12 ?_
    refine q_len C (ai_rw h_p0) dX4_add_15 ?_
    refine g_icmp_ge (tgt := 39) C dX4_add_16 (by decide) (fun c2 => ?_) (fun c2 => ?_)
    · replace ok := ok_t c2 ok
      refine g_pick (lv' := []) ?_ [] rfl
      exact t_X4_add_39 p0 h_p0 C K _ ok
    · replace ok := ok_f c2 ok
      refine g_aload_n C dX4_add_19 rfl 0 rfl ?_
      refine q_X4_15 C h_p0 dX4_add_20 ?_
      refine g_aload_n C dX4_add_23 rfl 0 rfl ?_
      refine q_X4_21 C h_p0 dX4_add_24 ?_
      refine g_iload_n C dX4_add_27 rfl 1 rfl ?_
      obtain ⟨h3, ok⟩ := gd_ok ok
      refine q_ast C (ai_rw h_p0) h3 dX4_add_28 (fun s4 e5 => ?_)
      replace ok := nx_ok ok s4 e5
      refine g_aload_n C dX4_add_29 rfl 0 rfl ?_
      refine g_dup C dX4_add_30 rfl ?_
      refine q_X4_21 C h_p0 dX4_add_31 ?_
      refine g_iconst (v := 1) C dX4_add_34 (by decide) ?_
      refine g_iadd C dX4_add_35 ?_
      refine p_X4_21 C h_p0 dX4_add_36 (fun s6 e7 => ?_)
      replace ok := nx_ok ok s6 e7
      refine g_pick (lv' := []) ?_ [] rfl
      exact t_X4_add_39 p0 h_p0 C K _ ok
theorem c_X4_add {l : Launch} {ε : Et} {σ : St} {z : Rs} {p0 : Nat} {x1 : Int32} (h_p0 : Rw p0) (e : f_X4_add p0 x1 σ = some z) : RM l ε yX4_add cX4_add 2 none 0 0 0 [.ref (ad ε p0), .int x1] (WX ε σ) (PV ε z) := RM.of (by decide) (Nat.le_of_ble_eq_true rfl) (fun κ C K => tf_X4_add p0 h_p0 C K x1 σ e)
def f_X4_room (p0 : Nat) (σ : St) : Option Rs := some (((nI (ln (p0 + 1))) - (σ.1 p0 1)), σ)
set_option maxRecDepth 10000 in
set_option maxHeartbeats 1000000 in
theorem tf_X4_room {ε : Et} {κ : Kt} {z : Rs} (p0 : Nat) (h_p0 : Rw p0) (C : Cx ε κ cX4_room 1 RX4 0) (K : Ret ε κ cX4_room (some .int) 0 0 (PI ε z)) (σ : St) (ok : f_X4_room p0 σ = some z) : G ε κ 0 0 0 [(0, .ref (ad ε p0))] [] (WX ε σ) := by
  unfold f_X4_room at ok
  refine g_aload_n C dX4_room_0 rfl 0 rfl ?_
  refine q_X4_15 C h_p0 dX4_room_1 ?_
  refine q_len C (ai_rw h_p0) dX4_room_4 ?_
  refine g_aload_n C dX4_room_5 rfl 0 rfl ?_
  refine q_X4_21 C h_p0 dX4_room_6 ?_
  refine g_isub C dX4_room_9 ?_
  exact K.2 .int _ _ _ _ rfl dX4_room_10 rfl (pi_ok ok)
theorem c_X4_room {l : Launch} {ε : Et} {σ : St} {z : Rs} {p0 : Nat} (h_p0 : Rw p0) (e : f_X4_room p0 σ = some z) : RM l ε yX4_room cX4_room 1 (some .int) 0 0 0 [.ref (ad ε p0)] (WX ε σ) (PI ε z) := RM.of (by decide) (Nat.le_of_ble_eq_true rfl) (fun κ C K => tf_X4_room p0 h_p0 C K σ e)
def b_X4_copy_6 (p0 : Nat) (p1 : Nat) (k6 : Int32 → St → Option Rs) (x2 : Int32) (σ : St) : Option Rs := bd (f_X4_size p1 σ) (fun r1 s2 => (if r1 ≤ x2 then some ((0 : Int32), s2) else bd (f_X4_at p1 x2 s2) (fun r5 s6 => bd (f_X4_add p0 r5 s6) (fun r8 s9 => nx (x2 + (1 : Int32)) (fun y11 => k6 y11 s9)))))
set_option maxRecDepth 10000 in
set_option maxHeartbeats 1000000 in
theorem t_X4_copy_6 {ε : Et} {κ : Kt} {z : Rs} (p0 : Nat) (p1 : Nat) (h_p0 : Rw p0) (h_p1 : Rw p1) (C : Cx ε κ cX4_copy 3 RX4 1) (K : Ret ε κ cX4_copy none 0 0 (PV ε z)) (k6 : Int32 → St → Option Rs) (g6 : ∀ (x2 : Int32) (σ : St), k6 x2 σ = some z → G ε κ 0 0 6 [(0, .ref (ad ε p0)), (1, .ref (ad ε p1)), (2, .int x2)] [] (WX ε σ)) (x2 : Int32) (σ : St) (ok : b_X4_copy_6 p0 p1 k6 x2 σ = some z) : G ε κ 0 0 6 [(0, .ref (ad ε p0)), (1, .ref (ad ε p1)), (2, .int x2)] [] (WX ε σ) := by
  unfold b_X4_copy_6 at ok
  refine g_iload_n C dX4_copy_6 rfl 2 rfl ?_
  refine g_aload_n C dX4_copy_7 rfl 1 rfl ?_
  obtain ⟨r1, s2, e3, ok⟩ := bd_ok ok
  refine q_cI C [] (c_X4_size h_p1 e3) wv_X4_28 (by decide) (rw_lt h_p1) (wx_X4 h_p1) rfl rfl rfl (Nat.le_of_ble_eq_true rfl) dX4_copy_8 ?_
  refine g_icmp_ge (tgt := 29) C dX4_copy_11 (by decide) (fun c4 => ?_) (fun c4 => ?_)
  · replace ok := ok_t c4 ok
    exact K.1 rfl _ _ _ dX4_copy_29 (pv_ok ok)
  · replace ok := ok_f c4 ok
    refine g_aload_n C dX4_copy_14 rfl 0 rfl ?_
    refine g_aload_n C dX4_copy_15 rfl 1 rfl ?_
    refine g_iload_n C dX4_copy_16 rfl 2 rfl ?_
    obtain ⟨r5, s6, e7, ok⟩ := bd_ok ok
    refine q_cI C [.int x2] (c_X4_at h_p1 e7) wv_X4_31 (by decide) (rw_lt h_p1) (wx_X4 h_p1) rfl rfl rfl (Nat.le_of_ble_eq_true rfl) dX4_copy_17 ?_
    obtain ⟨r8, s9, e10, ok⟩ := bd_ok ok
    refine q_cV C [.int r5] (c_X4_add h_p0 e10) wv_X4_35 (by decide) (rw_lt h_p0) (wx_X4 h_p0) rfl rfl rfl (Nat.le_of_ble_eq_true rfl) dX4_copy_20 ?_
    obtain ⟨y11, e12⟩ : ∃ y : Int32, y = (x2 + (1 : Int32)) := ⟨_, rfl⟩
    replace ok := nx_ok ok y11 e12
    refine g_iinc (v := y11) C [(2, .int y11), (0, .ref (ad ε p0)), (1, .ref (ad ε p1))] dX4_copy_23 2 rfl (by rw [e12]; rfl) (by decide) rfl ?_
    refine g_goto (tgt := 6) C dX4_copy_26 (by decide) ?_
    refine g_pick (lv' := [(0, .ref (ad ε p0)), (1, .ref (ad ε p1)), (2, .int y11)]) ?_ [1, 2, 0] rfl
    exact g6 _ _ ok
def l_X4_copy_6 (p0 : Nat) (p1 : Nat) : Nat → Int32 → St → Option Rs
  | 0 => fun _ _ => none
  | n + 1 => fun x2 σ => b_X4_copy_6 p0 p1 (l_X4_copy_6 p0 p1 n) x2 σ
theorem tl_X4_copy_6 {ε : Et} {κ : Kt} {z : Rs} (p0 : Nat) (p1 : Nat) (h_p0 : Rw p0) (h_p1 : Rw p1) (C : Cx ε κ cX4_copy 3 RX4 1) (K : Ret ε κ cX4_copy none 0 0 (PV ε z)) : ∀ (n : Nat) (x2 : Int32) (σ : St), l_X4_copy_6 p0 p1 n x2 σ = some z → G ε κ 0 0 6 [(0, .ref (ad ε p0)), (1, .ref (ad ε p1)), (2, .int x2)] [] (WX ε σ) := by
  intro n
  induction n with
  | zero =>
    intro x2 σ ok
    cases ok
  | succ n ih =>
    intro x2 σ ok
    exact t_X4_copy_6 p0 p1 h_p0 h_p1 C K (l_X4_copy_6 p0 p1 n) ih x2 σ ok
def f_X4_copy (p0 : Nat) (p1 : Nat) (σ : St) : Option Rs := bd (f_X4_clear p0 σ) (fun r1 s2 => l_X4_copy_6 p0 p1 FU (0 : Int32) s2)
set_option maxRecDepth 10000 in
set_option maxHeartbeats 1000000 in
theorem tf_X4_copy {ε : Et} {κ : Kt} {z : Rs} (p0 : Nat) (p1 : Nat) (h_p0 : Rw p0) (h_p1 : Rw p1) (C : Cx ε κ cX4_copy 3 RX4 1) (K : Ret ε κ cX4_copy none 0 0 (PV ε z)) (σ : St) (ok : f_X4_copy p0 p1 σ = some z) : G ε κ 0 0 0 [(0, .ref (ad ε p0)), (1, .ref (ad ε p1))] [] (WX ε σ) := by
  unfold f_X4_copy at ok
  refine g_aload_n C dX4_copy_0 rfl 0 rfl ?_
  obtain ⟨r1, s2, e3, ok⟩ := bd_ok ok
  refine q_cV C [] (c_X4_clear h_p0 e3) wv_X4_25 (by decide) (rw_lt h_p0) (wx_X4 h_p0) rfl rfl rfl (Nat.le_of_ble_eq_true rfl) dX4_copy_1 ?_
  refine g_iconst (v := 0) C dX4_copy_4 (by decide) ?_
  refine g_istore_n C [(2, .int (0 : Int32)), (0, .ref (ad ε p0)), (1, .ref (ad ε p1))] dX4_copy_5 rfl (by decide) rfl ?_
  refine g_pick (lv' := [(0, .ref (ad ε p0)), (1, .ref (ad ε p1)), (2, .int (0 : Int32))]) ?_ [1, 2, 0] rfl
  exact tl_X4_copy_6 p0 p1 h_p0 h_p1 C K FU _ _ ok
theorem c_X4_copy {l : Launch} {ε : Et} {σ : St} {z : Rs} {p0 : Nat} {p1 : Nat} (h_p0 : Rw p0) (h_p1 : Rw p1) (e : f_X4_copy p0 p1 σ = some z) : RM l ε yX4_copy cX4_copy 3 none 1 0 0 [.ref (ad ε p0), .ref (ad ε p1)] (WX ε σ) (PV ε z) := RM.of (by decide) (Nat.le_of_ble_eq_true rfl) (fun κ C K => tf_X4_copy p0 p1 h_p0 h_p1 C K σ e)
end
