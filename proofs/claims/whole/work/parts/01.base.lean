-- ===== PART A: goes FIRST, ahead of the names: the tables' words, and 'selects' of the private methods out of them =====
/-- a private method of a class that the tables say can be made, by its rows of tables_1 -/
def lw_okq (q : MethodName × Nat) : Prop := (q.1.cls ≠ "java/lang/invoke/MethodHandle" ∧ q.1.cls ≠ "java/lang/invoke/VarHandle") ∧ Cond.instantiable q.1.cls q.2 ∈ tables_1 ∧ Cond.privateMethod q.1 ∈ tables_1 ∧ Cond.instanceMethod q.1 ∈ tables_1
theorem lw_p0 : lw_okq (⟨"SoapWorks$Tape", "readWord", "()V"⟩, 10) := ⟨⟨by decide +kernel, by decide +kernel⟩, List.mem_of_getElem? (i := 36) (by decide +kernel), List.mem_of_getElem? (i := 476) (by decide +kernel), List.mem_of_getElem? (i := 477) (by decide +kernel)⟩
theorem lw_p1 : lw_okq (⟨"SoapWorks$Tape", "readNumber", "()V"⟩, 10) := ⟨⟨by decide +kernel, by decide +kernel⟩, List.mem_of_getElem? (i := 36) (by decide +kernel), List.mem_of_getElem? (i := 486) (by decide +kernel), List.mem_of_getElem? (i := 487) (by decide +kernel)⟩
theorem lw_p2 : lw_okq (⟨"SoapWorks$Tape", "readSign", "()V"⟩, 10) := ⟨⟨by decide +kernel, by decide +kernel⟩, List.mem_of_getElem? (i := 36) (by decide +kernel), List.mem_of_getElem? (i := 490) (by decide +kernel), List.mem_of_getElem? (i := 491) (by decide +kernel)⟩
theorem lw_p3 : lw_okq (⟨"SoapWorks$Reader", "readKind", "()Z"⟩, 5) := ⟨⟨by decide +kernel, by decide +kernel⟩, List.mem_of_getElem? (i := 30) (by decide +kernel), List.mem_of_getElem? (i := 562) (by decide +kernel), List.mem_of_getElem? (i := 563) (by decide +kernel)⟩
theorem lw_p4 : lw_okq (⟨"SoapWorks$Reader", "refuse", "(I)Z"⟩, 5) := ⟨⟨by decide +kernel, by decide +kernel⟩, List.mem_of_getElem? (i := 30) (by decide +kernel), List.mem_of_getElem? (i := 566) (by decide +kernel), List.mem_of_getElem? (i := 567) (by decide +kernel)⟩
theorem lw_p5 : lw_okq (⟨"SoapWorks$Reader", "readNewName", "([JI)Z"⟩, 5) := ⟨⟨by decide +kernel, by decide +kernel⟩, List.mem_of_getElem? (i := 30) (by decide +kernel), List.mem_of_getElem? (i := 571) (by decide +kernel), List.mem_of_getElem? (i := 572) (by decide +kernel)⟩
theorem lw_p6 : lw_okq (⟨"SoapWorks$Reader", "readSign", "(I)Z"⟩, 5) := ⟨⟨by decide +kernel, by decide +kernel⟩, List.mem_of_getElem? (i := 30) (by decide +kernel), List.mem_of_getElem? (i := 580) (by decide +kernel), List.mem_of_getElem? (i := 581) (by decide +kernel)⟩
theorem lw_p7 : lw_okq (⟨"SoapWorks$Reader", "readPerson", "()Z"⟩, 5) := ⟨⟨by decide +kernel, by decide +kernel⟩, List.mem_of_getElem? (i := 30) (by decide +kernel), List.mem_of_getElem? (i := 584) (by decide +kernel), List.mem_of_getElem? (i := 585) (by decide +kernel)⟩
theorem lw_p8 : lw_okq (⟨"SoapWorks$Reader", "readKey", "(I)Z"⟩, 5) := ⟨⟨by decide +kernel, by decide +kernel⟩, List.mem_of_getElem? (i := 30) (by decide +kernel), List.mem_of_getElem? (i := 588) (by decide +kernel), List.mem_of_getElem? (i := 589) (by decide +kernel)⟩
theorem lw_p9 : lw_okq (⟨"SoapWorks$Reader", "readPortions", "([II)Z"⟩, 5) := ⟨⟨by decide +kernel, by decide +kernel⟩, List.mem_of_getElem? (i := 30) (by decide +kernel), List.mem_of_getElem? (i := 592) (by decide +kernel), List.mem_of_getElem? (i := 593) (by decide +kernel)⟩
theorem lw_p10 : lw_okq (⟨"SoapWorks$Reader", "knownKind", "()I"⟩, 5) := ⟨⟨by decide +kernel, by decide +kernel⟩, List.mem_of_getElem? (i := 30) (by decide +kernel), List.mem_of_getElem? (i := 596) (by decide +kernel), List.mem_of_getElem? (i := 597) (by decide +kernel)⟩
theorem lw_p11 : lw_okq (⟨"SoapWorks$Reader", "readNumber", "(II)I"⟩, 5) := ⟨⟨by decide +kernel, by decide +kernel⟩, List.mem_of_getElem? (i := 30) (by decide +kernel), List.mem_of_getElem? (i := 600) (by decide +kernel), List.mem_of_getElem? (i := 601) (by decide +kernel)⟩
theorem lw_p12 : lw_okq (⟨"SoapWorks$Reader", "readRule", "()Z"⟩, 5) := ⟨⟨by decide +kernel, by decide +kernel⟩, List.mem_of_getElem? (i := 30) (by decide +kernel), List.mem_of_getElem? (i := 604) (by decide +kernel), List.mem_of_getElem? (i := 605) (by decide +kernel)⟩
theorem lw_p13 : lw_okq (⟨"SoapWorks$Reader", "readKnownKind", "()I"⟩, 5) := ⟨⟨by decide +kernel, by decide +kernel⟩, List.mem_of_getElem? (i := 30) (by decide +kernel), List.mem_of_getElem? (i := 608) (by decide +kernel), List.mem_of_getElem? (i := 609) (by decide +kernel)⟩
theorem lw_p14 : lw_okq (⟨"SoapWorks$Reader", "readBasin", "()Z"⟩, 5) := ⟨⟨by decide +kernel, by decide +kernel⟩, List.mem_of_getElem? (i := 30) (by decide +kernel), List.mem_of_getElem? (i := 616) (by decide +kernel), List.mem_of_getElem? (i := 617) (by decide +kernel)⟩
theorem lw_p15 : lw_okq (⟨"SoapWorks$Reader", "readRises", "()Z"⟩, 5) := ⟨⟨by decide +kernel, by decide +kernel⟩, List.mem_of_getElem? (i := 30) (by decide +kernel), List.mem_of_getElem? (i := 620) (by decide +kernel), List.mem_of_getElem? (i := 621) (by decide +kernel)⟩
def lw_privs_1 : List (MethodName × Nat) := [(⟨"SoapWorks$Tape", "readWord", "()V"⟩, 10), (⟨"SoapWorks$Tape", "readNumber", "()V"⟩, 10), (⟨"SoapWorks$Tape", "readSign", "()V"⟩, 10), (⟨"SoapWorks$Reader", "readKind", "()Z"⟩, 5), (⟨"SoapWorks$Reader", "refuse", "(I)Z"⟩, 5), (⟨"SoapWorks$Reader", "readNewName", "([JI)Z"⟩, 5), (⟨"SoapWorks$Reader", "readSign", "(I)Z"⟩, 5), (⟨"SoapWorks$Reader", "readPerson", "()Z"⟩, 5), (⟨"SoapWorks$Reader", "readKey", "(I)Z"⟩, 5), (⟨"SoapWorks$Reader", "readPortions", "([II)Z"⟩, 5), (⟨"SoapWorks$Reader", "knownKind", "()I"⟩, 5), (⟨"SoapWorks$Reader", "readNumber", "(II)I"⟩, 5), (⟨"SoapWorks$Reader", "readRule", "()Z"⟩, 5), (⟨"SoapWorks$Reader", "readKnownKind", "()I"⟩, 5), (⟨"SoapWorks$Reader", "readBasin", "()Z"⟩, 5), (⟨"SoapWorks$Reader", "readRises", "()Z"⟩, 5)]
theorem lw_r1 : ∀ q ∈ lw_privs_1, lw_okq q := List.forall_mem_cons.mpr ⟨lw_p0, List.forall_mem_cons.mpr ⟨lw_p1, List.forall_mem_cons.mpr ⟨lw_p2, List.forall_mem_cons.mpr ⟨lw_p3, List.forall_mem_cons.mpr ⟨lw_p4, List.forall_mem_cons.mpr ⟨lw_p5, List.forall_mem_cons.mpr ⟨lw_p6, List.forall_mem_cons.mpr ⟨lw_p7, List.forall_mem_cons.mpr ⟨lw_p8, List.forall_mem_cons.mpr ⟨lw_p9, List.forall_mem_cons.mpr ⟨lw_p10, List.forall_mem_cons.mpr ⟨lw_p11, List.forall_mem_cons.mpr ⟨lw_p12, List.forall_mem_cons.mpr ⟨lw_p13, List.forall_mem_cons.mpr ⟨lw_p14, List.forall_mem_cons.mpr ⟨lw_p15, fun _ h => absurd h List.not_mem_nil⟩⟩⟩⟩⟩⟩⟩⟩⟩⟩⟩⟩⟩⟩⟩⟩
theorem lw_p16 : lw_okq (⟨"SoapWorks$Reader", "readFormula", "(II)Z"⟩, 5) := ⟨⟨by decide +kernel, by decide +kernel⟩, List.mem_of_getElem? (i := 30) (by decide +kernel), List.mem_of_getElem? (i := 624) (by decide +kernel), List.mem_of_getElem? (i := 625) (by decide +kernel)⟩
theorem lw_p17 : lw_okq (⟨"SoapWorks$Reader", "readUnit", "(I)Z"⟩, 5) := ⟨⟨by decide +kernel, by decide +kernel⟩, List.mem_of_getElem? (i := 30) (by decide +kernel), List.mem_of_getElem? (i := 628) (by decide +kernel), List.mem_of_getElem? (i := 629) (by decide +kernel)⟩
theorem lw_p18 : lw_okq (⟨"SoapWorks$Reader", "readNot", "(I)Z"⟩, 5) := ⟨⟨by decide +kernel, by decide +kernel⟩, List.mem_of_getElem? (i := 30) (by decide +kernel), List.mem_of_getElem? (i := 636) (by decide +kernel), List.mem_of_getElem? (i := 637) (by decide +kernel)⟩
theorem lw_p19 : lw_okq (⟨"SoapWorks$Reader", "signOfLevel", "(I)I"⟩, 5) := ⟨⟨by decide +kernel, by decide +kernel⟩, List.mem_of_getElem? (i := 30) (by decide +kernel), List.mem_of_getElem? (i := 640) (by decide +kernel), List.mem_of_getElem? (i := 641) (by decide +kernel)⟩
theorem lw_p20 : lw_okq (⟨"SoapWorks$Reader", "readScum", "()Z"⟩, 5) := ⟨⟨by decide +kernel, by decide +kernel⟩, List.mem_of_getElem? (i := 30) (by decide +kernel), List.mem_of_getElem? (i := 644) (by decide +kernel), List.mem_of_getElem? (i := 645) (by decide +kernel)⟩
theorem lw_p21 : lw_okq (⟨"SoapWorks$Reader", "readDraw", "()Z"⟩, 5) := ⟨⟨by decide +kernel, by decide +kernel⟩, List.mem_of_getElem? (i := 30) (by decide +kernel), List.mem_of_getElem? (i := 648) (by decide +kernel), List.mem_of_getElem? (i := 649) (by decide +kernel)⟩
theorem lw_p22 : lw_okq (⟨"SoapWorks", "isSilent", "(I)Z"⟩, 10) := ⟨⟨by decide +kernel, by decide +kernel⟩, List.mem_of_getElem? (i := 22) (by decide +kernel), List.mem_of_getElem? (i := 713) (by decide +kernel), List.mem_of_getElem? (i := 714) (by decide +kernel)⟩
theorem lw_p23 : lw_okq (⟨"SoapWorks$Plan", "drawScum", "(LSoapWorks$Vat;)V"⟩, 16) := ⟨⟨by decide +kernel, by decide +kernel⟩, List.mem_of_getElem? (i := 139) (by decide +kernel), List.mem_of_getElem? (i := 779) (by decide +kernel), List.mem_of_getElem? (i := 780) (by decide +kernel)⟩
theorem lw_p24 : lw_okq (⟨"SoapWorks$Formula", "measure", "(LSoapWorks$Vat;I)V"⟩, 6) := ⟨⟨by decide +kernel, by decide +kernel⟩, List.mem_of_getElem? (i := 145) (by decide +kernel), List.mem_of_getElem? (i := 792) (by decide +kernel), List.mem_of_getElem? (i := 793) (by decide +kernel)⟩
theorem lw_p25 : lw_okq (⟨"SoapWorks", "isEased", "(I)Z"⟩, 10) := ⟨⟨by decide +kernel, by decide +kernel⟩, List.mem_of_getElem? (i := 22) (by decide +kernel), List.mem_of_getElem? (i := 811) (by decide +kernel), List.mem_of_getElem? (i := 812) (by decide +kernel)⟩
theorem lw_p26 : lw_okq (⟨"SoapWorks", "silentOnes", "()I"⟩, 10) := ⟨⟨by decide +kernel, by decide +kernel⟩, List.mem_of_getElem? (i := 22) (by decide +kernel), List.mem_of_getElem? (i := 876) (by decide +kernel), List.mem_of_getElem? (i := 877) (by decide +kernel)⟩
theorem lw_p27 : lw_okq (⟨"SoapWorks$Outlook", "muchByOrder", "(LSoapWorks$Plan;LSoapWorks$Vat;I)I"⟩, 3) := ⟨⟨by decide +kernel, by decide +kernel⟩, List.mem_of_getElem? (i := 344) (by decide +kernel), List.mem_of_getElem? (i := 936) (by decide +kernel), List.mem_of_getElem? (i := 937) (by decide +kernel)⟩
theorem lw_p28 : lw_okq (⟨"SoapWorks$Outlook", "toNextOrder", "(I)Z"⟩, 3) := ⟨⟨by decide +kernel, by decide +kernel⟩, List.mem_of_getElem? (i := 344) (by decide +kernel), List.mem_of_getElem? (i := 943) (by decide +kernel), List.mem_of_getElem? (i := 944) (by decide +kernel)⟩
theorem lw_p29 : lw_okq (⟨"SoapWorks$Outlook", "exchange", "(II)V"⟩, 3) := ⟨⟨by decide +kernel, by decide +kernel⟩, List.mem_of_getElem? (i := 344) (by decide +kernel), List.mem_of_getElem? (i := 947) (by decide +kernel), List.mem_of_getElem? (i := 948) (by decide +kernel)⟩
theorem lw_p30 : lw_okq (⟨"SoapWorks$Sightings", "followCourses", "(LSoapWorks$Plan;)V"⟩, 10) := ⟨⟨by decide +kernel, by decide +kernel⟩, List.mem_of_getElem? (i := 362) (by decide +kernel), List.mem_of_getElem? (i := 1078) (by decide +kernel), List.mem_of_getElem? (i := 1079) (by decide +kernel)⟩
theorem lw_p31 : lw_okq (⟨"SoapWorks$Sightings", "tellAll", "(LSoapWorks$Plan;I)V"⟩, 10) := ⟨⟨by decide +kernel, by decide +kernel⟩, List.mem_of_getElem? (i := 362) (by decide +kernel), List.mem_of_getElem? (i := 1082) (by decide +kernel), List.mem_of_getElem? (i := 1083) (by decide +kernel)⟩
def lw_privs_2 : List (MethodName × Nat) := [(⟨"SoapWorks$Reader", "readFormula", "(II)Z"⟩, 5), (⟨"SoapWorks$Reader", "readUnit", "(I)Z"⟩, 5), (⟨"SoapWorks$Reader", "readNot", "(I)Z"⟩, 5), (⟨"SoapWorks$Reader", "signOfLevel", "(I)I"⟩, 5), (⟨"SoapWorks$Reader", "readScum", "()Z"⟩, 5), (⟨"SoapWorks$Reader", "readDraw", "()Z"⟩, 5), (⟨"SoapWorks", "isSilent", "(I)Z"⟩, 10), (⟨"SoapWorks$Plan", "drawScum", "(LSoapWorks$Vat;)V"⟩, 16), (⟨"SoapWorks$Formula", "measure", "(LSoapWorks$Vat;I)V"⟩, 6), (⟨"SoapWorks", "isEased", "(I)Z"⟩, 10), (⟨"SoapWorks", "silentOnes", "()I"⟩, 10), (⟨"SoapWorks$Outlook", "muchByOrder", "(LSoapWorks$Plan;LSoapWorks$Vat;I)I"⟩, 3), (⟨"SoapWorks$Outlook", "toNextOrder", "(I)Z"⟩, 3), (⟨"SoapWorks$Outlook", "exchange", "(II)V"⟩, 3), (⟨"SoapWorks$Sightings", "followCourses", "(LSoapWorks$Plan;)V"⟩, 10), (⟨"SoapWorks$Sightings", "tellAll", "(LSoapWorks$Plan;I)V"⟩, 10)]
theorem lw_r2 : ∀ q ∈ lw_privs_2, lw_okq q := List.forall_mem_cons.mpr ⟨lw_p16, List.forall_mem_cons.mpr ⟨lw_p17, List.forall_mem_cons.mpr ⟨lw_p18, List.forall_mem_cons.mpr ⟨lw_p19, List.forall_mem_cons.mpr ⟨lw_p20, List.forall_mem_cons.mpr ⟨lw_p21, List.forall_mem_cons.mpr ⟨lw_p22, List.forall_mem_cons.mpr ⟨lw_p23, List.forall_mem_cons.mpr ⟨lw_p24, List.forall_mem_cons.mpr ⟨lw_p25, List.forall_mem_cons.mpr ⟨lw_p26, List.forall_mem_cons.mpr ⟨lw_p27, List.forall_mem_cons.mpr ⟨lw_p28, List.forall_mem_cons.mpr ⟨lw_p29, List.forall_mem_cons.mpr ⟨lw_p30, List.forall_mem_cons.mpr ⟨lw_p31, fun _ h => absurd h List.not_mem_nil⟩⟩⟩⟩⟩⟩⟩⟩⟩⟩⟩⟩⟩⟩⟩⟩
theorem lw_p32 : lw_okq (⟨"SoapWorks$Sightings", "isBorneOut", "(II)Z"⟩, 10) := ⟨⟨by decide +kernel, by decide +kernel⟩, List.mem_of_getElem? (i := 362) (by decide +kernel), List.mem_of_getElem? (i := 1094) (by decide +kernel), List.mem_of_getElem? (i := 1095) (by decide +kernel)⟩
theorem lw_p33 : lw_okq (⟨"SoapWorks$Sightings", "counts", "(II)Z"⟩, 10) := ⟨⟨by decide +kernel, by decide +kernel⟩, List.mem_of_getElem? (i := 362) (by decide +kernel), List.mem_of_getElem? (i := 1098) (by decide +kernel), List.mem_of_getElem? (i := 1099) (by decide +kernel)⟩
theorem lw_p34 : lw_okq (⟨"SoapWorks$Sightings", "alike", "(IIII)I"⟩, 10) := ⟨⟨by decide +kernel, by decide +kernel⟩, List.mem_of_getElem? (i := 362) (by decide +kernel), List.mem_of_getElem? (i := 1117) (by decide +kernel), List.mem_of_getElem? (i := 1118) (by decide +kernel)⟩
theorem lw_p35 : lw_okq (⟨"SoapWorksModel", "four", "(I)V"⟩, 73) := ⟨⟨by decide +kernel, by decide +kernel⟩, List.mem_of_getElem? (i := 1156) (by decide +kernel), List.mem_of_getElem? (i := 1386) (by decide +kernel), List.mem_of_getElem? (i := 1387) (by decide +kernel)⟩
theorem lw_p36 : lw_okq (⟨"SoapWorksModel", "readAll", "()V"⟩, 73) := ⟨⟨by decide +kernel, by decide +kernel⟩, List.mem_of_getElem? (i := 1156) (by decide +kernel), List.mem_of_getElem? (i := 1398) (by decide +kernel), List.mem_of_getElem? (i := 1399) (by decide +kernel)⟩
theorem lw_p37 : lw_okq (⟨"SoapWorksModel", "token", "()V"⟩, 73) := ⟨⟨by decide +kernel, by decide +kernel⟩, List.mem_of_getElem? (i := 1156) (by decide +kernel), List.mem_of_getElem? (i := 1402) (by decide +kernel), List.mem_of_getElem? (i := 1403) (by decide +kernel)⟩
theorem lw_p38 : lw_okq (⟨"SoapWorksModel", "here", "(I)I"⟩, 73) := ⟨⟨by decide +kernel, by decide +kernel⟩, List.mem_of_getElem? (i := 1156) (by decide +kernel), List.mem_of_getElem? (i := 1406) (by decide +kernel), List.mem_of_getElem? (i := 1407) (by decide +kernel)⟩
theorem lw_p39 : lw_okq (⟨"SoapWorksModel", "readLine", "()V"⟩, 73) := ⟨⟨by decide +kernel, by decide +kernel⟩, List.mem_of_getElem? (i := 1156) (by decide +kernel), List.mem_of_getElem? (i := 1419) (by decide +kernel), List.mem_of_getElem? (i := 1420) (by decide +kernel)⟩
theorem lw_p40 : lw_okq (⟨"SoapWorksModel", "isWord", "(J)Z"⟩, 73) := ⟨⟨by decide +kernel, by decide +kernel⟩, List.mem_of_getElem? (i := 1156) (by decide +kernel), List.mem_of_getElem? (i := 1424) (by decide +kernel), List.mem_of_getElem? (i := 1425) (by decide +kernel)⟩
theorem lw_p41 : lw_okq (⟨"SoapWorksModel", "readKind", "()V"⟩, 73) := ⟨⟨by decide +kernel, by decide +kernel⟩, List.mem_of_getElem? (i := 1156) (by decide +kernel), List.mem_of_getElem? (i := 1428) (by decide +kernel), List.mem_of_getElem? (i := 1429) (by decide +kernel)⟩
theorem lw_p42 : lw_okq (⟨"SoapWorksModel", "newName", "(II)V"⟩, 73) := ⟨⟨by decide +kernel, by decide +kernel⟩, List.mem_of_getElem? (i := 1156) (by decide +kernel), List.mem_of_getElem? (i := 1432) (by decide +kernel), List.mem_of_getElem? (i := 1433) (by decide +kernel)⟩
theorem lw_p43 : lw_okq (⟨"SoapWorksModel", "isName", "()Z"⟩, 73) := ⟨⟨by decide +kernel, by decide +kernel⟩, List.mem_of_getElem? (i := 1156) (by decide +kernel), List.mem_of_getElem? (i := 1436) (by decide +kernel), List.mem_of_getElem? (i := 1437) (by decide +kernel)⟩
theorem lw_p44 : lw_okq (⟨"SoapWorksModel", "isOwn", "()Z"⟩, 73) := ⟨⟨by decide +kernel, by decide +kernel⟩, List.mem_of_getElem? (i := 1156) (by decide +kernel), List.mem_of_getElem? (i := 1440) (by decide +kernel), List.mem_of_getElem? (i := 1441) (by decide +kernel)⟩
theorem lw_p45 : lw_okq (⟨"SoapWorksModel", "wrong", "(I)V"⟩, 73) := ⟨⟨by decide +kernel, by decide +kernel⟩, List.mem_of_getElem? (i := 1156) (by decide +kernel), List.mem_of_getElem? (i := 1462) (by decide +kernel), List.mem_of_getElem? (i := 1463) (by decide +kernel)⟩
theorem lw_p46 : lw_okq (⟨"SoapWorksModel", "find", "(II)I"⟩, 73) := ⟨⟨by decide +kernel, by decide +kernel⟩, List.mem_of_getElem? (i := 1156) (by decide +kernel), List.mem_of_getElem? (i := 1466) (by decide +kernel), List.mem_of_getElem? (i := 1467) (by decide +kernel)⟩
theorem lw_p47 : lw_okq (⟨"SoapWorksModel", "readPerson", "()V"⟩, 73) := ⟨⟨by decide +kernel, by decide +kernel⟩, List.mem_of_getElem? (i := 1156) (by decide +kernel), List.mem_of_getElem? (i := 1470) (by decide +kernel), List.mem_of_getElem? (i := 1471) (by decide +kernel)⟩
def lw_privs_3 : List (MethodName × Nat) := [(⟨"SoapWorks$Sightings", "isBorneOut", "(II)Z"⟩, 10), (⟨"SoapWorks$Sightings", "counts", "(II)Z"⟩, 10), (⟨"SoapWorks$Sightings", "alike", "(IIII)I"⟩, 10), (⟨"SoapWorksModel", "four", "(I)V"⟩, 73), (⟨"SoapWorksModel", "readAll", "()V"⟩, 73), (⟨"SoapWorksModel", "token", "()V"⟩, 73), (⟨"SoapWorksModel", "here", "(I)I"⟩, 73), (⟨"SoapWorksModel", "readLine", "()V"⟩, 73), (⟨"SoapWorksModel", "isWord", "(J)Z"⟩, 73), (⟨"SoapWorksModel", "readKind", "()V"⟩, 73), (⟨"SoapWorksModel", "newName", "(II)V"⟩, 73), (⟨"SoapWorksModel", "isName", "()Z"⟩, 73), (⟨"SoapWorksModel", "isOwn", "()Z"⟩, 73), (⟨"SoapWorksModel", "wrong", "(I)V"⟩, 73), (⟨"SoapWorksModel", "find", "(II)I"⟩, 73), (⟨"SoapWorksModel", "readPerson", "()V"⟩, 73)]
theorem lw_r3 : ∀ q ∈ lw_privs_3, lw_okq q := List.forall_mem_cons.mpr ⟨lw_p32, List.forall_mem_cons.mpr ⟨lw_p33, List.forall_mem_cons.mpr ⟨lw_p34, List.forall_mem_cons.mpr ⟨lw_p35, List.forall_mem_cons.mpr ⟨lw_p36, List.forall_mem_cons.mpr ⟨lw_p37, List.forall_mem_cons.mpr ⟨lw_p38, List.forall_mem_cons.mpr ⟨lw_p39, List.forall_mem_cons.mpr ⟨lw_p40, List.forall_mem_cons.mpr ⟨lw_p41, List.forall_mem_cons.mpr ⟨lw_p42, List.forall_mem_cons.mpr ⟨lw_p43, List.forall_mem_cons.mpr ⟨lw_p44, List.forall_mem_cons.mpr ⟨lw_p45, List.forall_mem_cons.mpr ⟨lw_p46, List.forall_mem_cons.mpr ⟨lw_p47, fun _ h => absurd h List.not_mem_nil⟩⟩⟩⟩⟩⟩⟩⟩⟩⟩⟩⟩⟩⟩⟩⟩
theorem lw_p48 : lw_okq (⟨"SoapWorksModel", "want", "(J)V"⟩, 73) := ⟨⟨by decide +kernel, by decide +kernel⟩, List.mem_of_getElem? (i := 1156) (by decide +kernel), List.mem_of_getElem? (i := 1474) (by decide +kernel), List.mem_of_getElem? (i := 1475) (by decide +kernel)⟩
theorem lw_p49 : lw_okq (⟨"SoapWorksModel", "readAllOf", "([II)V"⟩, 73) := ⟨⟨by decide +kernel, by decide +kernel⟩, List.mem_of_getElem? (i := 1156) (by decide +kernel), List.mem_of_getElem? (i := 1478) (by decide +kernel), List.mem_of_getElem? (i := 1479) (by decide +kernel)⟩
theorem lw_p50 : lw_okq (⟨"SoapWorksModel", "readSome", "([II)V"⟩, 73) := ⟨⟨by decide +kernel, by decide +kernel⟩, List.mem_of_getElem? (i := 1156) (by decide +kernel), List.mem_of_getElem? (i := 1482) (by decide +kernel), List.mem_of_getElem? (i := 1483) (by decide +kernel)⟩
theorem lw_p51 : lw_okq (⟨"SoapWorksModel", "oldKind", "()I"⟩, 73) := ⟨⟨by decide +kernel, by decide +kernel⟩, List.mem_of_getElem? (i := 1156) (by decide +kernel), List.mem_of_getElem? (i := 1486) (by decide +kernel), List.mem_of_getElem? (i := 1487) (by decide +kernel)⟩
theorem lw_p52 : lw_okq (⟨"SoapWorksModel", "toldNumber", "(II)I"⟩, 73) := ⟨⟨by decide +kernel, by decide +kernel⟩, List.mem_of_getElem? (i := 1156) (by decide +kernel), List.mem_of_getElem? (i := 1490) (by decide +kernel), List.mem_of_getElem? (i := 1491) (by decide +kernel)⟩
theorem lw_p53 : lw_okq (⟨"SoapWorksModel", "readRule", "()V"⟩, 73) := ⟨⟨by decide +kernel, by decide +kernel⟩, List.mem_of_getElem? (i := 1156) (by decide +kernel), List.mem_of_getElem? (i := 1494) (by decide +kernel), List.mem_of_getElem? (i := 1495) (by decide +kernel)⟩
theorem lw_p54 : lw_okq (⟨"SoapWorksModel", "readBasin", "()V"⟩, 73) := ⟨⟨by decide +kernel, by decide +kernel⟩, List.mem_of_getElem? (i := 1156) (by decide +kernel), List.mem_of_getElem? (i := 1498) (by decide +kernel), List.mem_of_getElem? (i := 1499) (by decide +kernel)⟩
theorem lw_p55 : lw_okq (⟨"SoapWorksModel", "formula", "()V"⟩, 73) := ⟨⟨by decide +kernel, by decide +kernel⟩, List.mem_of_getElem? (i := 1156) (by decide +kernel), List.mem_of_getElem? (i := 1502) (by decide +kernel), List.mem_of_getElem? (i := 1503) (by decide +kernel)⟩
theorem lw_p56 : lw_okq (⟨"SoapWorksModel", "unit", "()V"⟩, 73) := ⟨⟨by decide +kernel, by decide +kernel⟩, List.mem_of_getElem? (i := 1156) (by decide +kernel), List.mem_of_getElem? (i := 1506) (by decide +kernel), List.mem_of_getElem? (i := 1507) (by decide +kernel)⟩
theorem lw_p57 : lw_okq (⟨"SoapWorksModel", "mayNot", "()Z"⟩, 73) := ⟨⟨by decide +kernel, by decide +kernel⟩, List.mem_of_getElem? (i := 1156) (by decide +kernel), List.mem_of_getElem? (i := 1510) (by decide +kernel), List.mem_of_getElem? (i := 1511) (by decide +kernel)⟩
theorem lw_p58 : lw_okq (⟨"SoapWorksModel", "openUp", "(I)V"⟩, 73) := ⟨⟨by decide +kernel, by decide +kernel⟩, List.mem_of_getElem? (i := 1156) (by decide +kernel), List.mem_of_getElem? (i := 1517) (by decide +kernel), List.mem_of_getElem? (i := 1518) (by decide +kernel)⟩
theorem lw_p59 : lw_okq (⟨"SoapWorksModel", "isFull", "()Z"⟩, 73) := ⟨⟨by decide +kernel, by decide +kernel⟩, List.mem_of_getElem? (i := 1156) (by decide +kernel), List.mem_of_getElem? (i := 1521) (by decide +kernel), List.mem_of_getElem? (i := 1522) (by decide +kernel)⟩
theorem lw_p60 : lw_okq (⟨"SoapWorksModel", "countUnit", "()V"⟩, 73) := ⟨⟨by decide +kernel, by decide +kernel⟩, List.mem_of_getElem? (i := 1156) (by decide +kernel), List.mem_of_getElem? (i := 1525) (by decide +kernel), List.mem_of_getElem? (i := 1526) (by decide +kernel)⟩
theorem lw_p61 : lw_okq (⟨"SoapWorksModel", "asked", "()I"⟩, 73) := ⟨⟨by decide +kernel, by decide +kernel⟩, List.mem_of_getElem? (i := 1156) (by decide +kernel), List.mem_of_getElem? (i := 1529) (by decide +kernel), List.mem_of_getElem? (i := 1530) (by decide +kernel)⟩
theorem lw_p62 : lw_okq (⟨"SoapWorksModel", "add", "(II)V"⟩, 73) := ⟨⟨by decide +kernel, by decide +kernel⟩, List.mem_of_getElem? (i := 1156) (by decide +kernel), List.mem_of_getElem? (i := 1533) (by decide +kernel), List.mem_of_getElem? (i := 1534) (by decide +kernel)⟩
theorem lw_p63 : lw_okq (⟨"SoapWorksModel", "sign", "()I"⟩, 73) := ⟨⟨by decide +kernel, by decide +kernel⟩, List.mem_of_getElem? (i := 1156) (by decide +kernel), List.mem_of_getElem? (i := 1537) (by decide +kernel), List.mem_of_getElem? (i := 1538) (by decide +kernel)⟩
def lw_privs_4 : List (MethodName × Nat) := [(⟨"SoapWorksModel", "want", "(J)V"⟩, 73), (⟨"SoapWorksModel", "readAllOf", "([II)V"⟩, 73), (⟨"SoapWorksModel", "readSome", "([II)V"⟩, 73), (⟨"SoapWorksModel", "oldKind", "()I"⟩, 73), (⟨"SoapWorksModel", "toldNumber", "(II)I"⟩, 73), (⟨"SoapWorksModel", "readRule", "()V"⟩, 73), (⟨"SoapWorksModel", "readBasin", "()V"⟩, 73), (⟨"SoapWorksModel", "formula", "()V"⟩, 73), (⟨"SoapWorksModel", "unit", "()V"⟩, 73), (⟨"SoapWorksModel", "mayNot", "()Z"⟩, 73), (⟨"SoapWorksModel", "openUp", "(I)V"⟩, 73), (⟨"SoapWorksModel", "isFull", "()Z"⟩, 73), (⟨"SoapWorksModel", "countUnit", "()V"⟩, 73), (⟨"SoapWorksModel", "asked", "()I"⟩, 73), (⟨"SoapWorksModel", "add", "(II)V"⟩, 73), (⟨"SoapWorksModel", "sign", "()I"⟩, 73)]
theorem lw_r4 : ∀ q ∈ lw_privs_4, lw_okq q := List.forall_mem_cons.mpr ⟨lw_p48, List.forall_mem_cons.mpr ⟨lw_p49, List.forall_mem_cons.mpr ⟨lw_p50, List.forall_mem_cons.mpr ⟨lw_p51, List.forall_mem_cons.mpr ⟨lw_p52, List.forall_mem_cons.mpr ⟨lw_p53, List.forall_mem_cons.mpr ⟨lw_p54, List.forall_mem_cons.mpr ⟨lw_p55, List.forall_mem_cons.mpr ⟨lw_p56, List.forall_mem_cons.mpr ⟨lw_p57, List.forall_mem_cons.mpr ⟨lw_p58, List.forall_mem_cons.mpr ⟨lw_p59, List.forall_mem_cons.mpr ⟨lw_p60, List.forall_mem_cons.mpr ⟨lw_p61, List.forall_mem_cons.mpr ⟨lw_p62, List.forall_mem_cons.mpr ⟨lw_p63, fun _ h => absurd h List.not_mem_nil⟩⟩⟩⟩⟩⟩⟩⟩⟩⟩⟩⟩⟩⟩⟩⟩
theorem lw_p64 : lw_okq (⟨"SoapWorksModel", "hasBracket", "()Z"⟩, 73) := ⟨⟨by decide +kernel, by decide +kernel⟩, List.mem_of_getElem? (i := 1156) (by decide +kernel), List.mem_of_getElem? (i := 1541) (by decide +kernel), List.mem_of_getElem? (i := 1542) (by decide +kernel)⟩
theorem lw_p65 : lw_okq (⟨"SoapWorksModel", "close", "(I)V"⟩, 73) := ⟨⟨by decide +kernel, by decide +kernel⟩, List.mem_of_getElem? (i := 1156) (by decide +kernel), List.mem_of_getElem? (i := 1545) (by decide +kernel), List.mem_of_getElem? (i := 1546) (by decide +kernel)⟩
theorem lw_p66 : lw_okq (⟨"SoapWorksModel", "hasRelation", "()Z"⟩, 73) := ⟨⟨by decide +kernel, by decide +kernel⟩, List.mem_of_getElem? (i := 1156) (by decide +kernel), List.mem_of_getElem? (i := 1549) (by decide +kernel), List.mem_of_getElem? (i := 1550) (by decide +kernel)⟩
theorem lw_p67 : lw_okq (⟨"SoapWorksModel", "told", "(JII)I"⟩, 73) := ⟨⟨by decide +kernel, by decide +kernel⟩, List.mem_of_getElem? (i := 1156) (by decide +kernel), List.mem_of_getElem? (i := 1553) (by decide +kernel), List.mem_of_getElem? (i := 1554) (by decide +kernel)⟩
theorem lw_p68 : lw_okq (⟨"SoapWorksModel", "isKind", "(I)Z"⟩, 73) := ⟨⟨by decide +kernel, by decide +kernel⟩, List.mem_of_getElem? (i := 1156) (by decide +kernel), List.mem_of_getElem? (i := 1565) (by decide +kernel), List.mem_of_getElem? (i := 1566) (by decide +kernel)⟩
theorem lw_p69 : lw_okq (⟨"SoapWorksModel", "isPerson", "(I)Z"⟩, 73) := ⟨⟨by decide +kernel, by decide +kernel⟩, List.mem_of_getElem? (i := 1156) (by decide +kernel), List.mem_of_getElem? (i := 1576) (by decide +kernel), List.mem_of_getElem? (i := 1577) (by decide +kernel)⟩
theorem lw_p70 : lw_okq (⟨"SoapWorksModel", "isBasin", "(I)Z"⟩, 73) := ⟨⟨by decide +kernel, by decide +kernel⟩, List.mem_of_getElem? (i := 1156) (by decide +kernel), List.mem_of_getElem? (i := 1584) (by decide +kernel), List.mem_of_getElem? (i := 1585) (by decide +kernel)⟩
theorem lw_p71 : lw_okq (⟨"SoapWorksModel", "isRule", "(I)Z"⟩, 73) := ⟨⟨by decide +kernel, by decide +kernel⟩, List.mem_of_getElem? (i := 1156) (by decide +kernel), List.mem_of_getElem? (i := 1592) (by decide +kernel), List.mem_of_getElem? (i := 1593) (by decide +kernel)⟩
theorem lw_p72 : lw_okq (⟨"SoapWorksModel", "hasTold", "(I)Z"⟩, 73) := ⟨⟨by decide +kernel, by decide +kernel⟩, List.mem_of_getElem? (i := 1156) (by decide +kernel), List.mem_of_getElem? (i := 1600) (by decide +kernel), List.mem_of_getElem? (i := 1601) (by decide +kernel)⟩
theorem lw_p73 : lw_okq (⟨"SoapWorksModel", "act", "()V"⟩, 73) := ⟨⟨by decide +kernel, by decide +kernel⟩, List.mem_of_getElem? (i := 1156) (by decide +kernel), List.mem_of_getElem? (i := 1604) (by decide +kernel), List.mem_of_getElem? (i := 1605) (by decide +kernel)⟩
theorem lw_p74 : lw_okq (⟨"SoapWorksModel", "fill", "()V"⟩, 73) := ⟨⟨by decide +kernel, by decide +kernel⟩, List.mem_of_getElem? (i := 1156) (by decide +kernel), List.mem_of_getElem? (i := 1608) (by decide +kernel), List.mem_of_getElem? (i := 1609) (by decide +kernel)⟩
theorem lw_p75 : lw_okq (⟨"SoapWorksModel", "tells", "(I)V"⟩, 73) := ⟨⟨by decide +kernel, by decide +kernel⟩, List.mem_of_getElem? (i := 1156) (by decide +kernel), List.mem_of_getElem? (i := 1612) (by decide +kernel), List.mem_of_getElem? (i := 1613) (by decide +kernel)⟩
theorem lw_p76 : lw_okq (⟨"SoapWorksModel", "keepAir", "()V"⟩, 73) := ⟨⟨by decide +kernel, by decide +kernel⟩, List.mem_of_getElem? (i := 1156) (by decide +kernel), List.mem_of_getElem? (i := 1619) (by decide +kernel), List.mem_of_getElem? (i := 1620) (by decide +kernel)⟩
theorem lw_p77 : lw_okq (⟨"SoapWorksModel", "allOf", "()I"⟩, 73) := ⟨⟨by decide +kernel, by decide +kernel⟩, List.mem_of_getElem? (i := 1156) (by decide +kernel), List.mem_of_getElem? (i := 1623) (by decide +kernel), List.mem_of_getElem? (i := 1624) (by decide +kernel)⟩
theorem lw_p78 : lw_okq (⟨"SoapWorksModel", "goBoiling", "(Z)Z"⟩, 73) := ⟨⟨by decide +kernel, by decide +kernel⟩, List.mem_of_getElem? (i := 1156) (by decide +kernel), List.mem_of_getElem? (i := 1631) (by decide +kernel), List.mem_of_getElem? (i := 1632) (by decide +kernel)⟩
theorem lw_p79 : lw_okq (⟨"SoapWorksModel", "boilAll", "()V"⟩, 73) := ⟨⟨by decide +kernel, by decide +kernel⟩, List.mem_of_getElem? (i := 1156) (by decide +kernel), List.mem_of_getElem? (i := 1635) (by decide +kernel), List.mem_of_getElem? (i := 1636) (by decide +kernel)⟩
def lw_privs_5 : List (MethodName × Nat) := [(⟨"SoapWorksModel", "hasBracket", "()Z"⟩, 73), (⟨"SoapWorksModel", "close", "(I)V"⟩, 73), (⟨"SoapWorksModel", "hasRelation", "()Z"⟩, 73), (⟨"SoapWorksModel", "told", "(JII)I"⟩, 73), (⟨"SoapWorksModel", "isKind", "(I)Z"⟩, 73), (⟨"SoapWorksModel", "isPerson", "(I)Z"⟩, 73), (⟨"SoapWorksModel", "isBasin", "(I)Z"⟩, 73), (⟨"SoapWorksModel", "isRule", "(I)Z"⟩, 73), (⟨"SoapWorksModel", "hasTold", "(I)Z"⟩, 73), (⟨"SoapWorksModel", "act", "()V"⟩, 73), (⟨"SoapWorksModel", "fill", "()V"⟩, 73), (⟨"SoapWorksModel", "tells", "(I)V"⟩, 73), (⟨"SoapWorksModel", "keepAir", "()V"⟩, 73), (⟨"SoapWorksModel", "allOf", "()I"⟩, 73), (⟨"SoapWorksModel", "goBoiling", "(Z)Z"⟩, 73), (⟨"SoapWorksModel", "boilAll", "()V"⟩, 73)]
theorem lw_r5 : ∀ q ∈ lw_privs_5, lw_okq q := List.forall_mem_cons.mpr ⟨lw_p64, List.forall_mem_cons.mpr ⟨lw_p65, List.forall_mem_cons.mpr ⟨lw_p66, List.forall_mem_cons.mpr ⟨lw_p67, List.forall_mem_cons.mpr ⟨lw_p68, List.forall_mem_cons.mpr ⟨lw_p69, List.forall_mem_cons.mpr ⟨lw_p70, List.forall_mem_cons.mpr ⟨lw_p71, List.forall_mem_cons.mpr ⟨lw_p72, List.forall_mem_cons.mpr ⟨lw_p73, List.forall_mem_cons.mpr ⟨lw_p74, List.forall_mem_cons.mpr ⟨lw_p75, List.forall_mem_cons.mpr ⟨lw_p76, List.forall_mem_cons.mpr ⟨lw_p77, List.forall_mem_cons.mpr ⟨lw_p78, List.forall_mem_cons.mpr ⟨lw_p79, fun _ h => absurd h List.not_mem_nil⟩⟩⟩⟩⟩⟩⟩⟩⟩⟩⟩⟩⟩⟩⟩⟩
theorem lw_p80 : lw_okq (⟨"SoapWorksModel", "boilBy", "(II)V"⟩, 73) := ⟨⟨by decide +kernel, by decide +kernel⟩, List.mem_of_getElem? (i := 1156) (by decide +kernel), List.mem_of_getElem? (i := 1639) (by decide +kernel), List.mem_of_getElem? (i := 1640) (by decide +kernel)⟩
theorem lw_p81 : lw_okq (⟨"SoapWorksModel", "makes", "(II)I"⟩, 73) := ⟨⟨by decide +kernel, by decide +kernel⟩, List.mem_of_getElem? (i := 1156) (by decide +kernel), List.mem_of_getElem? (i := 1643) (by decide +kernel), List.mem_of_getElem? (i := 1644) (by decide +kernel)⟩
theorem lw_p82 : lw_okq (⟨"SoapWorksModel", "skims", "()V"⟩, 73) := ⟨⟨by decide +kernel, by decide +kernel⟩, List.mem_of_getElem? (i := 1156) (by decide +kernel), List.mem_of_getElem? (i := 1647) (by decide +kernel), List.mem_of_getElem? (i := 1648) (by decide +kernel)⟩
theorem lw_p83 : lw_okq (⟨"SoapWorksModel", "isRisen", "()Z"⟩, 73) := ⟨⟨by decide +kernel, by decide +kernel⟩, List.mem_of_getElem? (i := 1156) (by decide +kernel), List.mem_of_getElem? (i := 1654) (by decide +kernel), List.mem_of_getElem? (i := 1655) (by decide +kernel)⟩
theorem lw_p84 : lw_okq (⟨"SoapWorksModel", "isEased", "(I)Z"⟩, 73) := ⟨⟨by decide +kernel, by decide +kernel⟩, List.mem_of_getElem? (i := 1156) (by decide +kernel), List.mem_of_getElem? (i := 1671) (by decide +kernel), List.mem_of_getElem? (i := 1672) (by decide +kernel)⟩
theorem lw_p85 : lw_okq (⟨"SoapWorksModel", "holds", "(I)Z"⟩, 73) := ⟨⟨by decide +kernel, by decide +kernel⟩, List.mem_of_getElem? (i := 1156) (by decide +kernel), List.mem_of_getElem? (i := 1675) (by decide +kernel), List.mem_of_getElem? (i := 1676) (by decide +kernel)⟩
theorem lw_p86 : lw_okq (⟨"SoapWorksModel", "exchange", "(I)V"⟩, 73) := ⟨⟨by decide +kernel, by decide +kernel⟩, List.mem_of_getElem? (i := 1156) (by decide +kernel), List.mem_of_getElem? (i := 1687) (by decide +kernel), List.mem_of_getElem? (i := 1688) (by decide +kernel)⟩
theorem lw_p87 : lw_okq (⟨"SoapWorksModel", "risesIn", "(I)I"⟩, 73) := ⟨⟨by decide +kernel, by decide +kernel⟩, List.mem_of_getElem? (i := 1156) (by decide +kernel), List.mem_of_getElem? (i := 1703) (by decide +kernel), List.mem_of_getElem? (i := 1704) (by decide +kernel)⟩
theorem lw_p88 : lw_okq (⟨"SoapWorksModel", "silent", "()I"⟩, 73) := ⟨⟨by decide +kernel, by decide +kernel⟩, List.mem_of_getElem? (i := 1156) (by decide +kernel), List.mem_of_getElem? (i := 1715) (by decide +kernel), List.mem_of_getElem? (i := 1716) (by decide +kernel)⟩
theorem lw_p89 : lw_okq (⟨"SoapWorksModel", "tellAll", "(I)V"⟩, 73) := ⟨⟨by decide +kernel, by decide +kernel⟩, List.mem_of_getElem? (i := 1156) (by decide +kernel), List.mem_of_getElem? (i := 1719) (by decide +kernel), List.mem_of_getElem? (i := 1720) (by decide +kernel)⟩
theorem lw_p90 : lw_okq (⟨"SoapWorksModel", "risesWith", "(I)Z"⟩, 73) := ⟨⟨by decide +kernel, by decide +kernel⟩, List.mem_of_getElem? (i := 1156) (by decide +kernel), List.mem_of_getElem? (i := 1727) (by decide +kernel), List.mem_of_getElem? (i := 1728) (by decide +kernel)⟩
theorem lw_p91 : lw_okq (⟨"SoapWorksModel", "lackOf", "(I)I"⟩, 73) := ⟨⟨by decide +kernel, by decide +kernel⟩, List.mem_of_getElem? (i := 1156) (by decide +kernel), List.mem_of_getElem? (i := 1747) (by decide +kernel), List.mem_of_getElem? (i := 1748) (by decide +kernel)⟩
theorem lw_p92 : lw_okq (⟨"SoapWorksModel", "nextRow", "()Z"⟩, 73) := ⟨⟨by decide +kernel, by decide +kernel⟩, List.mem_of_getElem? (i := 1156) (by decide +kernel), List.mem_of_getElem? (i := 1759) (by decide +kernel), List.mem_of_getElem? (i := 1760) (by decide +kernel)⟩
theorem lw_p93 : lw_okq (⟨"SoapWorksModel", "swap", "(II)V"⟩, 73) := ⟨⟨by decide +kernel, by decide +kernel⟩, List.mem_of_getElem? (i := 1156) (by decide +kernel), List.mem_of_getElem? (i := 1763) (by decide +kernel), List.mem_of_getElem? (i := 1764) (by decide +kernel)⟩
theorem lw_p94 : lw_okq (⟨"SoapWorksModel", "comesOf", "(I)I"⟩, 73) := ⟨⟨by decide +kernel, by decide +kernel⟩, List.mem_of_getElem? (i := 1156) (by decide +kernel), List.mem_of_getElem? (i := 1771) (by decide +kernel), List.mem_of_getElem? (i := 1772) (by decide +kernel)⟩
theorem lw_p95 : lw_okq (⟨"SoapWorksModel", "mindOf", "(I)I"⟩, 73) := ⟨⟨by decide +kernel, by decide +kernel⟩, List.mem_of_getElem? (i := 1156) (by decide +kernel), List.mem_of_getElem? (i := 1783) (by decide +kernel), List.mem_of_getElem? (i := 1784) (by decide +kernel)⟩
def lw_privs_6 : List (MethodName × Nat) := [(⟨"SoapWorksModel", "boilBy", "(II)V"⟩, 73), (⟨"SoapWorksModel", "makes", "(II)I"⟩, 73), (⟨"SoapWorksModel", "skims", "()V"⟩, 73), (⟨"SoapWorksModel", "isRisen", "()Z"⟩, 73), (⟨"SoapWorksModel", "isEased", "(I)Z"⟩, 73), (⟨"SoapWorksModel", "holds", "(I)Z"⟩, 73), (⟨"SoapWorksModel", "exchange", "(I)V"⟩, 73), (⟨"SoapWorksModel", "risesIn", "(I)I"⟩, 73), (⟨"SoapWorksModel", "silent", "()I"⟩, 73), (⟨"SoapWorksModel", "tellAll", "(I)V"⟩, 73), (⟨"SoapWorksModel", "risesWith", "(I)Z"⟩, 73), (⟨"SoapWorksModel", "lackOf", "(I)I"⟩, 73), (⟨"SoapWorksModel", "nextRow", "()Z"⟩, 73), (⟨"SoapWorksModel", "swap", "(II)V"⟩, 73), (⟨"SoapWorksModel", "comesOf", "(I)I"⟩, 73), (⟨"SoapWorksModel", "mindOf", "(I)I"⟩, 73)]
theorem lw_r6 : ∀ q ∈ lw_privs_6, lw_okq q := List.forall_mem_cons.mpr ⟨lw_p80, List.forall_mem_cons.mpr ⟨lw_p81, List.forall_mem_cons.mpr ⟨lw_p82, List.forall_mem_cons.mpr ⟨lw_p83, List.forall_mem_cons.mpr ⟨lw_p84, List.forall_mem_cons.mpr ⟨lw_p85, List.forall_mem_cons.mpr ⟨lw_p86, List.forall_mem_cons.mpr ⟨lw_p87, List.forall_mem_cons.mpr ⟨lw_p88, List.forall_mem_cons.mpr ⟨lw_p89, List.forall_mem_cons.mpr ⟨lw_p90, List.forall_mem_cons.mpr ⟨lw_p91, List.forall_mem_cons.mpr ⟨lw_p92, List.forall_mem_cons.mpr ⟨lw_p93, List.forall_mem_cons.mpr ⟨lw_p94, List.forall_mem_cons.mpr ⟨lw_p95, fun _ h => absurd h List.not_mem_nil⟩⟩⟩⟩⟩⟩⟩⟩⟩⟩⟩⟩⟩⟩⟩⟩
theorem lw_p96 : lw_okq (⟨"SoapWorksModel", "layFits", "(I)I"⟩, 73) := ⟨⟨by decide +kernel, by decide +kernel⟩, List.mem_of_getElem? (i := 1156) (by decide +kernel), List.mem_of_getElem? (i := 1862) (by decide +kernel), List.mem_of_getElem? (i := 1863) (by decide +kernel)⟩
theorem lw_p97 : lw_okq (⟨"SoapWorksModel", "fitsMuch", "(II)Z"⟩, 73) := ⟨⟨by decide +kernel, by decide +kernel⟩, List.mem_of_getElem? (i := 1156) (by decide +kernel), List.mem_of_getElem? (i := 1866) (by decide +kernel), List.mem_of_getElem? (i := 1867) (by decide +kernel)⟩
theorem lw_p98 : lw_okq (⟨"SoapWorksModel", "leftBy", "(II)I"⟩, 73) := ⟨⟨by decide +kernel, by decide +kernel⟩, List.mem_of_getElem? (i := 1156) (by decide +kernel), List.mem_of_getElem? (i := 1878) (by decide +kernel), List.mem_of_getElem? (i := 1879) (by decide +kernel)⟩
def lw_privs_7 : List (MethodName × Nat) := [(⟨"SoapWorksModel", "layFits", "(I)I"⟩, 73), (⟨"SoapWorksModel", "fitsMuch", "(II)Z"⟩, 73), (⟨"SoapWorksModel", "leftBy", "(II)I"⟩, 73)]
theorem lw_r7 : ∀ q ∈ lw_privs_7, lw_okq q := List.forall_mem_cons.mpr ⟨lw_p96, List.forall_mem_cons.mpr ⟨lw_p97, List.forall_mem_cons.mpr ⟨lw_p98, fun _ h => absurd h List.not_mem_nil⟩⟩⟩
def lw_privs : List (MethodName × Nat) := lw_privs_1 ++ (lw_privs_2 ++ (lw_privs_3 ++ (lw_privs_4 ++ (lw_privs_5 ++ (lw_privs_6 ++ (lw_privs_7))))))
def lw_tbl : List Cond := k2_sels lw_privs ++ tables_1
theorem lw_privs_ok : ∀ q ∈ lw_privs, lw_okq q := by
  show ∀ q ∈ lw_privs_1 ++ (lw_privs_2 ++ (lw_privs_3 ++ (lw_privs_4 ++ (lw_privs_5 ++ (lw_privs_6 ++ (lw_privs_7)))))), lw_okq q
  exact List.forall_mem_append.mpr ⟨lw_r1, List.forall_mem_append.mpr ⟨lw_r2, List.forall_mem_append.mpr ⟨lw_r3, List.forall_mem_append.mpr ⟨lw_r4, List.forall_mem_append.mpr ⟨lw_r5, List.forall_mem_append.mpr ⟨lw_r6, lw_r7⟩⟩⟩⟩⟩⟩
def RX0 : String := "SoapWorks$Acts"
def TX0 : u_T := fun k => match k with
  | 0 => ("SoapWorks$Acts", "lines", "[I", true)
  | 1 => ("SoapWorks$Acts", "here", "I", false)
  | _ => ("SoapWorks$Acts", "last", "I", false)
def tyX0 : Nat → FieldType := fun k => match k with
  | 0 => .array .int
  | 1 => .int
  | _ => .int
abbrev wsX00 : List Cond := u_ws RX0 TX0 3
theorem nmX0 : ∀ a, a < 3 → ∀ b, b < 3 → a ≠ b → (TX0 a).2.1 ≠ (TX0 b).2.1 := by decide +kernel
theorem tyX0_ok : ∀ k, k < 3 → parseFieldDescriptor (TX0 k).2.2.1 = some (tyX0 k) := by decide +kernel
abbrev cX0_init : ByteArray := prog_2_method_1_code
def yX0_init : MethodName := ⟨RX0, "<init>", "()V"⟩
abbrev cX0_forget : ByteArray := prog_2_method_2_code
def yX0_forget : MethodName := ⟨RX0, "forget", "()V"⟩
abbrev cX0_undoable : ByteArray := prog_2_method_3_code
def yX0_undoable : MethodName := ⟨RX0, "undoable", "()I"⟩
abbrev cX0_redoable : ByteArray := prog_2_method_4_code
def yX0_redoable : MethodName := ⟨RX0, "redoable", "()I"⟩
abbrev cX0_keep : ByteArray := prog_2_method_5_code
def yX0_keep : MethodName := ⟨RX0, "keep", "(LSoapWorks$Vat;)V"⟩
abbrev cX0_takeBack : ByteArray := prog_2_method_6_code
def yX0_takeBack : MethodName := ⟨RX0, "takeBack", "(LSoapWorks$Vat;)Z"⟩
abbrev cX0_doAgain : ByteArray := prog_2_method_7_code
def yX0_doAgain : MethodName := ⟨RX0, "doAgain", "(LSoapWorks$Vat;)Z"⟩
def RX1 : String := "SoapWorks$Boxes"
def TX1 : u_T := fun k => match k with
  | 0 => ("SoapWorks$Boxes", "full", "[Z", true)
  | _ => ("SoapWorks$Boxes", "lines", "[I", true)
def tyX1 : Nat → FieldType := fun k => match k with
  | 0 => .array .boolean
  | _ => .array .int
abbrev wsX10 : List Cond := u_ws RX1 TX1 2
theorem nmX1 : ∀ a, a < 2 → ∀ b, b < 2 → a ≠ b → (TX1 a).2.1 ≠ (TX1 b).2.1 := by decide +kernel
theorem tyX1_ok : ∀ k, k < 2 → parseFieldDescriptor (TX1 k).2.2.1 = some (tyX1 k) := by decide +kernel
abbrev cX1_init : ByteArray := prog_3_method_1_code
def yX1_init : MethodName := ⟨RX1, "<init>", "()V"⟩
abbrev cX1_forget : ByteArray := prog_3_method_2_code
def yX1_forget : MethodName := ⟨RX1, "forget", "()V"⟩
abbrev cX1_isBox : ByteArray := prog_3_method_3_code
def yX1_isBox : MethodName := ⟨RX1, "isBox", "(I)Z"⟩
abbrev cX1_put : ByteArray := prog_3_method_4_code
def yX1_put : MethodName := ⟨RX1, "put", "(ILSoapWorks$Vat;)V"⟩
abbrev cX1_take : ByteArray := prog_3_method_5_code
def yX1_take : MethodName := ⟨RX1, "take", "(ILSoapWorks$Vat;)V"⟩
def RX2 : String := "SoapWorks$Formula"
def TX2 : u_T := fun k => match k with
  | 0 => ("SoapWorks$Formula", "units", "I", false)
  | 1 => ("SoapWorks$Formula", "hasDay", "Z", false)
  | 2 => ("SoapWorks$Formula", "size", "I", false)
  | 3 => ("SoapWorks$Formula", "program", "[I", true)
  | 4 => ("SoapWorks$Formula", "stack", "[I", true)
  | _ => ("SoapWorks$Formula", "known", "[I", true)
def tyX2 : Nat → FieldType := fun k => match k with
  | 0 => .int
  | 1 => .boolean
  | 2 => .int
  | 3 => .array .int
  | 4 => .array .int
  | _ => .array .int
abbrev wsX20 : List Cond := u_ws RX2 TX2 6
theorem nmX2 : ∀ a, a < 6 → ∀ b, b < 6 → a ≠ b → (TX2 a).2.1 ≠ (TX2 b).2.1 := by decide +kernel
theorem tyX2_ok : ∀ k, k < 6 → parseFieldDescriptor (TX2 k).2.2.1 = some (tyX2 k) := by decide +kernel
abbrev cX2_init : ByteArray := prog_4_method_1_code
def yX2_init : MethodName := ⟨RX2, "<init>", "()V"⟩
abbrev cX2_clear : ByteArray := prog_4_method_2_code
def yX2_clear : MethodName := ⟨RX2, "clear", "()V"⟩
abbrev cX2_add : ByteArray := prog_4_method_3_code
def yX2_add : MethodName := ⟨RX2, "add", "(I)V"⟩
abbrev cX2_worth : ByteArray := prog_4_method_4_code
def yX2_worth : MethodName := ⟨RX2, "worth", "(LSoapWorks$Vat;I)I"⟩
abbrev cX2_measure : ByteArray := prog_4_method_5_code
def yX2_measure : MethodName := ⟨RX2, "measure", "(LSoapWorks$Vat;I)V"⟩
abbrev cX2_joined : ByteArray := prog_4_method_6_code
def yX2_joined : MethodName := ⟨RX2, "joined", "(III)I"⟩
def RX3 : String := "SoapWorks$Outlook"
def TX3 : u_T := fun k => match k with
  | 0 => ("SoapWorks$Outlook", "ahead", "LSoapWorks$Vat;", true)
  | 1 => ("SoapWorks$Outlook", "trial", "[I", true)
  | _ => ("SoapWorks$Outlook", "inOrder", "[I", true)
def tyX3 : Nat → FieldType := fun k => match k with
  | 0 => .object "SoapWorks$Vat"
  | 1 => .array .int
  | _ => .array .int
abbrev wsX30 : List Cond := u_ws RX3 TX3 3
theorem nmX3 : ∀ a, a < 3 → ∀ b, b < 3 → a ≠ b → (TX3 a).2.1 ≠ (TX3 b).2.1 := by decide +kernel
theorem tyX3_ok : ∀ k, k < 3 → parseFieldDescriptor (TX3 k).2.2.1 = some (tyX3 k) := by decide +kernel
abbrev cX3_init : ByteArray := prog_5_method_1_code
def yX3_init : MethodName := ⟨RX3, "<init>", "()V"⟩
abbrev cX3_riseIf : ByteArray := prog_5_method_2_code
def yX3_riseIf : MethodName := ⟨RX3, "riseIf", "(LSoapWorks$Plan;LSoapWorks$Vat;II)I"⟩
abbrev cX3_muchBehind : ByteArray := prog_5_method_3_code
def yX3_muchBehind : MethodName := ⟨RX3, "muchBehind", "(LSoapWorks$Plan;LSoapWorks$Vat;IIZ)I"⟩
abbrev cX3_wouldHold : ByteArray := prog_5_method_4_code
def yX3_wouldHold : MethodName := ⟨RX3, "wouldHold", "(LSoapWorks$Plan;LSoapWorks$Vat;II)Z"⟩
abbrev cX3_boilingsTill : ByteArray := prog_5_method_5_code
def yX3_boilingsTill : MethodName := ⟨RX3, "boilingsTill", "(LSoapWorks$Plan;LSoapWorks$Vat;I)I"⟩
abbrev cX3_boilingsToRest : ByteArray := prog_5_method_6_code
def yX3_boilingsToRest : MethodName := ⟨RX3, "boilingsToRest", "(LSoapWorks$Plan;LSoapWorks$Vat;)I"⟩
abbrev cX3_allUnderLaw : ByteArray := prog_5_method_7_code
def yX3_allUnderLaw : MethodName := ⟨RX3, "allUnderLaw", "(LSoapWorks$Plan;LSoapWorks$Vat;I)I"⟩
abbrev cX3_mostByOrder : ByteArray := prog_5_method_8_code
def yX3_mostByOrder : MethodName := ⟨RX3, "mostByOrder", "(LSoapWorks$Plan;LSoapWorks$Vat;I[I)I"⟩
abbrev cX3_muchByOrder : ByteArray := prog_5_method_9_code
def yX3_muchByOrder : MethodName := ⟨RX3, "muchByOrder", "(LSoapWorks$Plan;LSoapWorks$Vat;I)I"⟩
abbrev cX3_toNextOrder : ByteArray := prog_5_method_10_code
def yX3_toNextOrder : MethodName := ⟨RX3, "toNextOrder", "(I)Z"⟩
abbrev cX3_exchange : ByteArray := prog_5_method_11_code
def yX3_exchange : MethodName := ⟨RX3, "exchange", "(II)V"⟩
abbrev cX3_duelRests : ByteArray := prog_5_method_12_code
def yX3_duelRests : MethodName := ⟨RX3, "duelRests", "(LSoapWorks$Plan;LSoapWorks$Vat;II)I"⟩
abbrev cX3_gain : ByteArray := prog_5_method_13_code
def yX3_gain : MethodName := ⟨RX3, "gain", "(IIII)I"⟩
def RX4 : String := "SoapWorks$Plan"
def TX4 : u_T := fun k => match k with
  | 0 => ("SoapWorks$Plan", "kinds", "I", false)
  | 1 => ("SoapWorks$Plan", "people", "I", false)
  | 2 => ("SoapWorks$Plan", "rules", "I", false)
  | 3 => ("SoapWorks$Plan", "basins", "I", false)
  | 4 => ("SoapWorks$Plan", "scum", "I", false)
  | 5 => ("SoapWorks$Plan", "draw", "I", false)
  | 6 => ("SoapWorks$Plan", "scumTold", "Z", false)
  | 7 => ("SoapWorks$Plan", "drawTold", "Z", false)
  | 8 => ("SoapWorks$Plan", "lastKind", "I", false)
  | 9 => ("SoapWorks$Plan", "kindNames", "[J", true)
  | 10 => ("SoapWorks$Plan", "personNames", "[J", true)
  | 11 => ("SoapWorks$Plan", "basinNames", "[J", true)
  | 12 => ("SoapWorks$Plan", "minds", "[I", true)
  | 13 => ("SoapWorks$Plan", "basinNeeds", "[I", true)
  | 14 => ("SoapWorks$Plan", "ruleParts", "[I", true)
  | _ => ("SoapWorks$Plan", "rises", "LSoapWorks$Formula;", true)
def tyX4 : Nat → FieldType := fun k => match k with
  | 0 => .int
  | 1 => .int
  | 2 => .int
  | 3 => .int
  | 4 => .int
  | 5 => .int
  | 6 => .boolean
  | 7 => .boolean
  | 8 => .int
  | 9 => .array .long
  | 10 => .array .long
  | 11 => .array .long
  | 12 => .array .int
  | 13 => .array .int
  | 14 => .array .int
  | _ => .object "SoapWorks$Formula"
abbrev wsX40 : List Cond := u_ws RX4 TX4 16
theorem nmX4 : ∀ a, a < 16 → ∀ b, b < 16 → a ≠ b → (TX4 a).2.1 ≠ (TX4 b).2.1 := by decide +kernel
theorem tyX4_ok : ∀ k, k < 16 → parseFieldDescriptor (TX4 k).2.2.1 = some (tyX4 k) := by decide +kernel
abbrev cX4_init : ByteArray := prog_6_method_1_code
def yX4_init : MethodName := ⟨RX4, "<init>", "()V"⟩
abbrev cX4_clear : ByteArray := prog_6_method_2_code
def yX4_clear : MethodName := ⟨RX4, "clear", "()V"⟩
abbrev cX4_addRule : ByteArray := prog_6_method_3_code
def yX4_addRule : MethodName := ⟨RX4, "addRule", "(IIII)V"⟩
abbrev cX4_isKind : ByteArray := prog_6_method_4_code
def yX4_isKind : MethodName := ⟨RX4, "isKind", "(I)Z"⟩
abbrev cX4_isPerson : ByteArray := prog_6_method_5_code
def yX4_isPerson : MethodName := ⟨RX4, "isPerson", "(I)Z"⟩
abbrev cX4_isBasin : ByteArray := prog_6_method_6_code
def yX4_isBasin : MethodName := ⟨RX4, "isBasin", "(I)Z"⟩
abbrev cX4_has : ByteArray := prog_6_method_7_code
def yX4_has : MethodName := ⟨RX4, "has", "(II)I"⟩
abbrev cX4_needs : ByteArray := prog_6_method_8_code
def yX4_needs : MethodName := ⟨RX4, "needs", "(II)I"⟩
abbrev cX4_first : ByteArray := prog_6_method_9_code
def yX4_first : MethodName := ⟨RX4, "first", "(I)I"⟩
abbrev cX4_second : ByteArray := prog_6_method_10_code
def yX4_second : MethodName := ⟨RX4, "second", "(I)I"⟩
abbrev cX4_third : ByteArray := prog_6_method_11_code
def yX4_third : MethodName := ⟨RX4, "third", "(I)I"⟩
abbrev cX4_limit : ByteArray := prog_6_method_12_code
def yX4_limit : MethodName := ⟨RX4, "limit", "(I)I"⟩
abbrev cX4_burden : ByteArray := prog_6_method_13_code
def yX4_burden : MethodName := ⟨RX4, "burden", "(I)I"⟩
abbrev cX4_tell : ByteArray := prog_6_method_14_code
def yX4_tell : MethodName := ⟨RX4, "tell", "(LSoapWorks$Vat;I)V"⟩
abbrev cX4_pour : ByteArray := prog_6_method_15_code
def yX4_pour : MethodName := ⟨RX4, "pour", "([II)V"⟩
abbrev cX4_lacking : ByteArray := prog_6_method_16_code
def yX4_lacking : MethodName := ⟨RX4, "lacking", "([II)I"⟩
abbrev cX4_canServe : ByteArray := prog_6_method_17_code
def yX4_canServe : MethodName := ⟨RX4, "canServe", "([II)Z"⟩
abbrev cX4_madeOf : ByteArray := prog_6_method_18_code
def yX4_madeOf : MethodName := ⟨RX4, "madeOf", "(I)I"⟩
abbrev cX4_turning : ByteArray := prog_6_method_19_code
def yX4_turning : MethodName := ⟨RX4, "turning", "([III)I"⟩
abbrev cX4_turn : ByteArray := prog_6_method_20_code
def yX4_turn : MethodName := ⟨RX4, "turn", "([III)I"⟩
abbrev cX4_boilRules : ByteArray := prog_6_method_21_code
def yX4_boilRules : MethodName := ⟨RX4, "boilRules", "([I)Z"⟩
abbrev cX4_isRisen : ByteArray := prog_6_method_22_code
def yX4_isRisen : MethodName := ⟨RX4, "isRisen", "(LSoapWorks$Vat;)Z"⟩
abbrev cX4_boilInEarnest : ByteArray := prog_6_method_23_code
def yX4_boilInEarnest : MethodName := ⟨RX4, "boilInEarnest", "(LSoapWorks$Vat;Z)Z"⟩
abbrev cX4_drawScum : ByteArray := prog_6_method_24_code
def yX4_drawScum : MethodName := ⟨RX4, "drawScum", "(LSoapWorks$Vat;)V"⟩
def RX5 : String := "SoapWorks$Reader"
def TX5 : u_T := fun k => match k with
  | 0 => ("SoapWorks$Reader", "tape", "LSoapWorks$Tape;", true)
  | 1 => ("SoapWorks$Reader", "plan", "LSoapWorks$Plan;", false)
  | 2 => ("SoapWorks$Reader", "faultNumber", "I", false)
  | 3 => ("SoapWorks$Reader", "faultPlace", "I", false)
  | _ => ("SoapWorks$Reader", "lastPortion", "I", false)
def tyX5 : Nat → FieldType := fun k => match k with
  | 0 => .object "SoapWorks$Tape"
  | 1 => .object "SoapWorks$Plan"
  | 2 => .int
  | 3 => .int
  | _ => .int
abbrev wsX50 : List Cond := u_ws RX5 TX5 5
theorem nmX5 : ∀ a, a < 5 → ∀ b, b < 5 → a ≠ b → (TX5 a).2.1 ≠ (TX5 b).2.1 := by decide +kernel
theorem tyX5_ok : ∀ k, k < 5 → parseFieldDescriptor (TX5 k).2.2.1 = some (tyX5 k) := by decide +kernel
abbrev cX5_init : ByteArray := prog_7_method_1_code
def yX5_init : MethodName := ⟨RX5, "<init>", "()V"⟩
abbrev cX5_begin : ByteArray := prog_7_method_2_code
def yX5_begin : MethodName := ⟨RX5, "begin", "()V"⟩
abbrev cX5_isAtEnd : ByteArray := prog_7_method_3_code
def yX5_isAtEnd : MethodName := ⟨RX5, "isAtEnd", "()Z"⟩
abbrev cX5_readLine : ByteArray := prog_7_method_4_code
def yX5_readLine : MethodName := ⟨RX5, "readLine", "()Z"⟩
abbrev cX5_refuse : ByteArray := prog_7_method_5_code
def yX5_refuse : MethodName := ⟨RX5, "refuse", "(I)Z"⟩
abbrev cX5_readKind : ByteArray := prog_7_method_6_code
def yX5_readKind : MethodName := ⟨RX5, "readKind", "()Z"⟩
abbrev cX5_readPerson : ByteArray := prog_7_method_7_code
def yX5_readPerson : MethodName := ⟨RX5, "readPerson", "()Z"⟩
abbrev cX5_readBasin : ByteArray := prog_7_method_8_code
def yX5_readBasin : MethodName := ⟨RX5, "readBasin", "()Z"⟩
abbrev cX5_readRule : ByteArray := prog_7_method_9_code
def yX5_readRule : MethodName := ⟨RX5, "readRule", "()Z"⟩
abbrev cX5_readRises : ByteArray := prog_7_method_10_code
def yX5_readRises : MethodName := ⟨RX5, "readRises", "()Z"⟩
abbrev cX5_readScum : ByteArray := prog_7_method_11_code
def yX5_readScum : MethodName := ⟨RX5, "readScum", "()Z"⟩
abbrev cX5_readDraw : ByteArray := prog_7_method_12_code
def yX5_readDraw : MethodName := ⟨RX5, "readDraw", "()Z"⟩
abbrev cX5_readPortions : ByteArray := prog_7_method_13_code
def yX5_readPortions : MethodName := ⟨RX5, "readPortions", "([II)Z"⟩
abbrev cX5_readNewName : ByteArray := prog_7_method_14_code
def yX5_readNewName : MethodName := ⟨RX5, "readNewName", "([JI)Z"⟩
abbrev cX5_knownKind : ByteArray := prog_7_method_15_code
def yX5_knownKind : MethodName := ⟨RX5, "knownKind", "()I"⟩
abbrev cX5_readKnownKind : ByteArray := prog_7_method_16_code
def yX5_readKnownKind : MethodName := ⟨RX5, "readKnownKind", "()I"⟩
abbrev cX5_readNumber : ByteArray := prog_7_method_17_code
def yX5_readNumber : MethodName := ⟨RX5, "readNumber", "(II)I"⟩
abbrev cX5_readKey : ByteArray := prog_7_method_18_code
def yX5_readKey : MethodName := ⟨RX5, "readKey", "(I)Z"⟩
abbrev cX5_readSign : ByteArray := prog_7_method_19_code
def yX5_readSign : MethodName := ⟨RX5, "readSign", "(I)Z"⟩
abbrev cX5_readFormula : ByteArray := prog_7_method_20_code
def yX5_readFormula : MethodName := ⟨RX5, "readFormula", "(II)Z"⟩
abbrev cX5_readNot : ByteArray := prog_7_method_21_code
def yX5_readNot : MethodName := ⟨RX5, "readNot", "(I)Z"⟩
abbrev cX5_readUnit : ByteArray := prog_7_method_22_code
def yX5_readUnit : MethodName := ⟨RX5, "readUnit", "(I)Z"⟩
abbrev cX5_signOfLevel : ByteArray := prog_7_method_23_code
def yX5_signOfLevel : MethodName := ⟨RX5, "signOfLevel", "(I)I"⟩
def RX6 : String := "SoapWorks$Sightings"
def TX6 : u_T := fun k => match k with
  | 0 => ("SoapWorks$Sightings", "count", "I", false)
  | 1 => ("SoapWorks$Sightings", "boilings", "[I", true)
  | 2 => ("SoapWorks$Sightings", "kinds", "[I", true)
  | 3 => ("SoapWorks$Sightings", "least", "[I", true)
  | 4 => ("SoapWorks$Sightings", "was", "[Z", true)
  | 5 => ("SoapWorks$Sightings", "toldAt", "[I", true)
  | 6 => ("SoapWorks$Sightings", "untoldAt", "[I", true)
  | 7 => ("SoapWorks$Sightings", "much", "[I", true)
  | 8 => ("SoapWorks$Sightings", "courses", "[I", true)
  | _ => ("SoapWorks$Sightings", "hasCourses", "Z", false)
def tyX6 : Nat → FieldType := fun k => match k with
  | 0 => .int
  | 1 => .array .int
  | 2 => .array .int
  | 3 => .array .int
  | 4 => .array .boolean
  | 5 => .array .int
  | 6 => .array .int
  | 7 => .array .int
  | 8 => .array .int
  | _ => .boolean
abbrev wsX60 : List Cond := u_ws RX6 TX6 10
theorem nmX6 : ∀ a, a < 10 → ∀ b, b < 10 → a ≠ b → (TX6 a).2.1 ≠ (TX6 b).2.1 := by decide +kernel
theorem tyX6_ok : ∀ k, k < 10 → parseFieldDescriptor (TX6 k).2.2.1 = some (tyX6 k) := by decide +kernel
abbrev cX6_init : ByteArray := prog_8_method_1_code
def yX6_init : MethodName := ⟨RX6, "<init>", "()V"⟩
abbrev cX6_forget : ByteArray := prog_8_method_2_code
def yX6_forget : MethodName := ⟨RX6, "forget", "()V"⟩
abbrev cX6_add : ByteArray := prog_8_method_3_code
def yX6_add : MethodName := ⟨RX6, "add", "(IIIZI)I"⟩
abbrev cX6_takeBack : ByteArray := prog_8_method_4_code
def yX6_takeBack : MethodName := ⟨RX6, "takeBack", "(II)Z"⟩
abbrev cX6_fitting : ByteArray := prog_8_method_5_code
def yX6_fitting : MethodName := ⟨RX6, "fitting", "(LSoapWorks$Plan;I)I"⟩
abbrev cX6_leftAtMost : ByteArray := prog_8_method_6_code
def yX6_leftAtMost : MethodName := ⟨RX6, "leftAtMost", "(III)I"⟩
abbrev cX6_alike : ByteArray := prog_8_method_7_code
def yX6_alike : MethodName := ⟨RX6, "alike", "(IIII)I"⟩
abbrev cX6_isBorneOut : ByteArray := prog_8_method_8_code
def yX6_isBorneOut : MethodName := ⟨RX6, "isBorneOut", "(II)Z"⟩
abbrev cX6_counts : ByteArray := prog_8_method_9_code
def yX6_counts : MethodName := ⟨RX6, "counts", "(II)Z"⟩
abbrev cX6_cell : ByteArray := prog_8_method_10_code
def yX6_cell : MethodName := ⟨RX6, "cell", "(II)I"⟩
abbrev cX6_followCourses : ByteArray := prog_8_method_11_code
def yX6_followCourses : MethodName := ⟨RX6, "followCourses", "(LSoapWorks$Plan;)V"⟩
abbrev cX6_tellAll : ByteArray := prog_8_method_12_code
def yX6_tellAll : MethodName := ⟨RX6, "tellAll", "(LSoapWorks$Plan;I)V"⟩
def RX7 : String := "SoapWorks$Tape"
def TX7 : u_T := fun k => match k with
  | 0 => ("SoapWorks$Tape", "bytes", "[B", true)
  | 1 => ("SoapWorks$Tape", "length", "I", false)
  | 2 => ("SoapWorks$Tape", "keys", "[J", true)
  | 3 => ("SoapWorks$Tape", "at", "I", false)
  | 4 => ("SoapWorks$Tape", "sort", "I", false)
  | 5 => ("SoapWorks$Tape", "place", "I", false)
  | 6 => ("SoapWorks$Tape", "spelling", "J", false)
  | 7 => ("SoapWorks$Tape", "key", "I", false)
  | 8 => ("SoapWorks$Tape", "number", "I", false)
  | _ => ("SoapWorks$Tape", "sign", "I", false)
def tyX7 : Nat → FieldType := fun k => match k with
  | 0 => .array .byte
  | 1 => .int
  | 2 => .array .long
  | 3 => .int
  | 4 => .int
  | 5 => .int
  | 6 => .long
  | 7 => .int
  | 8 => .int
  | _ => .int
abbrev wsX70 : List Cond := u_ws RX7 TX7 10
theorem nmX7 : ∀ a, a < 10 → ∀ b, b < 10 → a ≠ b → (TX7 a).2.1 ≠ (TX7 b).2.1 := by decide +kernel
theorem tyX7_ok : ∀ k, k < 10 → parseFieldDescriptor (TX7 k).2.2.1 = some (tyX7 k) := by decide +kernel
abbrev cX7_init : ByteArray := prog_9_method_1_code
def yX7_init : MethodName := ⟨RX7, "<init>", "()V"⟩
abbrev cX7_append : ByteArray := prog_9_method_2_code
def yX7_append : MethodName := ⟨RX7, "append", "(I)V"⟩
abbrev cX7_readFirst : ByteArray := prog_9_method_3_code
def yX7_readFirst : MethodName := ⟨RX7, "readFirst", "()V"⟩
abbrev cX7_readNext : ByteArray := prog_9_method_4_code
def yX7_readNext : MethodName := ⟨RX7, "readNext", "()V"⟩
abbrev cX7_isName : ByteArray := prog_9_method_5_code
def yX7_isName : MethodName := ⟨RX7, "isName", "()Z"⟩
abbrev cX7_readWord : ByteArray := prog_9_method_6_code
def yX7_readWord : MethodName := ⟨RX7, "readWord", "()V"⟩
abbrev cX7_readNumber : ByteArray := prog_9_method_7_code
def yX7_readNumber : MethodName := ⟨RX7, "readNumber", "()V"⟩
abbrev cX7_readSign : ByteArray := prog_9_method_8_code
def yX7_readSign : MethodName := ⟨RX7, "readSign", "()V"⟩
abbrev cX7_find : ByteArray := prog_9_method_9_code
def yX7_find : MethodName := ⟨RX7, "find", "([JIJ)I"⟩
abbrev cX7_spellings : ByteArray := prog_9_method_10_code
def yX7_spellings : MethodName := ⟨RX7, "spellings", "(Ljava/lang/String;)[J"⟩
abbrev cX7_spelled : ByteArray := prog_9_method_11_code
def yX7_spelled : MethodName := ⟨RX7, "spelled", "(JI)J"⟩
abbrev cX7_isBlank : ByteArray := prog_9_method_12_code
def yX7_isBlank : MethodName := ⟨RX7, "isBlank", "(I)Z"⟩
abbrev cX7_isLetter : ByteArray := prog_9_method_13_code
def yX7_isLetter : MethodName := ⟨RX7, "isLetter", "(I)Z"⟩
abbrev cX7_isDigit : ByteArray := prog_9_method_14_code
def yX7_isDigit : MethodName := ⟨RX7, "isDigit", "(I)Z"⟩
def RX8 : String := "SoapWorks$Vat"
def TX8 : u_T := fun k => match k with
  | 0 => ("SoapWorks$Vat", "much", "[I", true)
  | 1 => ("SoapWorks$Vat", "told", "I", false)
  | 2 => ("SoapWorks$Vat", "eased", "I", false)
  | 3 => ("SoapWorks$Vat", "street", "I", false)
  | 4 => ("SoapWorks$Vat", "day", "I", false)
  | _ => ("SoapWorks$Vat", "seed", "I", false)
def tyX8 : Nat → FieldType := fun k => match k with
  | 0 => .array .int
  | 1 => .int
  | 2 => .int
  | 3 => .int
  | 4 => .int
  | _ => .int
abbrev wsX80 : List Cond := u_ws RX8 TX8 6
theorem nmX8 : ∀ a, a < 6 → ∀ b, b < 6 → a ≠ b → (TX8 a).2.1 ≠ (TX8 b).2.1 := by decide +kernel
theorem tyX8_ok : ∀ k, k < 6 → parseFieldDescriptor (TX8 k).2.2.1 = some (tyX8 k) := by decide +kernel
abbrev cX8_init : ByteArray := prog_10_method_1_code
def yX8_init : MethodName := ⟨RX8, "<init>", "()V"⟩
abbrev cX8_begin : ByteArray := prog_10_method_2_code
def yX8_begin : MethodName := ⟨RX8, "begin", "(I)V"⟩
abbrev cX8_all : ByteArray := prog_10_method_3_code
def yX8_all : MethodName := ⟨RX8, "all", "()I"⟩
abbrev cX8_copy : ByteArray := prog_10_method_4_code
def yX8_copy : MethodName := ⟨RX8, "copy", "(LSoapWorks$Vat;)V"⟩
abbrev cX8_save : ByteArray := prog_10_method_5_code
def yX8_save : MethodName := ⟨RX8, "save", "([II)V"⟩
abbrev cX8_load : ByteArray := prog_10_method_6_code
def yX8_load : MethodName := ⟨RX8, "load", "([II)V"⟩
def RX9 : String := "SoapWorks"
def TX9 : u_T := fun k => match k with
  | 0 => ("SoapWorks", "reader", "LSoapWorks$Reader;", true)
  | 1 => ("SoapWorks", "plan", "LSoapWorks$Plan;", false)
  | 2 => ("SoapWorks", "now", "LSoapWorks$Vat;", true)
  | 3 => ("SoapWorks", "acts", "LSoapWorks$Acts;", true)
  | 4 => ("SoapWorks", "boxes", "LSoapWorks$Boxes;", true)
  | 5 => ("SoapWorks", "outlook", "LSoapWorks$Outlook;", true)
  | 6 => ("SoapWorks", "sightings", "LSoapWorks$Sightings;", true)
  | 7 => ("SoapWorks", "lying", "[I", true)
  | 8 => ("SoapWorks", "lyingCount", "I", false)
  | _ => ("SoapWorks", "time", "I", false)
def tyX9 : Nat → FieldType := fun k => match k with
  | 0 => .object "SoapWorks$Reader"
  | 1 => .object "SoapWorks$Plan"
  | 2 => .object "SoapWorks$Vat"
  | 3 => .object "SoapWorks$Acts"
  | 4 => .object "SoapWorks$Boxes"
  | 5 => .object "SoapWorks$Outlook"
  | 6 => .object "SoapWorks$Sightings"
  | 7 => .array .int
  | 8 => .int
  | _ => .int
abbrev wsX90 : List Cond := u_ws RX9 TX9 10
theorem nmX9 : ∀ a, a < 10 → ∀ b, b < 10 → a ≠ b → (TX9 a).2.1 ≠ (TX9 b).2.1 := by decide +kernel
theorem tyX9_ok : ∀ k, k < 10 → parseFieldDescriptor (TX9 k).2.2.1 = some (tyX9 k) := by decide +kernel
abbrev cX9_init : ByteArray := prog_1_method_1_code
def yX9_init : MethodName := ⟨RX9, "<init>", "()V"⟩
abbrev cX9_feed : ByteArray := prog_1_method_2_code
def yX9_feed : MethodName := ⟨RX9, "feed", "(IIIII)I"⟩
abbrev cX9_end : ByteArray := prog_1_method_3_code
def yX9_end : MethodName := ⟨RX9, "end", "(I)I"⟩
abbrev cX9_works : ByteArray := prog_1_method_4_code
def yX9_works : MethodName := ⟨RX9, "works", "()I"⟩
abbrev cX9_fault : ByteArray := prog_1_method_5_code
def yX9_fault : MethodName := ⟨RX9, "fault", "(I)I"⟩
abbrev cX9_vat : ByteArray := prog_1_method_6_code
def yX9_vat : MethodName := ⟨RX9, "vat", "(I)I"⟩
abbrev cX9_mind : ByteArray := prog_1_method_7_code
def yX9_mind : MethodName := ⟨RX9, "mind", "(II)I"⟩
abbrev cX9_wants : ByteArray := prog_1_method_8_code
def yX9_wants : MethodName := ⟨RX9, "wants", "(II)I"⟩
abbrev cX9_rule : ByteArray := prog_1_method_9_code
def yX9_rule : MethodName := ⟨RX9, "rule", "(II)I"⟩
abbrev cX9_confess : ByteArray := prog_1_method_10_code
def yX9_confess : MethodName := ⟨RX9, "confess", "(I)I"⟩
abbrev cX9_boil : ByteArray := prog_1_method_11_code
def yX9_boil : MethodName := ⟨RX9, "boil", "()I"⟩
abbrev cX9_wash : ByteArray := prog_1_method_12_code
def yX9_wash : MethodName := ⟨RX9, "wash", "(I)I"⟩
abbrev cX9_sweep : ByteArray := prog_1_method_13_code
def yX9_sweep : MethodName := ⟨RX9, "sweep", "(I)I"⟩
abbrev cX9_undo : ByteArray := prog_1_method_14_code
def yX9_undo : MethodName := ⟨RX9, "undo", "()Z"⟩
abbrev cX9_redo : ByteArray := prog_1_method_15_code
def yX9_redo : MethodName := ⟨RX9, "redo", "()Z"⟩
abbrev cX9_will : ByteArray := prog_1_method_16_code
def yX9_will : MethodName := ⟨RX9, "will", "(III)I"⟩
abbrev cX9_rise : ByteArray := prog_1_method_17_code
def yX9_rise : MethodName := ⟨RX9, "rise", "()I"⟩
abbrev cX9_rouser : ByteArray := prog_1_method_18_code
def yX9_rouser : MethodName := ⟨RX9, "rouser", "(I)I"⟩
abbrev cX9_choir : ByteArray := prog_1_method_19_code
def yX9_choir : MethodName := ⟨RX9, "choir", "(II)I"⟩
abbrev cX9_power : ByteArray := prog_1_method_20_code
def yX9_power : MethodName := ⟨RX9, "power", "(I)I"⟩
abbrev cX9_serve : ByteArray := prog_1_method_21_code
def yX9_serve : MethodName := ⟨RX9, "serve", "(I)I"⟩
abbrev cX9_balm : ByteArray := prog_1_method_22_code
def yX9_balm : MethodName := ⟨RX9, "balm", "(II)I"⟩
abbrev cX9_cook : ByteArray := prog_1_method_23_code
def yX9_cook : MethodName := ⟨RX9, "cook", "(I)I"⟩
abbrev cX9_lacks : ByteArray := prog_1_method_24_code
def yX9_lacks : MethodName := ⟨RX9, "lacks", "(I)I"⟩
abbrev cX9_rest : ByteArray := prog_1_method_25_code
def yX9_rest : MethodName := ⟨RX9, "rest", "()I"⟩
abbrev cX9_order : ByteArray := prog_1_method_26_code
def yX9_order : MethodName := ⟨RX9, "order", "(I)I"⟩
abbrev cX9_comes : ByteArray := prog_1_method_27_code
def yX9_comes : MethodName := ⟨RX9, "comes", "(I)I"⟩
abbrev cX9_steps : ByteArray := prog_1_method_28_code
def yX9_steps : MethodName := ⟨RX9, "steps", "(II)I"⟩
abbrev cX9_duel : ByteArray := prog_1_method_29_code
def yX9_duel : MethodName := ⟨RX9, "duel", "(II)I"⟩
abbrev cX9_nearest : ByteArray := prog_1_method_30_code
def yX9_nearest : MethodName := ⟨RX9, "nearest", "()I"⟩
abbrev cX9_wanted : ByteArray := prog_1_method_31_code
def yX9_wanted : MethodName := ⟨RX9, "wanted", "(I)I"⟩
abbrev cX9_sinners : ByteArray := prog_1_method_32_code
def yX9_sinners : MethodName := ⟨RX9, "sinners", "(I)I"⟩
abbrev cX9_inert : ByteArray := prog_1_method_33_code
def yX9_inert : MethodName := ⟨RX9, "inert", "()I"⟩
abbrev cX9_alive : ByteArray := prog_1_method_34_code
def yX9_alive : MethodName := ⟨RX9, "alive", "()I"⟩
abbrev cX9_thickest : ByteArray := prog_1_method_35_code
def yX9_thickest : MethodName := ⟨RX9, "thickest", "()I"⟩
abbrev cX9_thinnest : ByteArray := prog_1_method_36_code
def yX9_thinnest : MethodName := ⟨RX9, "thinnest", "()I"⟩
abbrev cX9_makers : ByteArray := prog_1_method_37_code
def yX9_makers : MethodName := ⟨RX9, "makers", "(I)I"⟩
abbrev cX9_heaviest : ByteArray := prog_1_method_38_code
def yX9_heaviest : MethodName := ⟨RX9, "heaviest", "()I"⟩
abbrev cX9_law : ByteArray := prog_1_method_39_code
def yX9_law : MethodName := ⟨RX9, "law", "(I)I"⟩
abbrev cX9_mission : ByteArray := prog_1_method_40_code
def yX9_mission : MethodName := ⟨RX9, "mission", "()I"⟩
abbrev cX9_odds : ByteArray := prog_1_method_41_code
def yX9_odds : MethodName := ⟨RX9, "odds", "(II)I"⟩
abbrev cX9_lies : ByteArray := prog_1_method_42_code
def yX9_lies : MethodName := ⟨RX9, "lies", "(I)I"⟩
abbrev cX9_seen : ByteArray := prog_1_method_43_code
def yX9_seen : MethodName := ⟨RX9, "seen", "(IIIZ)I"⟩
abbrev cX9_untell : ByteArray := prog_1_method_44_code
def yX9_untell : MethodName := ⟨RX9, "untell", "(I)Z"⟩
abbrev cX9_later : ByteArray := prog_1_method_45_code
def yX9_later : MethodName := ⟨RX9, "later", "(I)I"⟩
abbrev cX9_fits : ByteArray := prog_1_method_46_code
def yX9_fits : MethodName := ⟨RX9, "fits", "(I)I"⟩
abbrev cX9_sure : ByteArray := prog_1_method_47_code
def yX9_sure : MethodName := ⟨RX9, "sure", "(II)I"⟩
abbrev cX9_ask : ByteArray := prog_1_method_48_code
def yX9_ask : MethodName := ⟨RX9, "ask", "(III)I"⟩
abbrev cX9_image : ByteArray := prog_1_method_49_code
def yX9_image : MethodName := ⟨RX9, "image", "(I)I"⟩
abbrev cX9_back : ByteArray := prog_1_method_50_code
def yX9_back : MethodName := ⟨RX9, "back", "(I)I"⟩
abbrev cX9_about : ByteArray := prog_1_method_51_code
def yX9_about : MethodName := ⟨RX9, "about", "(I)I"⟩
abbrev cX9_isSilent : ByteArray := prog_1_method_52_code
def yX9_isSilent : MethodName := ⟨RX9, "isSilent", "(I)Z"⟩
abbrev cX9_silentOnes : ByteArray := prog_1_method_53_code
def yX9_silentOnes : MethodName := ⟨RX9, "silentOnes", "()I"⟩
abbrev cX9_isEased : ByteArray := prog_1_method_54_code
def yX9_isEased : MethodName := ⟨RX9, "isEased", "(I)Z"⟩
abbrev cX9_isFewer : ByteArray := prog_1_method_55_code
def yX9_isFewer : MethodName := ⟨RX9, "isFewer", "(II)Z"⟩
abbrev cX9_countOrBits : ByteArray := prog_1_method_56_code
def yX9_countOrBits : MethodName := ⟨RX9, "countOrBits", "(II)I"⟩
abbrev cX9_commonDivisor : ByteArray := prog_1_method_57_code
def yX9_commonDivisor : MethodName := ⟨RX9, "commonDivisor", "(II)I"⟩
def RX10 : String := "SoapWorksModel"
def TX10 : u_T := fun k => match k with
  | 0 => ("SoapWorksModel", "tape", "[I", true)
  | 1 => ("SoapWorksModel", "taped", "I", false)
  | 2 => ("SoapWorksModel", "fault", "I", false)
  | 3 => ("SoapWorksModel", "faultPlace", "I", false)
  | 4 => ("SoapWorksModel", "at", "I", false)
  | 5 => ("SoapWorksModel", "size", "I", false)
  | 6 => ("SoapWorksModel", "sort", "I", false)
  | 7 => ("SoapWorksModel", "place", "I", false)
  | 8 => ("SoapWorksModel", "number", "I", false)
  | 9 => ("SoapWorksModel", "word", "J", false)
  | 10 => ("SoapWorksModel", "nName", "[J", true)
  | 11 => ("SoapWorksModel", "nStep", "[I", true)
  | 12 => ("SoapWorksModel", "nArg", "[I", true)
  | 13 => ("SoapWorksModel", "step", "[I", true)
  | 14 => ("SoapWorksModel", "arg", "[I", true)
  | 15 => ("SoapWorksModel", "open", "[I", true)
  | 16 => ("SoapWorksModel", "values", "[I", true)
  | 17 => ("SoapWorksModel", "nMany", "I", false)
  | 18 => ("SoapWorksModel", "formSteps", "I", false)
  | 19 => ("SoapWorksModel", "opens", "I", false)
  | 20 => ("SoapWorksModel", "nUnits", "I", false)
  | 21 => ("SoapWorksModel", "units", "I", false)
  | 22 => ("SoapWorksModel", "ownUnits", "I", false)
  | 23 => ("SoapWorksModel", "deep", "I", false)
  | 24 => ("SoapWorksModel", "nHasForm", "Z", false)
  | 25 => ("SoapWorksModel", "hasForm", "Z", false)
  | 26 => ("SoapWorksModel", "asks", "[I", true)
  | 27 => ("SoapWorksModel", "nMind", "[I", true)
  | 28 => ("SoapWorksModel", "nWish", "[I", true)
  | 29 => ("SoapWorksModel", "nRule", "[I", true)
  | 30 => ("SoapWorksModel", "mind", "[I", true)
  | 31 => ("SoapWorksModel", "wish", "[I", true)
  | 32 => ("SoapWorksModel", "rules", "[I", true)
  | 33 => ("SoapWorksModel", "nKinds", "I", false)
  | 34 => ("SoapWorksModel", "nPeople", "I", false)
  | 35 => ("SoapWorksModel", "nBasins", "I", false)
  | 36 => ("SoapWorksModel", "nRules", "I", false)
  | 37 => ("SoapWorksModel", "nLastKind", "I", false)
  | 38 => ("SoapWorksModel", "nScum", "I", false)
  | 39 => ("SoapWorksModel", "nDraw", "I", false)
  | 40 => ("SoapWorksModel", "kinds", "I", false)
  | 41 => ("SoapWorksModel", "people", "I", false)
  | 42 => ("SoapWorksModel", "basins", "I", false)
  | 43 => ("SoapWorksModel", "ruleMany", "I", false)
  | 44 => ("SoapWorksModel", "lastKind", "I", false)
  | 45 => ("SoapWorksModel", "scum", "I", false)
  | 46 => ("SoapWorksModel", "nHasScum", "Z", false)
  | 47 => ("SoapWorksModel", "nHasDraw", "Z", false)
  | 48 => ("SoapWorksModel", "someKind", "I", false)
  | 49 => ("SoapWorksModel", "now", "[I", true)
  | 50 => ("SoapWorksModel", "air", "[I", true)
  | 51 => ("SoapWorksModel", "were", "[I", true)
  | 52 => ("SoapWorksModel", "acts", "I", false)
  | 53 => ("SoapWorksModel", "undone", "I", false)
  | 54 => ("SoapWorksModel", "before", "[I", true)
  | 55 => ("SoapWorksModel", "lies", "[I", true)
  | 56 => ("SoapWorksModel", "row", "[I", true)
  | 57 => ("SoapWorksModel", "lain", "I", false)
  | 58 => ("SoapWorksModel", "ones", "[I", true)
  | 59 => ("SoapWorksModel", "others", "[I", true)
  | 60 => ("SoapWorksModel", "sightAt", "[I", true)
  | 61 => ("SoapWorksModel", "sightKind", "[I", true)
  | 62 => ("SoapWorksModel", "sightMuch", "[I", true)
  | 63 => ("SoapWorksModel", "sightTold", "[I", true)
  | 64 => ("SoapWorksModel", "sightUntold", "[I", true)
  | 65 => ("SoapWorksModel", "sightIs", "[Z", true)
  | 66 => ("SoapWorksModel", "sights", "I", false)
  | 67 => ("SoapWorksModel", "time", "I", false)
  | 68 => ("SoapWorksModel", "was", "[I", true)
  | 69 => ("SoapWorksModel", "tally", "[I", true)
  | 70 => ("SoapWorksModel", "isFit", "[Z", true)
  | 71 => ("SoapWorksModel", "hasBox", "[Z", true)
  | _ => ("SoapWorksModel", "boxes", "[I", true)
def tyX10 : Nat → FieldType := fun k => match k with
  | 0 => .array .int
  | 1 => .int
  | 2 => .int
  | 3 => .int
  | 4 => .int
  | 5 => .int
  | 6 => .int
  | 7 => .int
  | 8 => .int
  | 9 => .long
  | 10 => .array .long
  | 11 => .array .int
  | 12 => .array .int
  | 13 => .array .int
  | 14 => .array .int
  | 15 => .array .int
  | 16 => .array .int
  | 17 => .int
  | 18 => .int
  | 19 => .int
  | 20 => .int
  | 21 => .int
  | 22 => .int
  | 23 => .int
  | 24 => .boolean
  | 25 => .boolean
  | 26 => .array .int
  | 27 => .array .int
  | 28 => .array .int
  | 29 => .array .int
  | 30 => .array .int
  | 31 => .array .int
  | 32 => .array .int
  | 33 => .int
  | 34 => .int
  | 35 => .int
  | 36 => .int
  | 37 => .int
  | 38 => .int
  | 39 => .int
  | 40 => .int
  | 41 => .int
  | 42 => .int
  | 43 => .int
  | 44 => .int
  | 45 => .int
  | 46 => .boolean
  | 47 => .boolean
  | 48 => .int
  | 49 => .array .int
  | 50 => .array .int
  | 51 => .array .int
  | 52 => .int
  | 53 => .int
  | 54 => .array .int
  | 55 => .array .int
  | 56 => .array .int
  | 57 => .int
  | 58 => .array .int
  | 59 => .array .int
  | 60 => .array .int
  | 61 => .array .int
  | 62 => .array .int
  | 63 => .array .int
  | 64 => .array .int
  | 65 => .array .boolean
  | 66 => .int
  | 67 => .int
  | 68 => .array .int
  | 69 => .array .int
  | 70 => .array .boolean
  | 71 => .array .boolean
  | _ => .array .int
abbrev wsX100 : List Cond := u_ws RX10 TX10 73
theorem nmX10 : ∀ a, a < 73 → ∀ b, b < 73 → a ≠ b → (TX10 a).2.1 ≠ (TX10 b).2.1 := by decide +kernel
theorem tyX10_ok : ∀ k, k < 73 → parseFieldDescriptor (TX10 k).2.2.1 = some (tyX10 k) := by decide +kernel
abbrev cX10_init : ByteArray := prog_12_method_1_code
def yX10_init : MethodName := ⟨RX10, "<init>", "()V"⟩
abbrev cX10_feed : ByteArray := prog_12_method_2_code
def yX10_feed : MethodName := ⟨RX10, "feed", "(IIIII)I"⟩
abbrev cX10_four : ByteArray := prog_12_method_3_code
def yX10_four : MethodName := ⟨RX10, "four", "(I)V"⟩
abbrev cX10_end : ByteArray := prog_12_method_4_code
def yX10_end : MethodName := ⟨RX10, "end", "(I)I"⟩
abbrev cX10_here : ByteArray := prog_12_method_5_code
def yX10_here : MethodName := ⟨RX10, "here", "(I)I"⟩
abbrev cX10_isLetter : ByteArray := prog_12_method_6_code
def yX10_isLetter : MethodName := ⟨RX10, "isLetter", "(I)Z"⟩
abbrev cX10_isDigit : ByteArray := prog_12_method_7_code
def yX10_isDigit : MethodName := ⟨RX10, "isDigit", "(I)Z"⟩
abbrev cX10_isSign : ByteArray := prog_12_method_8_code
def yX10_isSign : MethodName := ⟨RX10, "isSign", "(I)Z"⟩
abbrev cX10_token : ByteArray := prog_12_method_9_code
def yX10_token : MethodName := ⟨RX10, "token", "()V"⟩
abbrev cX10_wrong : ByteArray := prog_12_method_10_code
def yX10_wrong : MethodName := ⟨RX10, "wrong", "(I)V"⟩
abbrev cX10_isWord : ByteArray := prog_12_method_11_code
def yX10_isWord : MethodName := ⟨RX10, "isWord", "(J)Z"⟩
abbrev cX10_isOwn : ByteArray := prog_12_method_12_code
def yX10_isOwn : MethodName := ⟨RX10, "isOwn", "()Z"⟩
abbrev cX10_isName : ByteArray := prog_12_method_13_code
def yX10_isName : MethodName := ⟨RX10, "isName", "()Z"⟩
abbrev cX10_want : ByteArray := prog_12_method_14_code
def yX10_want : MethodName := ⟨RX10, "want", "(J)V"⟩
abbrev cX10_toldNumber : ByteArray := prog_12_method_15_code
def yX10_toldNumber : MethodName := ⟨RX10, "toldNumber", "(II)I"⟩
abbrev cX10_told : ByteArray := prog_12_method_16_code
def yX10_told : MethodName := ⟨RX10, "told", "(JII)I"⟩
abbrev cX10_find : ByteArray := prog_12_method_17_code
def yX10_find : MethodName := ⟨RX10, "find", "(II)I"⟩
abbrev cX10_newName : ByteArray := prog_12_method_18_code
def yX10_newName : MethodName := ⟨RX10, "newName", "(II)V"⟩
abbrev cX10_oldKind : ByteArray := prog_12_method_19_code
def yX10_oldKind : MethodName := ⟨RX10, "oldKind", "()I"⟩
abbrev cX10_add : ByteArray := prog_12_method_20_code
def yX10_add : MethodName := ⟨RX10, "add", "(II)V"⟩
abbrev cX10_tight : ByteArray := prog_12_method_21_code
def yX10_tight : MethodName := ⟨RX10, "tight", "(I)I"⟩
abbrev cX10_close : ByteArray := prog_12_method_22_code
def yX10_close : MethodName := ⟨RX10, "close", "(I)V"⟩
abbrev cX10_hasRelation : ByteArray := prog_12_method_23_code
def yX10_hasRelation : MethodName := ⟨RX10, "hasRelation", "()Z"⟩
abbrev cX10_mayNot : ByteArray := prog_12_method_24_code
def yX10_mayNot : MethodName := ⟨RX10, "mayNot", "()Z"⟩
abbrev cX10_asked : ByteArray := prog_12_method_25_code
def yX10_asked : MethodName := ⟨RX10, "asked", "()I"⟩
abbrev cX10_isFull : ByteArray := prog_12_method_26_code
def yX10_isFull : MethodName := ⟨RX10, "isFull", "()Z"⟩
abbrev cX10_countUnit : ByteArray := prog_12_method_27_code
def yX10_countUnit : MethodName := ⟨RX10, "countUnit", "()V"⟩
abbrev cX10_openUp : ByteArray := prog_12_method_28_code
def yX10_openUp : MethodName := ⟨RX10, "openUp", "(I)V"⟩
abbrev cX10_unit : ByteArray := prog_12_method_29_code
def yX10_unit : MethodName := ⟨RX10, "unit", "()V"⟩
abbrev cX10_sign : ByteArray := prog_12_method_30_code
def yX10_sign : MethodName := ⟨RX10, "sign", "()I"⟩
abbrev cX10_hasBracket : ByteArray := prog_12_method_31_code
def yX10_hasBracket : MethodName := ⟨RX10, "hasBracket", "()Z"⟩
abbrev cX10_formula : ByteArray := prog_12_method_32_code
def yX10_formula : MethodName := ⟨RX10, "formula", "()V"⟩
abbrev cX10_truth : ByteArray := prog_12_method_33_code
def yX10_truth : MethodName := ⟨RX10, "truth", "(Z)I"⟩
abbrev cX10_done : ByteArray := prog_12_method_34_code
def yX10_done : MethodName := ⟨RX10, "done", "(III)I"⟩
abbrev cX10_lesser : ByteArray := prog_12_method_35_code
def yX10_lesser : MethodName := ⟨RX10, "lesser", "(II)I"⟩
abbrev cX10_greater : ByteArray := prog_12_method_36_code
def yX10_greater : MethodName := ⟨RX10, "greater", "(II)I"⟩
abbrev cX10_members : ByteArray := prog_12_method_37_code
def yX10_members : MethodName := ⟨RX10, "members", "(I)I"⟩
abbrev cX10_allOf : ByteArray := prog_12_method_38_code
def yX10_allOf : MethodName := ⟨RX10, "allOf", "()I"⟩
abbrev cX10_isRisen : ByteArray := prog_12_method_39_code
def yX10_isRisen : MethodName := ⟨RX10, "isRisen", "()Z"⟩
abbrev cX10_readKind : ByteArray := prog_12_method_40_code
def yX10_readKind : MethodName := ⟨RX10, "readKind", "()V"⟩
abbrev cX10_readSome : ByteArray := prog_12_method_41_code
def yX10_readSome : MethodName := ⟨RX10, "readSome", "([II)V"⟩
abbrev cX10_readAllOf : ByteArray := prog_12_method_42_code
def yX10_readAllOf : MethodName := ⟨RX10, "readAllOf", "([II)V"⟩
abbrev cX10_readPerson : ByteArray := prog_12_method_43_code
def yX10_readPerson : MethodName := ⟨RX10, "readPerson", "()V"⟩
abbrev cX10_readBasin : ByteArray := prog_12_method_44_code
def yX10_readBasin : MethodName := ⟨RX10, "readBasin", "()V"⟩
abbrev cX10_readRule : ByteArray := prog_12_method_45_code
def yX10_readRule : MethodName := ⟨RX10, "readRule", "()V"⟩
abbrev cX10_readLine : ByteArray := prog_12_method_46_code
def yX10_readLine : MethodName := ⟨RX10, "readLine", "()V"⟩
abbrev cX10_readAll : ByteArray := prog_12_method_47_code
def yX10_readAll : MethodName := ⟨RX10, "readAll", "()V"⟩
abbrev cX10_works : ByteArray := prog_12_method_48_code
def yX10_works : MethodName := ⟨RX10, "works", "()I"⟩
abbrev cX10_fault : ByteArray := prog_12_method_49_code
def yX10_fault : MethodName := ⟨RX10, "fault", "(I)I"⟩
abbrev cX10_isIn : ByteArray := prog_12_method_50_code
def yX10_isIn : MethodName := ⟨RX10, "isIn", "(III)Z"⟩
abbrev cX10_isKind : ByteArray := prog_12_method_51_code
def yX10_isKind : MethodName := ⟨RX10, "isKind", "(I)Z"⟩
abbrev cX10_isPerson : ByteArray := prog_12_method_52_code
def yX10_isPerson : MethodName := ⟨RX10, "isPerson", "(I)Z"⟩
abbrev cX10_isBasin : ByteArray := prog_12_method_53_code
def yX10_isBasin : MethodName := ⟨RX10, "isBasin", "(I)Z"⟩
abbrev cX10_isRule : ByteArray := prog_12_method_54_code
def yX10_isRule : MethodName := ⟨RX10, "isRule", "(I)Z"⟩
abbrev cX10_fill : ByteArray := prog_12_method_55_code
def yX10_fill : MethodName := ⟨RX10, "fill", "()V"⟩
abbrev cX10_keepAir : ByteArray := prog_12_method_56_code
def yX10_keepAir : MethodName := ⟨RX10, "keepAir", "()V"⟩
abbrev cX10_hasTold : ByteArray := prog_12_method_57_code
def yX10_hasTold : MethodName := ⟨RX10, "hasTold", "(I)Z"⟩
abbrev cX10_isEased : ByteArray := prog_12_method_58_code
def yX10_isEased : MethodName := ⟨RX10, "isEased", "(I)Z"⟩
abbrev cX10_tells : ByteArray := prog_12_method_59_code
def yX10_tells : MethodName := ⟨RX10, "tells", "(I)V"⟩
abbrev cX10_tellAll : ByteArray := prog_12_method_60_code
def yX10_tellAll : MethodName := ⟨RX10, "tellAll", "(I)V"⟩
abbrev cX10_makes : ByteArray := prog_12_method_61_code
def yX10_makes : MethodName := ⟨RX10, "makes", "(II)I"⟩
abbrev cX10_boilBy : ByteArray := prog_12_method_62_code
def yX10_boilBy : MethodName := ⟨RX10, "boilBy", "(II)V"⟩
abbrev cX10_boilAll : ByteArray := prog_12_method_63_code
def yX10_boilAll : MethodName := ⟨RX10, "boilAll", "()V"⟩
abbrev cX10_skims : ByteArray := prog_12_method_64_code
def yX10_skims : MethodName := ⟨RX10, "skims", "()V"⟩
abbrev cX10_goBoiling : ByteArray := prog_12_method_65_code
def yX10_goBoiling : MethodName := ⟨RX10, "goBoiling", "(Z)Z"⟩
abbrev cX10_vat : ByteArray := prog_12_method_66_code
def yX10_vat : MethodName := ⟨RX10, "vat", "(I)I"⟩
abbrev cX10_mind : ByteArray := prog_12_method_67_code
def yX10_mind : MethodName := ⟨RX10, "mind", "(II)I"⟩
abbrev cX10_wants : ByteArray := prog_12_method_68_code
def yX10_wants : MethodName := ⟨RX10, "wants", "(II)I"⟩
abbrev cX10_rule : ByteArray := prog_12_method_69_code
def yX10_rule : MethodName := ⟨RX10, "rule", "(II)I"⟩
abbrev cX10_act : ByteArray := prog_12_method_70_code
def yX10_act : MethodName := ⟨RX10, "act", "()V"⟩
abbrev cX10_exchange : ByteArray := prog_12_method_71_code
def yX10_exchange : MethodName := ⟨RX10, "exchange", "(I)V"⟩
abbrev cX10_confess : ByteArray := prog_12_method_72_code
def yX10_confess : MethodName := ⟨RX10, "confess", "(I)I"⟩
abbrev cX10_boil : ByteArray := prog_12_method_73_code
def yX10_boil : MethodName := ⟨RX10, "boil", "()I"⟩
abbrev cX10_holds : ByteArray := prog_12_method_74_code
def yX10_holds : MethodName := ⟨RX10, "holds", "(I)Z"⟩
abbrev cX10_wash : ByteArray := prog_12_method_75_code
def yX10_wash : MethodName := ⟨RX10, "wash", "(I)I"⟩
abbrev cX10_sweep : ByteArray := prog_12_method_76_code
def yX10_sweep : MethodName := ⟨RX10, "sweep", "(I)I"⟩
abbrev cX10_undo : ByteArray := prog_12_method_77_code
def yX10_undo : MethodName := ⟨RX10, "undo", "()Z"⟩
abbrev cX10_redo : ByteArray := prog_12_method_78_code
def yX10_redo : MethodName := ⟨RX10, "redo", "()Z"⟩
abbrev cX10_will : ByteArray := prog_12_method_79_code
def yX10_will : MethodName := ⟨RX10, "will", "(III)I"⟩
abbrev cX10_risesIn : ByteArray := prog_12_method_80_code
def yX10_risesIn : MethodName := ⟨RX10, "risesIn", "(I)I"⟩
abbrev cX10_rise : ByteArray := prog_12_method_81_code
def yX10_rise : MethodName := ⟨RX10, "rise", "()I"⟩
abbrev cX10_rouser : ByteArray := prog_12_method_82_code
def yX10_rouser : MethodName := ⟨RX10, "rouser", "(I)I"⟩
abbrev cX10_silent : ByteArray := prog_12_method_83_code
def yX10_silent : MethodName := ⟨RX10, "silent", "()I"⟩
abbrev cX10_choir : ByteArray := prog_12_method_84_code
def yX10_choir : MethodName := ⟨RX10, "choir", "(II)I"⟩
abbrev cX10_risesWith : ByteArray := prog_12_method_85_code
def yX10_risesWith : MethodName := ⟨RX10, "risesWith", "(I)Z"⟩
abbrev cX10_power : ByteArray := prog_12_method_86_code
def yX10_power : MethodName := ⟨RX10, "power", "(I)I"⟩
abbrev cX10_serve : ByteArray := prog_12_method_87_code
def yX10_serve : MethodName := ⟨RX10, "serve", "(I)I"⟩
abbrev cX10_balm : ByteArray := prog_12_method_88_code
def yX10_balm : MethodName := ⟨RX10, "balm", "(II)I"⟩
abbrev cX10_cook : ByteArray := prog_12_method_89_code
def yX10_cook : MethodName := ⟨RX10, "cook", "(I)I"⟩
abbrev cX10_lackOf : ByteArray := prog_12_method_90_code
def yX10_lackOf : MethodName := ⟨RX10, "lackOf", "(I)I"⟩
abbrev cX10_lacks : ByteArray := prog_12_method_91_code
def yX10_lacks : MethodName := ⟨RX10, "lacks", "(I)I"⟩
abbrev cX10_rest : ByteArray := prog_12_method_92_code
def yX10_rest : MethodName := ⟨RX10, "rest", "()I"⟩
abbrev cX10_nextRow : ByteArray := prog_12_method_93_code
def yX10_nextRow : MethodName := ⟨RX10, "nextRow", "()Z"⟩
abbrev cX10_swap : ByteArray := prog_12_method_94_code
def yX10_swap : MethodName := ⟨RX10, "swap", "(II)V"⟩
abbrev cX10_order : ByteArray := prog_12_method_95_code
def yX10_order : MethodName := ⟨RX10, "order", "(I)I"⟩
abbrev cX10_comesOf : ByteArray := prog_12_method_96_code
def yX10_comesOf : MethodName := ⟨RX10, "comesOf", "(I)I"⟩
abbrev cX10_comes : ByteArray := prog_12_method_97_code
def yX10_comes : MethodName := ⟨RX10, "comes", "(I)I"⟩
abbrev cX10_steps : ByteArray := prog_12_method_98_code
def yX10_steps : MethodName := ⟨RX10, "steps", "(II)I"⟩
abbrev cX10_mindOf : ByteArray := prog_12_method_99_code
def yX10_mindOf : MethodName := ⟨RX10, "mindOf", "(I)I"⟩
abbrev cX10_duel : ByteArray := prog_12_method_100_code
def yX10_duel : MethodName := ⟨RX10, "duel", "(II)I"⟩
abbrev cX10_nearest : ByteArray := prog_12_method_101_code
def yX10_nearest : MethodName := ⟨RX10, "nearest", "()I"⟩
abbrev cX10_wanted : ByteArray := prog_12_method_102_code
def yX10_wanted : MethodName := ⟨RX10, "wanted", "(I)I"⟩
abbrev cX10_sinners : ByteArray := prog_12_method_103_code
def yX10_sinners : MethodName := ⟨RX10, "sinners", "(I)I"⟩
abbrev cX10_inert : ByteArray := prog_12_method_104_code
def yX10_inert : MethodName := ⟨RX10, "inert", "()I"⟩
abbrev cX10_alive : ByteArray := prog_12_method_105_code
def yX10_alive : MethodName := ⟨RX10, "alive", "()I"⟩
abbrev cX10_thickest : ByteArray := prog_12_method_106_code
def yX10_thickest : MethodName := ⟨RX10, "thickest", "()I"⟩
abbrev cX10_thinnest : ByteArray := prog_12_method_107_code
def yX10_thinnest : MethodName := ⟨RX10, "thinnest", "()I"⟩
abbrev cX10_makers : ByteArray := prog_12_method_108_code
def yX10_makers : MethodName := ⟨RX10, "makers", "(I)I"⟩
abbrev cX10_heaviest : ByteArray := prog_12_method_109_code
def yX10_heaviest : MethodName := ⟨RX10, "heaviest", "()I"⟩
abbrev cX10_law : ByteArray := prog_12_method_110_code
def yX10_law : MethodName := ⟨RX10, "law", "(I)I"⟩
abbrev cX10_mission : ByteArray := prog_12_method_111_code
def yX10_mission : MethodName := ⟨RX10, "mission", "()I"⟩
abbrev cX10_raised : ByteArray := prog_12_method_112_code
def yX10_raised : MethodName := ⟨RX10, "raised", "(II)I"⟩
abbrev cX10_divisor : ByteArray := prog_12_method_113_code
def yX10_divisor : MethodName := ⟨RX10, "divisor", "(II)I"⟩
abbrev cX10_odds : ByteArray := prog_12_method_114_code
def yX10_odds : MethodName := ⟨RX10, "odds", "(II)I"⟩
abbrev cX10_lies : ByteArray := prog_12_method_115_code
def yX10_lies : MethodName := ⟨RX10, "lies", "(I)I"⟩
abbrev cX10_seen : ByteArray := prog_12_method_116_code
def yX10_seen : MethodName := ⟨RX10, "seen", "(IIIZ)I"⟩
abbrev cX10_untell : ByteArray := prog_12_method_117_code
def yX10_untell : MethodName := ⟨RX10, "untell", "(I)Z"⟩
abbrev cX10_later : ByteArray := prog_12_method_118_code
def yX10_later : MethodName := ⟨RX10, "later", "(I)I"⟩
abbrev cX10_fitsMuch : ByteArray := prog_12_method_119_code
def yX10_fitsMuch : MethodName := ⟨RX10, "fitsMuch", "(II)Z"⟩
abbrev cX10_layFits : ByteArray := prog_12_method_120_code
def yX10_layFits : MethodName := ⟨RX10, "layFits", "(I)I"⟩
abbrev cX10_fits : ByteArray := prog_12_method_121_code
def yX10_fits : MethodName := ⟨RX10, "fits", "(I)I"⟩
abbrev cX10_sure : ByteArray := prog_12_method_122_code
def yX10_sure : MethodName := ⟨RX10, "sure", "(II)I"⟩
abbrev cX10_leftBy : ByteArray := prog_12_method_123_code
def yX10_leftBy : MethodName := ⟨RX10, "leftBy", "(II)I"⟩
abbrev cX10_ask : ByteArray := prog_12_method_124_code
def yX10_ask : MethodName := ⟨RX10, "ask", "(III)I"⟩
abbrev cX10_isBox : ByteArray := prog_12_method_125_code
def yX10_isBox : MethodName := ⟨RX10, "isBox", "(I)Z"⟩
abbrev cX10_image : ByteArray := prog_12_method_126_code
def yX10_image : MethodName := ⟨RX10, "image", "(I)I"⟩
abbrev cX10_back : ByteArray := prog_12_method_127_code
def yX10_back : MethodName := ⟨RX10, "back", "(I)I"⟩
abbrev cX10_about : ByteArray := prog_12_method_128_code
def yX10_about : MethodName := ⟨RX10, "about", "(I)I"⟩
def RJx145de : String := "java/io/Serializable"
def RJx9f9b0 : String := "java/lang/CharSequence"
def RJ11 : String := "java/lang/Character"
abbrev cJ11_isValidCodePoint_9a6ad : ByteArray := prog_13_method_11_code
def yJ11_isValidCodePoint_9a6ad : MethodName := ⟨RJ11, "isValidCodePoint", "(I)Z"⟩
abbrev cJ11_highSurrogate_5068e : ByteArray := prog_13_method_28_code
def yJ11_highSurrogate_5068e : MethodName := ⟨RJ11, "highSurrogate", "(I)C"⟩
abbrev cJ11_lowSurrogate_5068e : ByteArray := prog_13_method_29_code
def yJ11_lowSurrogate_5068e : MethodName := ⟨RJ11, "lowSurrogate", "(I)C"⟩
def RJxb160c : String := "java/lang/Comparable"
def RJ6 : String := "java/lang/Integer"
abbrev cJ6_numberOfLeadingZeros_0f7a4 : ByteArray := prog_14_method_47_code
def yJ6_numberOfLeadingZeros_0f7a4 : MethodName := ⟨RJ6, "numberOfLeadingZeros", "(I)I"⟩
abbrev cJ6_numberOfTrailingZeros_0f7a4 : ByteArray := prog_14_method_48_code
def yJ6_numberOfTrailingZeros_0f7a4 : MethodName := ⟨RJ6, "numberOfTrailingZeros", "(I)I"⟩
abbrev cJ6_bitCount_0f7a4 : ByteArray := prog_14_method_49_code
def yJ6_bitCount_0f7a4 : MethodName := ⟨RJ6, "bitCount", "(I)I"⟩
def RJ9 : String := "java/lang/Math"
abbrev cJ9_max_7cf53 : ByteArray := prog_15_method_65_code
def yJ9_max_7cf53 : MethodName := ⟨RJ9, "max", "(II)I"⟩
abbrev cJ9_min_7cf53 : ByteArray := prog_15_method_69_code
def yJ9_min_7cf53 : MethodName := ⟨RJ9, "min", "(II)I"⟩
def RJ0 : String := "java/lang/String"
abbrev cJ0_length_8abf5 : ByteArray := prog_16_method_54_code
def yJ0_length_8abf5 : MethodName := ⟨RJ0, "length", "()I"⟩
abbrev cJ0_charAt_5068e : ByteArray := prog_16_method_56_code
def yJ0_charAt_5068e : MethodName := ⟨RJ0, "charAt", "(I)C"⟩
abbrev cJ0_indexOf_0f7a4 : ByteArray := prog_16_method_79_code
def yJ0_indexOf_0f7a4 : MethodName := ⟨RJ0, "indexOf", "(I)I"⟩
abbrev cJ0_indexOf_7cf53 : ByteArray := prog_16_method_80_code
def yJ0_indexOf_7cf53 : MethodName := ⟨RJ0, "indexOf", "(II)I"⟩
abbrev cJ0_coder_7d493 : ByteArray := prog_16_method_152_code
def yJ0_coder_7d493 : MethodName := ⟨RJ0, "coder", "()B"⟩
abbrev cJ0_isLatin1_aae02 : ByteArray := prog_16_method_154_code
def yJ0_isLatin1_aae02 : MethodName := ⟨RJ0, "isLatin1", "()Z"⟩
abbrev cJ0_checkIndex_df160 : ByteArray := prog_16_method_155_code
def yJ0_checkIndex_df160 : MethodName := ⟨RJ0, "checkIndex", "(II)V"⟩
abbrev cJ0_checkBoundsBeginEnd_23922 : ByteArray := prog_16_method_158_code
def yJ0_checkBoundsBeginEnd_23922 : MethodName := ⟨RJ0, "checkBoundsBeginEnd", "(III)V"⟩
def RJ1 : String := "java/lang/StringLatin1"
abbrev cJ1_charAt_3b067 : ByteArray := prog_17_method_2_code
def yJ1_charAt_3b067 : MethodName := ⟨RJ1, "charAt", "([BI)C"⟩
abbrev cJ1_canEncode_9a6ad : ByteArray := prog_17_method_4_code
def yJ1_canEncode_9a6ad : MethodName := ⟨RJ1, "canEncode", "(I)Z"⟩
abbrev cJ1_indexOf_4cfef : ByteArray := prog_17_method_22_code
def yJ1_indexOf_4cfef : MethodName := ⟨RJ1, "indexOf", "([BIII)I"⟩
abbrev cJ1_indexOfChar_4cfef : ByteArray := prog_17_method_23_code
def yJ1_indexOfChar_4cfef : MethodName := ⟨RJ1, "indexOfChar", "([BIII)I"⟩
def RJ2 : String := "java/lang/StringUTF16"
abbrev cJ2_getChar_3b067 : ByteArray := prog_18_method_5_code
def yJ2_getChar_3b067 : MethodName := ⟨RJ2, "getChar", "([BI)C"⟩
abbrev cJ2_length_9d52b : ByteArray := prog_18_method_6_code
def yJ2_length_9d52b : MethodName := ⟨RJ2, "length", "([B)I"⟩
abbrev cJ2_indexOf_4cfef : ByteArray := prog_18_method_40_code
def yJ2_indexOf_4cfef : MethodName := ⟨RJ2, "indexOf", "([BIII)I"⟩
abbrev cJ2_indexOfChar_4cfef : ByteArray := prog_18_method_47_code
def yJ2_indexOfChar_4cfef : MethodName := ⟨RJ2, "indexOfChar", "([BIII)I"⟩
abbrev cJ2_indexOfCharUnsafe_4cfef : ByteArray := prog_18_method_48_code
def yJ2_indexOfCharUnsafe_4cfef : MethodName := ⟨RJ2, "indexOfCharUnsafe", "([BIII)I"⟩
abbrev cJ2_indexOfSupplementary_4cfef : ByteArray := prog_18_method_49_code
def yJ2_indexOfSupplementary_4cfef : MethodName := ⟨RJ2, "indexOfSupplementary", "([BIII)I"⟩
abbrev cJ2_charAt_3b067 : ByteArray := prog_18_method_83_code
def yJ2_charAt_3b067 : MethodName := ⟨RJ2, "charAt", "([BI)C"⟩
abbrev cJ2_checkIndex_2214a : ByteArray := prog_18_method_91_code
def yJ2_checkIndex_2214a : MethodName := ⟨RJ2, "checkIndex", "(I[B)V"⟩
abbrev cJ2_checkBoundsBeginEnd_d044e : ByteArray := prog_18_method_93_code
def yJ2_checkBoundsBeginEnd_d044e : MethodName := ⟨RJ2, "checkBoundsBeginEnd", "(II[B)V"⟩
def RJ10 : String := "java/lang/System"
def RJxfd54e : String := "java/lang/constant/Constable"
def RJx3cf43 : String := "java/lang/constant/ConstantDesc"
def RJ7 : String := "java/util/Arrays"
abbrev cJ7_fill_53178 : ByteArray := prog_20_method_103_code
def yJ7_fill_53178 : MethodName := ⟨RJ7, "fill", "([II)V"⟩
def RJ3 : String := "jdk/internal/util/Preconditions"
abbrev cJ3_checkIndex_8e157 : ByteArray := prog_21_method_11_code
def yJ3_checkIndex_8e157 : MethodName := ⟨RJ3, "checkIndex", "(IILjava/util/function/BiFunction;)I"⟩
abbrev cJ3_checkFromToIndex_8c36e : ByteArray := prog_21_method_12_code
def yJ3_checkFromToIndex_8c36e : MethodName := ⟨RJ3, "checkFromToIndex", "(IIILjava/util/function/BiFunction;)I"⟩
def RL : String := "SoapWorksLaw"
abbrev cL_law : ByteArray := code
def yL_law : MethodName := ⟨RL, "law", "([I)Z"⟩
