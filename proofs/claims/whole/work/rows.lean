section
-- ===== PART A: goes FIRST, ahead of the names: the tables' words, and 'selects' of the private methods out of them =====
/-- a private method of a class that the tables say can be made, by its rows of tables_1 -/
def lw_okq (q : MethodName × Nat) : Prop := (q.1.cls ≠ "java/lang/invoke/MethodHandle" ∧ q.1.cls ≠ "java/lang/invoke/VarHandle") ∧ Cond.instantiable q.1.cls q.2 ∈ tables_1 ∧ Cond.privateMethod q.1 ∈ tables_1 ∧ Cond.instanceMethod q.1 ∈ tables_1
theorem lw_p0 : lw_okq (⟨"SoapWorks$Tape", "readWord", "()V"⟩, 10) := ⟨⟨by decide +kernel, by decide +kernel⟩, List.mem_of_getElem? (i := 36) (by decide +kernel), List.mem_of_getElem? (i := 476) (by decide +kernel), List.mem_of_getElem? (i := 477) (by decide +kernel)⟩
theorem lw_p1 : lw_okq (⟨"SoapWorks$Tape", "readNumber", "()V"⟩, 10) := ⟨⟨by decide +kernel, by decide +kernel⟩, List.mem_of_getElem? (i := 36) (by decide +kernel), List.mem_of_getElem? (i := 486) (by decide +kernel), List.mem_of_getElem? (i := 487) (by decide +kernel)⟩
theorem lw_p2 : lw_okq (⟨"SoapWorks$Tape", "readSign", "()V"⟩, 10) := ⟨⟨by decide +kernel, by decide +kernel⟩, List.mem_of_getElem? (i := 36) (by decide +kernel), List.mem_of_getElem? (i := 490) (by decide +kernel), List.mem_of_getElem? (i := 491) (by decide +kernel)⟩
theorem lw_p3 : lw_okq (⟨"SoapWorks$Reader", "readKind", "()Z"⟩, 5) := ⟨⟨by decide +kernel, by decide +kernel⟩, List.mem_of_getElem? (i := 30) (by decide +kernel), List.mem_of_getElem? (i := 562) (by decide +kernel), List.mem_of_getElem? (i := 563) (by decide +kernel)⟩
theorem lw_p4 : lw_okq (⟨"SoapWorks$Reader", "refuse", "(I)Z"⟩, 5) := ⟨⟨by decide +kernel, by decide +kernel⟩, List.mem_of_getElem? (i := 30) (by decide +kernel), List.mem_of_getElem? (i := 566) (by decide +kernel), List.mem_of_getElem? (i := 567) (by decide +kernel)⟩
theorem lw_p5 : lw_okq (⟨"SoapWorks$Reader", "readNewName", "([JI)Z"⟩, 5) := ⟨⟨by decide +kernel, by decide +kernel⟩, List.mem_of_getElem? (i := 30) (by decide +kernel), List.mem_of_getElem? (i := 571) (by decide +kernel), List.mem_of_getElem? (i := 572) (by decide +kernel)⟩
theorem lw_p6 : lw_okq (⟨"SoapWorks$Reader", "readSign", "(I)Z"⟩, 5) := ⟨⟨by decide +kernel, by decide +kernel⟩, List.mem_of_getElem? (i := 30) (by decide +kernel), List.mem_of_getElem? (i := 580) (by decide +kernel), List.mem_of_getElem? (i := 581) (by decide +kernel)⟩
theorem lw_p7 : lw_okq (⟨"SoapWorks$Reader", "readPerson", "()Z"⟩, 5) := ⟨⟨by decide +kernel, by decide +kernel⟩, List.mem_of_getElem? (i := 30) (by decide +kernel), List.mem_of_getElem? (i := 584) (by decide +kernel), List.mem_of_getElem? (i := 585) (by decide +kernel)⟩
theorem lw_p8 : lw_okq (⟨"SoapWorks$Reader", "readKey", "(I)Z"⟩, 5) := ⟨⟨by decide +kernel, by decide +kernel⟩, List.mem_of_getElem? (i := 30) (by decide +kernel), List.mem_of_getElem? (i := 588) (by decide +kernel), List.mem_of_getElem? (i := 589) (by decide +kernel)⟩
theorem lw_p9 : lw_okq (⟨"SoapWorks$Reader", "readPortions", "([II)Z"⟩, 5) := ⟨⟨by decide +kernel, by decide +kernel⟩, List.mem_of_getElem? (i := 30) (by decide +kernel), List.mem_of_getElem? (i := 592) (by decide +kernel), List.mem_of_getElem? (i := 593) (by decide +kernel)⟩
theorem lw_p10 : lw_okq (⟨"SoapWorks$Reader", "knownKind", "()I"⟩, 5) := ⟨⟨by decide +kernel, by decide +kernel⟩, List.mem_of_getElem? (i := 30) (by decide +kernel), List.mem_of_getElem? (i := 596) (by decide +kernel), List.mem_of_getElem? (i := 597) (by decide +kernel)⟩
theorem lw_p11 : lw_okq (⟨"SoapWorks$Reader", "readNumber", "(II)I"⟩, 5) := ⟨⟨by decide +kernel, by decide +kernel⟩, List.mem_of_getElem? (i := 30) (by decide +kernel), List.mem_of_getElem? (i := 600) (by decide +kernel), List.mem_of_getElem? (i := 601) (by decide +kernel)⟩
theorem lw_p12 : lw_okq (⟨"SoapWorks$Reader", "readRule", "()Z"⟩, 5) := ⟨⟨by decide +kernel, by decide +kernel⟩, List.mem_of_getElem? (i := 30) (by decide +kernel), List.mem_of_getElem? (i := 604) (by decide +kernel), List.mem_of_getElem? (i := 605) (by decide +kernel)⟩
theorem lw_p13 : lw_okq (⟨"SoapWorks$Reader", "readKnownKind", "()I"⟩, 5) := ⟨⟨by decide +kernel, by decide +kernel⟩, List.mem_of_getElem? (i := 30) (by decide +kernel), List.mem_of_getElem? (i := 608) (by decide +kernel), List.mem_of_getElem? (i := 609) (by decide +kernel)⟩
theorem lw_p14 : lw_okq (⟨"SoapWorks$Reader", "readBasin", "()Z"⟩, 5) := ⟨⟨by decide +kernel, by decide +kernel⟩, List.mem_of_getElem? (i := 30) (by decide +kernel), List.mem_of_getElem? (i := 616) (by decide +kernel), List.mem_of_getElem? (i := 617) (by decide +kernel)⟩
theorem lw_p15 : lw_okq (⟨"SoapWorks$Reader", "readRises", "()Z"⟩, 5) := ⟨⟨by decide +kernel, by decide +kernel⟩, List.mem_of_getElem? (i := 30) (by decide +kernel), List.mem_of_getElem? (i := 620) (by decide +kernel), List.mem_of_getElem? (i := 621) (by decide +kernel)⟩
def lw_privs_1 : List (MethodName × Nat) := [(⟨"SoapWorks$Tape", "readWord", "()V"⟩, 10), (⟨"SoapWorks$Tape", "readNumber", "()V"⟩, 10), (⟨"SoapWorks$Tape", "readSign", "()V"⟩, 10), (⟨"SoapWorks$Reader", "readKind", "()Z"⟩, 5), (⟨"SoapWorks$Reader", "refuse", "(I)Z"⟩, 5), (⟨"SoapWorks$Reader", "readNewName", "([JI)Z"⟩, 5), (⟨"SoapWorks$Reader", "readSign", "(I)Z"⟩, 5), (⟨"SoapWorks$Reader", "readPerson", "()Z"⟩, 5), (⟨"SoapWorks$Reader", "readKey", "(I)Z"⟩, 5), (⟨"SoapWorks$Reader", "readPortions", "([II)Z"⟩, 5), (⟨"SoapWorks$Reader", "knownKind", "()I"⟩, 5), (⟨"SoapWorks$Reader", "readNumber", "(II)I"⟩, 5), (⟨"SoapWorks$Reader", "readRule", "()Z"⟩, 5), (⟨"SoapWorks$Reader", "readKnownKind", "()I"⟩, 5), (⟨"SoapWorks$Reader", "readBasin", "()Z"⟩, 5), (⟨"SoapWorks$Reader", "readRises", "()Z"⟩, 5)]
theorem lw_r1 : ∀ q ∈ lw_privs_1, lw_okq q := List.forall_mem_cons.mpr ⟨lw_p0, List.forall_mem_cons.mpr ⟨lw_p1, List.forall_mem_cons.mpr ⟨lw_p2, List.forall_mem_cons.mpr ⟨lw_p3, List.forall_mem_cons.mpr ⟨lw_p4, List.forall_mem_cons.mpr ⟨lw_p5, List.forall_mem_cons.mpr ⟨lw_p6, List.forall_mem_cons.mpr ⟨lw_p7, List.forall_mem_cons.mpr ⟨lw_p8, List.forall_mem_cons.mpr ⟨lw_p9, List.forall_mem_cons.mpr ⟨lw_p10, List.forall_mem_cons.mpr ⟨lw_p11, List.forall_mem_cons.mpr ⟨lw_p12, List.forall_mem_cons.mpr ⟨lw_p13, List.forall_mem_cons.mpr ⟨lw_p14, List.forall_mem_cons.mpr ⟨lw_p15, fun _ h => absurd h List.not_mem_nil⟩⟩⟩⟩⟩⟩⟩⟩⟩⟩⟩⟩⟩⟩⟩⟩
theorem lw_p16 : lw_okq (⟨"SoapWorks$Reader", "readFormula", "(II)Z"⟩, 5) := ⟨⟨by decide +kernel, by decide +kernel⟩, List.mem_of_getElem? (i := 30) (by decide +kernel), List.mem_of_getElem? (i := 624) (by decide +kernel), List.mem_of_getElem? (i := 625) (by decide +kernel)⟩
theorem lw_p17 : lw_okq (⟨"SoapWorks$Reader", "readUnit", "(I)Z"⟩, 5) := ⟨⟨by decide +kernel, by decide +kernel⟩, List.mem_of_getElem? (i := 30) (by decide +kernel), List.mem_of_getElem? (i := 628) (by decide +kernel), List.mem_of_getElem? (i := 629) (by decide +kernel)⟩
theorem lw_p18 : lw_okq (⟨"SoapWorks$Reader", "readNot", "(I)Z"⟩, 5) := ⟨⟨by decide +kernel, by decide +kernel⟩, List.mem_of_getElem? (i := 30) (by decide +kernel), List.mem_of_getElem? (i := 636) (by decide +kernel), List.mem_of_getElem? (i := 637) (by decide +kernel)⟩
theorem lw_p19 : lw_okq (⟨"SoapWorks$Reader", "signOfLevel", "(I)I"⟩, 5) := ⟨⟨by decide +kernel, by decide +kernel⟩, List.mem_of_getElem? (i := 30) (by decide +kernel), List.mem_of_getElem? (i := 640) (by decide +kernel), List.mem_of_getElem? (i := 641) (by decide +kernel)⟩
theorem lw_p20 : lw_okq (⟨"SoapWorks$Reader", "readScum", "()Z"⟩, 5) := ⟨⟨by decide +kernel, by decide +kernel⟩, List.mem_of_getElem? (i := 30) (by decide +kernel), List.mem_of_getElem? (i := 644) (by decide +kernel), List.mem_of_getElem? (i := 645) (by decide +kernel)⟩
theorem lw_p21 : lw_okq (⟨"SoapWorks$Reader", "readDraw", "()Z"⟩, 5) := ⟨⟨by decide +kernel, by decide +kernel⟩, List.mem_of_getElem? (i := 30) (by decide +kernel), List.mem_of_getElem? (i := 648) (by decide +kernel), List.mem_of_getElem? (i := 649) (by decide +kernel)⟩
theorem lw_p22 : lw_okq (⟨"SoapWorks", "isSilent", "(I)Z"⟩, 10) := ⟨⟨by decide +kernel, by decide +kernel⟩, List.mem_of_getElem? (i := 22) (by decide +kernel), List.mem_of_getElem? (i := 713) (by decide +kernel), List.mem_of_getElem? (i := 714) (by decide +kernel)⟩
theorem lw_p23 : lw_okq (⟨"SoapWorks$Plan", "drawScum", "(LSoapWorks$Vat;)V"⟩, 16) := ⟨⟨by decide +kernel, by decide +kernel⟩, List.mem_of_getElem? (i := 139) (by decide +kernel), List.mem_of_getElem? (i := 779) (by decide +kernel), List.mem_of_getElem? (i := 780) (by decide +kernel)⟩
theorem lw_p24 : lw_okq (⟨"SoapWorks$Formula", "measure", "(LSoapWorks$Vat;I)V"⟩, 6) := ⟨⟨by decide +kernel, by decide +kernel⟩, List.mem_of_getElem? (i := 145) (by decide +kernel), List.mem_of_getElem? (i := 792) (by decide +kernel), List.mem_of_getElem? (i := 793) (by decide +kernel)⟩
theorem lw_p25 : lw_okq (⟨"SoapWorks", "isEased", "(I)Z"⟩, 10) := ⟨⟨by decide +kernel, by decide +kernel⟩, List.mem_of_getElem? (i := 22) (by decide +kernel), List.mem_of_getElem? (i := 811) (by decide +kernel), List.mem_of_getElem? (i := 812) (by decide +kernel)⟩
theorem lw_p26 : lw_okq (⟨"SoapWorks", "silentOnes", "()I"⟩, 10) := ⟨⟨by decide +kernel, by decide +kernel⟩, List.mem_of_getElem? (i := 22) (by decide +kernel), List.mem_of_getElem? (i := 876) (by decide +kernel), List.mem_of_getElem? (i := 877) (by decide +kernel)⟩
theorem lw_p27 : lw_okq (⟨"SoapWorks$Outlook", "muchByOrder", "(LSoapWorks$Plan;LSoapWorks$Vat;I)I"⟩, 3) := ⟨⟨by decide +kernel, by decide +kernel⟩, List.mem_of_getElem? (i := 344) (by decide +kernel), List.mem_of_getElem? (i := 936) (by decide +kernel), List.mem_of_getElem? (i := 937) (by decide +kernel)⟩
theorem lw_p28 : lw_okq (⟨"SoapWorks$Outlook", "toNextOrder", "(I)Z"⟩, 3) := ⟨⟨by decide +kernel, by decide +kernel⟩, List.mem_of_getElem? (i := 344) (by decide +kernel), List.mem_of_getElem? (i := 943) (by decide +kernel), List.mem_of_getElem? (i := 944) (by decide +kernel)⟩
theorem lw_p29 : lw_okq (⟨"SoapWorks$Outlook", "exchange", "(II)V"⟩, 3) := ⟨⟨by decide +kernel, by decide +kernel⟩, List.mem_of_getElem? (i := 344) (by decide +kernel), List.mem_of_getElem? (i := 947) (by decide +kernel), List.mem_of_getElem? (i := 948) (by decide +kernel)⟩
theorem lw_p30 : lw_okq (⟨"SoapWorks$Sightings", "followCourses", "(LSoapWorks$Plan;)V"⟩, 10) := ⟨⟨by decide +kernel, by decide +kernel⟩, List.mem_of_getElem? (i := 362) (by decide +kernel), List.mem_of_getElem? (i := 1079) (by decide +kernel), List.mem_of_getElem? (i := 1080) (by decide +kernel)⟩
theorem lw_p31 : lw_okq (⟨"SoapWorks$Sightings", "tellAll", "(LSoapWorks$Plan;I)V"⟩, 10) := ⟨⟨by decide +kernel, by decide +kernel⟩, List.mem_of_getElem? (i := 362) (by decide +kernel), List.mem_of_getElem? (i := 1083) (by decide +kernel), List.mem_of_getElem? (i := 1084) (by decide +kernel)⟩
def lw_privs_2 : List (MethodName × Nat) := [(⟨"SoapWorks$Reader", "readFormula", "(II)Z"⟩, 5), (⟨"SoapWorks$Reader", "readUnit", "(I)Z"⟩, 5), (⟨"SoapWorks$Reader", "readNot", "(I)Z"⟩, 5), (⟨"SoapWorks$Reader", "signOfLevel", "(I)I"⟩, 5), (⟨"SoapWorks$Reader", "readScum", "()Z"⟩, 5), (⟨"SoapWorks$Reader", "readDraw", "()Z"⟩, 5), (⟨"SoapWorks", "isSilent", "(I)Z"⟩, 10), (⟨"SoapWorks$Plan", "drawScum", "(LSoapWorks$Vat;)V"⟩, 16), (⟨"SoapWorks$Formula", "measure", "(LSoapWorks$Vat;I)V"⟩, 6), (⟨"SoapWorks", "isEased", "(I)Z"⟩, 10), (⟨"SoapWorks", "silentOnes", "()I"⟩, 10), (⟨"SoapWorks$Outlook", "muchByOrder", "(LSoapWorks$Plan;LSoapWorks$Vat;I)I"⟩, 3), (⟨"SoapWorks$Outlook", "toNextOrder", "(I)Z"⟩, 3), (⟨"SoapWorks$Outlook", "exchange", "(II)V"⟩, 3), (⟨"SoapWorks$Sightings", "followCourses", "(LSoapWorks$Plan;)V"⟩, 10), (⟨"SoapWorks$Sightings", "tellAll", "(LSoapWorks$Plan;I)V"⟩, 10)]
theorem lw_r2 : ∀ q ∈ lw_privs_2, lw_okq q := List.forall_mem_cons.mpr ⟨lw_p16, List.forall_mem_cons.mpr ⟨lw_p17, List.forall_mem_cons.mpr ⟨lw_p18, List.forall_mem_cons.mpr ⟨lw_p19, List.forall_mem_cons.mpr ⟨lw_p20, List.forall_mem_cons.mpr ⟨lw_p21, List.forall_mem_cons.mpr ⟨lw_p22, List.forall_mem_cons.mpr ⟨lw_p23, List.forall_mem_cons.mpr ⟨lw_p24, List.forall_mem_cons.mpr ⟨lw_p25, List.forall_mem_cons.mpr ⟨lw_p26, List.forall_mem_cons.mpr ⟨lw_p27, List.forall_mem_cons.mpr ⟨lw_p28, List.forall_mem_cons.mpr ⟨lw_p29, List.forall_mem_cons.mpr ⟨lw_p30, List.forall_mem_cons.mpr ⟨lw_p31, fun _ h => absurd h List.not_mem_nil⟩⟩⟩⟩⟩⟩⟩⟩⟩⟩⟩⟩⟩⟩⟩⟩
theorem lw_p32 : lw_okq (⟨"SoapWorks$Sightings", "isBorneOut", "(II)Z"⟩, 10) := ⟨⟨by decide +kernel, by decide +kernel⟩, List.mem_of_getElem? (i := 362) (by decide +kernel), List.mem_of_getElem? (i := 1095) (by decide +kernel), List.mem_of_getElem? (i := 1096) (by decide +kernel)⟩
theorem lw_p33 : lw_okq (⟨"SoapWorks$Sightings", "counts", "(II)Z"⟩, 10) := ⟨⟨by decide +kernel, by decide +kernel⟩, List.mem_of_getElem? (i := 362) (by decide +kernel), List.mem_of_getElem? (i := 1099) (by decide +kernel), List.mem_of_getElem? (i := 1100) (by decide +kernel)⟩
theorem lw_p34 : lw_okq (⟨"SoapWorks$Sightings", "alike", "(IIII)I"⟩, 10) := ⟨⟨by decide +kernel, by decide +kernel⟩, List.mem_of_getElem? (i := 362) (by decide +kernel), List.mem_of_getElem? (i := 1118) (by decide +kernel), List.mem_of_getElem? (i := 1119) (by decide +kernel)⟩
theorem lw_p35 : lw_okq (⟨"SoapWorksModel", "four", "(I)V"⟩, 73) := ⟨⟨by decide +kernel, by decide +kernel⟩, List.mem_of_getElem? (i := 1157) (by decide +kernel), List.mem_of_getElem? (i := 1387) (by decide +kernel), List.mem_of_getElem? (i := 1388) (by decide +kernel)⟩
theorem lw_p36 : lw_okq (⟨"SoapWorksModel", "readAll", "()V"⟩, 73) := ⟨⟨by decide +kernel, by decide +kernel⟩, List.mem_of_getElem? (i := 1157) (by decide +kernel), List.mem_of_getElem? (i := 1399) (by decide +kernel), List.mem_of_getElem? (i := 1400) (by decide +kernel)⟩
theorem lw_p37 : lw_okq (⟨"SoapWorksModel", "token", "()V"⟩, 73) := ⟨⟨by decide +kernel, by decide +kernel⟩, List.mem_of_getElem? (i := 1157) (by decide +kernel), List.mem_of_getElem? (i := 1403) (by decide +kernel), List.mem_of_getElem? (i := 1404) (by decide +kernel)⟩
theorem lw_p38 : lw_okq (⟨"SoapWorksModel", "here", "(I)I"⟩, 73) := ⟨⟨by decide +kernel, by decide +kernel⟩, List.mem_of_getElem? (i := 1157) (by decide +kernel), List.mem_of_getElem? (i := 1407) (by decide +kernel), List.mem_of_getElem? (i := 1408) (by decide +kernel)⟩
theorem lw_p39 : lw_okq (⟨"SoapWorksModel", "readLine", "()V"⟩, 73) := ⟨⟨by decide +kernel, by decide +kernel⟩, List.mem_of_getElem? (i := 1157) (by decide +kernel), List.mem_of_getElem? (i := 1420) (by decide +kernel), List.mem_of_getElem? (i := 1421) (by decide +kernel)⟩
theorem lw_p40 : lw_okq (⟨"SoapWorksModel", "isWord", "(J)Z"⟩, 73) := ⟨⟨by decide +kernel, by decide +kernel⟩, List.mem_of_getElem? (i := 1157) (by decide +kernel), List.mem_of_getElem? (i := 1425) (by decide +kernel), List.mem_of_getElem? (i := 1426) (by decide +kernel)⟩
theorem lw_p41 : lw_okq (⟨"SoapWorksModel", "readKind", "()V"⟩, 73) := ⟨⟨by decide +kernel, by decide +kernel⟩, List.mem_of_getElem? (i := 1157) (by decide +kernel), List.mem_of_getElem? (i := 1429) (by decide +kernel), List.mem_of_getElem? (i := 1430) (by decide +kernel)⟩
theorem lw_p42 : lw_okq (⟨"SoapWorksModel", "newName", "(II)V"⟩, 73) := ⟨⟨by decide +kernel, by decide +kernel⟩, List.mem_of_getElem? (i := 1157) (by decide +kernel), List.mem_of_getElem? (i := 1433) (by decide +kernel), List.mem_of_getElem? (i := 1434) (by decide +kernel)⟩
theorem lw_p43 : lw_okq (⟨"SoapWorksModel", "isName", "()Z"⟩, 73) := ⟨⟨by decide +kernel, by decide +kernel⟩, List.mem_of_getElem? (i := 1157) (by decide +kernel), List.mem_of_getElem? (i := 1437) (by decide +kernel), List.mem_of_getElem? (i := 1438) (by decide +kernel)⟩
theorem lw_p44 : lw_okq (⟨"SoapWorksModel", "isOwn", "()Z"⟩, 73) := ⟨⟨by decide +kernel, by decide +kernel⟩, List.mem_of_getElem? (i := 1157) (by decide +kernel), List.mem_of_getElem? (i := 1441) (by decide +kernel), List.mem_of_getElem? (i := 1442) (by decide +kernel)⟩
theorem lw_p45 : lw_okq (⟨"SoapWorksModel", "wrong", "(I)V"⟩, 73) := ⟨⟨by decide +kernel, by decide +kernel⟩, List.mem_of_getElem? (i := 1157) (by decide +kernel), List.mem_of_getElem? (i := 1463) (by decide +kernel), List.mem_of_getElem? (i := 1464) (by decide +kernel)⟩
theorem lw_p46 : lw_okq (⟨"SoapWorksModel", "find", "(II)I"⟩, 73) := ⟨⟨by decide +kernel, by decide +kernel⟩, List.mem_of_getElem? (i := 1157) (by decide +kernel), List.mem_of_getElem? (i := 1467) (by decide +kernel), List.mem_of_getElem? (i := 1468) (by decide +kernel)⟩
theorem lw_p47 : lw_okq (⟨"SoapWorksModel", "readPerson", "()V"⟩, 73) := ⟨⟨by decide +kernel, by decide +kernel⟩, List.mem_of_getElem? (i := 1157) (by decide +kernel), List.mem_of_getElem? (i := 1471) (by decide +kernel), List.mem_of_getElem? (i := 1472) (by decide +kernel)⟩
def lw_privs_3 : List (MethodName × Nat) := [(⟨"SoapWorks$Sightings", "isBorneOut", "(II)Z"⟩, 10), (⟨"SoapWorks$Sightings", "counts", "(II)Z"⟩, 10), (⟨"SoapWorks$Sightings", "alike", "(IIII)I"⟩, 10), (⟨"SoapWorksModel", "four", "(I)V"⟩, 73), (⟨"SoapWorksModel", "readAll", "()V"⟩, 73), (⟨"SoapWorksModel", "token", "()V"⟩, 73), (⟨"SoapWorksModel", "here", "(I)I"⟩, 73), (⟨"SoapWorksModel", "readLine", "()V"⟩, 73), (⟨"SoapWorksModel", "isWord", "(J)Z"⟩, 73), (⟨"SoapWorksModel", "readKind", "()V"⟩, 73), (⟨"SoapWorksModel", "newName", "(II)V"⟩, 73), (⟨"SoapWorksModel", "isName", "()Z"⟩, 73), (⟨"SoapWorksModel", "isOwn", "()Z"⟩, 73), (⟨"SoapWorksModel", "wrong", "(I)V"⟩, 73), (⟨"SoapWorksModel", "find", "(II)I"⟩, 73), (⟨"SoapWorksModel", "readPerson", "()V"⟩, 73)]
theorem lw_r3 : ∀ q ∈ lw_privs_3, lw_okq q := List.forall_mem_cons.mpr ⟨lw_p32, List.forall_mem_cons.mpr ⟨lw_p33, List.forall_mem_cons.mpr ⟨lw_p34, List.forall_mem_cons.mpr ⟨lw_p35, List.forall_mem_cons.mpr ⟨lw_p36, List.forall_mem_cons.mpr ⟨lw_p37, List.forall_mem_cons.mpr ⟨lw_p38, List.forall_mem_cons.mpr ⟨lw_p39, List.forall_mem_cons.mpr ⟨lw_p40, List.forall_mem_cons.mpr ⟨lw_p41, List.forall_mem_cons.mpr ⟨lw_p42, List.forall_mem_cons.mpr ⟨lw_p43, List.forall_mem_cons.mpr ⟨lw_p44, List.forall_mem_cons.mpr ⟨lw_p45, List.forall_mem_cons.mpr ⟨lw_p46, List.forall_mem_cons.mpr ⟨lw_p47, fun _ h => absurd h List.not_mem_nil⟩⟩⟩⟩⟩⟩⟩⟩⟩⟩⟩⟩⟩⟩⟩⟩
theorem lw_p48 : lw_okq (⟨"SoapWorksModel", "want", "(J)V"⟩, 73) := ⟨⟨by decide +kernel, by decide +kernel⟩, List.mem_of_getElem? (i := 1157) (by decide +kernel), List.mem_of_getElem? (i := 1475) (by decide +kernel), List.mem_of_getElem? (i := 1476) (by decide +kernel)⟩
theorem lw_p49 : lw_okq (⟨"SoapWorksModel", "readAllOf", "([II)V"⟩, 73) := ⟨⟨by decide +kernel, by decide +kernel⟩, List.mem_of_getElem? (i := 1157) (by decide +kernel), List.mem_of_getElem? (i := 1479) (by decide +kernel), List.mem_of_getElem? (i := 1480) (by decide +kernel)⟩
theorem lw_p50 : lw_okq (⟨"SoapWorksModel", "readSome", "([II)V"⟩, 73) := ⟨⟨by decide +kernel, by decide +kernel⟩, List.mem_of_getElem? (i := 1157) (by decide +kernel), List.mem_of_getElem? (i := 1483) (by decide +kernel), List.mem_of_getElem? (i := 1484) (by decide +kernel)⟩
theorem lw_p51 : lw_okq (⟨"SoapWorksModel", "oldKind", "()I"⟩, 73) := ⟨⟨by decide +kernel, by decide +kernel⟩, List.mem_of_getElem? (i := 1157) (by decide +kernel), List.mem_of_getElem? (i := 1487) (by decide +kernel), List.mem_of_getElem? (i := 1488) (by decide +kernel)⟩
theorem lw_p52 : lw_okq (⟨"SoapWorksModel", "toldNumber", "(II)I"⟩, 73) := ⟨⟨by decide +kernel, by decide +kernel⟩, List.mem_of_getElem? (i := 1157) (by decide +kernel), List.mem_of_getElem? (i := 1491) (by decide +kernel), List.mem_of_getElem? (i := 1492) (by decide +kernel)⟩
theorem lw_p53 : lw_okq (⟨"SoapWorksModel", "readRule", "()V"⟩, 73) := ⟨⟨by decide +kernel, by decide +kernel⟩, List.mem_of_getElem? (i := 1157) (by decide +kernel), List.mem_of_getElem? (i := 1495) (by decide +kernel), List.mem_of_getElem? (i := 1496) (by decide +kernel)⟩
theorem lw_p54 : lw_okq (⟨"SoapWorksModel", "readBasin", "()V"⟩, 73) := ⟨⟨by decide +kernel, by decide +kernel⟩, List.mem_of_getElem? (i := 1157) (by decide +kernel), List.mem_of_getElem? (i := 1499) (by decide +kernel), List.mem_of_getElem? (i := 1500) (by decide +kernel)⟩
theorem lw_p55 : lw_okq (⟨"SoapWorksModel", "formula", "()V"⟩, 73) := ⟨⟨by decide +kernel, by decide +kernel⟩, List.mem_of_getElem? (i := 1157) (by decide +kernel), List.mem_of_getElem? (i := 1503) (by decide +kernel), List.mem_of_getElem? (i := 1504) (by decide +kernel)⟩
theorem lw_p56 : lw_okq (⟨"SoapWorksModel", "unit", "()V"⟩, 73) := ⟨⟨by decide +kernel, by decide +kernel⟩, List.mem_of_getElem? (i := 1157) (by decide +kernel), List.mem_of_getElem? (i := 1507) (by decide +kernel), List.mem_of_getElem? (i := 1508) (by decide +kernel)⟩
theorem lw_p57 : lw_okq (⟨"SoapWorksModel", "mayNot", "()Z"⟩, 73) := ⟨⟨by decide +kernel, by decide +kernel⟩, List.mem_of_getElem? (i := 1157) (by decide +kernel), List.mem_of_getElem? (i := 1511) (by decide +kernel), List.mem_of_getElem? (i := 1512) (by decide +kernel)⟩
theorem lw_p58 : lw_okq (⟨"SoapWorksModel", "openUp", "(I)V"⟩, 73) := ⟨⟨by decide +kernel, by decide +kernel⟩, List.mem_of_getElem? (i := 1157) (by decide +kernel), List.mem_of_getElem? (i := 1518) (by decide +kernel), List.mem_of_getElem? (i := 1519) (by decide +kernel)⟩
theorem lw_p59 : lw_okq (⟨"SoapWorksModel", "isFull", "()Z"⟩, 73) := ⟨⟨by decide +kernel, by decide +kernel⟩, List.mem_of_getElem? (i := 1157) (by decide +kernel), List.mem_of_getElem? (i := 1522) (by decide +kernel), List.mem_of_getElem? (i := 1523) (by decide +kernel)⟩
theorem lw_p60 : lw_okq (⟨"SoapWorksModel", "countUnit", "()V"⟩, 73) := ⟨⟨by decide +kernel, by decide +kernel⟩, List.mem_of_getElem? (i := 1157) (by decide +kernel), List.mem_of_getElem? (i := 1526) (by decide +kernel), List.mem_of_getElem? (i := 1527) (by decide +kernel)⟩
theorem lw_p61 : lw_okq (⟨"SoapWorksModel", "asked", "()I"⟩, 73) := ⟨⟨by decide +kernel, by decide +kernel⟩, List.mem_of_getElem? (i := 1157) (by decide +kernel), List.mem_of_getElem? (i := 1530) (by decide +kernel), List.mem_of_getElem? (i := 1531) (by decide +kernel)⟩
theorem lw_p62 : lw_okq (⟨"SoapWorksModel", "add", "(II)V"⟩, 73) := ⟨⟨by decide +kernel, by decide +kernel⟩, List.mem_of_getElem? (i := 1157) (by decide +kernel), List.mem_of_getElem? (i := 1534) (by decide +kernel), List.mem_of_getElem? (i := 1535) (by decide +kernel)⟩
theorem lw_p63 : lw_okq (⟨"SoapWorksModel", "sign", "()I"⟩, 73) := ⟨⟨by decide +kernel, by decide +kernel⟩, List.mem_of_getElem? (i := 1157) (by decide +kernel), List.mem_of_getElem? (i := 1538) (by decide +kernel), List.mem_of_getElem? (i := 1539) (by decide +kernel)⟩
def lw_privs_4 : List (MethodName × Nat) := [(⟨"SoapWorksModel", "want", "(J)V"⟩, 73), (⟨"SoapWorksModel", "readAllOf", "([II)V"⟩, 73), (⟨"SoapWorksModel", "readSome", "([II)V"⟩, 73), (⟨"SoapWorksModel", "oldKind", "()I"⟩, 73), (⟨"SoapWorksModel", "toldNumber", "(II)I"⟩, 73), (⟨"SoapWorksModel", "readRule", "()V"⟩, 73), (⟨"SoapWorksModel", "readBasin", "()V"⟩, 73), (⟨"SoapWorksModel", "formula", "()V"⟩, 73), (⟨"SoapWorksModel", "unit", "()V"⟩, 73), (⟨"SoapWorksModel", "mayNot", "()Z"⟩, 73), (⟨"SoapWorksModel", "openUp", "(I)V"⟩, 73), (⟨"SoapWorksModel", "isFull", "()Z"⟩, 73), (⟨"SoapWorksModel", "countUnit", "()V"⟩, 73), (⟨"SoapWorksModel", "asked", "()I"⟩, 73), (⟨"SoapWorksModel", "add", "(II)V"⟩, 73), (⟨"SoapWorksModel", "sign", "()I"⟩, 73)]
theorem lw_r4 : ∀ q ∈ lw_privs_4, lw_okq q := List.forall_mem_cons.mpr ⟨lw_p48, List.forall_mem_cons.mpr ⟨lw_p49, List.forall_mem_cons.mpr ⟨lw_p50, List.forall_mem_cons.mpr ⟨lw_p51, List.forall_mem_cons.mpr ⟨lw_p52, List.forall_mem_cons.mpr ⟨lw_p53, List.forall_mem_cons.mpr ⟨lw_p54, List.forall_mem_cons.mpr ⟨lw_p55, List.forall_mem_cons.mpr ⟨lw_p56, List.forall_mem_cons.mpr ⟨lw_p57, List.forall_mem_cons.mpr ⟨lw_p58, List.forall_mem_cons.mpr ⟨lw_p59, List.forall_mem_cons.mpr ⟨lw_p60, List.forall_mem_cons.mpr ⟨lw_p61, List.forall_mem_cons.mpr ⟨lw_p62, List.forall_mem_cons.mpr ⟨lw_p63, fun _ h => absurd h List.not_mem_nil⟩⟩⟩⟩⟩⟩⟩⟩⟩⟩⟩⟩⟩⟩⟩⟩
theorem lw_p64 : lw_okq (⟨"SoapWorksModel", "hasBracket", "()Z"⟩, 73) := ⟨⟨by decide +kernel, by decide +kernel⟩, List.mem_of_getElem? (i := 1157) (by decide +kernel), List.mem_of_getElem? (i := 1542) (by decide +kernel), List.mem_of_getElem? (i := 1543) (by decide +kernel)⟩
theorem lw_p65 : lw_okq (⟨"SoapWorksModel", "close", "(I)V"⟩, 73) := ⟨⟨by decide +kernel, by decide +kernel⟩, List.mem_of_getElem? (i := 1157) (by decide +kernel), List.mem_of_getElem? (i := 1546) (by decide +kernel), List.mem_of_getElem? (i := 1547) (by decide +kernel)⟩
theorem lw_p66 : lw_okq (⟨"SoapWorksModel", "hasRelation", "()Z"⟩, 73) := ⟨⟨by decide +kernel, by decide +kernel⟩, List.mem_of_getElem? (i := 1157) (by decide +kernel), List.mem_of_getElem? (i := 1550) (by decide +kernel), List.mem_of_getElem? (i := 1551) (by decide +kernel)⟩
theorem lw_p67 : lw_okq (⟨"SoapWorksModel", "told", "(JII)I"⟩, 73) := ⟨⟨by decide +kernel, by decide +kernel⟩, List.mem_of_getElem? (i := 1157) (by decide +kernel), List.mem_of_getElem? (i := 1554) (by decide +kernel), List.mem_of_getElem? (i := 1555) (by decide +kernel)⟩
theorem lw_p68 : lw_okq (⟨"SoapWorksModel", "isKind", "(I)Z"⟩, 73) := ⟨⟨by decide +kernel, by decide +kernel⟩, List.mem_of_getElem? (i := 1157) (by decide +kernel), List.mem_of_getElem? (i := 1566) (by decide +kernel), List.mem_of_getElem? (i := 1567) (by decide +kernel)⟩
theorem lw_p69 : lw_okq (⟨"SoapWorksModel", "isPerson", "(I)Z"⟩, 73) := ⟨⟨by decide +kernel, by decide +kernel⟩, List.mem_of_getElem? (i := 1157) (by decide +kernel), List.mem_of_getElem? (i := 1577) (by decide +kernel), List.mem_of_getElem? (i := 1578) (by decide +kernel)⟩
theorem lw_p70 : lw_okq (⟨"SoapWorksModel", "isBasin", "(I)Z"⟩, 73) := ⟨⟨by decide +kernel, by decide +kernel⟩, List.mem_of_getElem? (i := 1157) (by decide +kernel), List.mem_of_getElem? (i := 1585) (by decide +kernel), List.mem_of_getElem? (i := 1586) (by decide +kernel)⟩
theorem lw_p71 : lw_okq (⟨"SoapWorksModel", "isRule", "(I)Z"⟩, 73) := ⟨⟨by decide +kernel, by decide +kernel⟩, List.mem_of_getElem? (i := 1157) (by decide +kernel), List.mem_of_getElem? (i := 1593) (by decide +kernel), List.mem_of_getElem? (i := 1594) (by decide +kernel)⟩
theorem lw_p72 : lw_okq (⟨"SoapWorksModel", "hasTold", "(I)Z"⟩, 73) := ⟨⟨by decide +kernel, by decide +kernel⟩, List.mem_of_getElem? (i := 1157) (by decide +kernel), List.mem_of_getElem? (i := 1601) (by decide +kernel), List.mem_of_getElem? (i := 1602) (by decide +kernel)⟩
theorem lw_p73 : lw_okq (⟨"SoapWorksModel", "act", "()V"⟩, 73) := ⟨⟨by decide +kernel, by decide +kernel⟩, List.mem_of_getElem? (i := 1157) (by decide +kernel), List.mem_of_getElem? (i := 1605) (by decide +kernel), List.mem_of_getElem? (i := 1606) (by decide +kernel)⟩
theorem lw_p74 : lw_okq (⟨"SoapWorksModel", "fill", "()V"⟩, 73) := ⟨⟨by decide +kernel, by decide +kernel⟩, List.mem_of_getElem? (i := 1157) (by decide +kernel), List.mem_of_getElem? (i := 1609) (by decide +kernel), List.mem_of_getElem? (i := 1610) (by decide +kernel)⟩
theorem lw_p75 : lw_okq (⟨"SoapWorksModel", "tells", "(I)V"⟩, 73) := ⟨⟨by decide +kernel, by decide +kernel⟩, List.mem_of_getElem? (i := 1157) (by decide +kernel), List.mem_of_getElem? (i := 1613) (by decide +kernel), List.mem_of_getElem? (i := 1614) (by decide +kernel)⟩
theorem lw_p76 : lw_okq (⟨"SoapWorksModel", "keepAir", "()V"⟩, 73) := ⟨⟨by decide +kernel, by decide +kernel⟩, List.mem_of_getElem? (i := 1157) (by decide +kernel), List.mem_of_getElem? (i := 1620) (by decide +kernel), List.mem_of_getElem? (i := 1621) (by decide +kernel)⟩
theorem lw_p77 : lw_okq (⟨"SoapWorksModel", "allOf", "()I"⟩, 73) := ⟨⟨by decide +kernel, by decide +kernel⟩, List.mem_of_getElem? (i := 1157) (by decide +kernel), List.mem_of_getElem? (i := 1624) (by decide +kernel), List.mem_of_getElem? (i := 1625) (by decide +kernel)⟩
theorem lw_p78 : lw_okq (⟨"SoapWorksModel", "goBoiling", "(Z)Z"⟩, 73) := ⟨⟨by decide +kernel, by decide +kernel⟩, List.mem_of_getElem? (i := 1157) (by decide +kernel), List.mem_of_getElem? (i := 1632) (by decide +kernel), List.mem_of_getElem? (i := 1633) (by decide +kernel)⟩
theorem lw_p79 : lw_okq (⟨"SoapWorksModel", "boilAll", "()V"⟩, 73) := ⟨⟨by decide +kernel, by decide +kernel⟩, List.mem_of_getElem? (i := 1157) (by decide +kernel), List.mem_of_getElem? (i := 1636) (by decide +kernel), List.mem_of_getElem? (i := 1637) (by decide +kernel)⟩
def lw_privs_5 : List (MethodName × Nat) := [(⟨"SoapWorksModel", "hasBracket", "()Z"⟩, 73), (⟨"SoapWorksModel", "close", "(I)V"⟩, 73), (⟨"SoapWorksModel", "hasRelation", "()Z"⟩, 73), (⟨"SoapWorksModel", "told", "(JII)I"⟩, 73), (⟨"SoapWorksModel", "isKind", "(I)Z"⟩, 73), (⟨"SoapWorksModel", "isPerson", "(I)Z"⟩, 73), (⟨"SoapWorksModel", "isBasin", "(I)Z"⟩, 73), (⟨"SoapWorksModel", "isRule", "(I)Z"⟩, 73), (⟨"SoapWorksModel", "hasTold", "(I)Z"⟩, 73), (⟨"SoapWorksModel", "act", "()V"⟩, 73), (⟨"SoapWorksModel", "fill", "()V"⟩, 73), (⟨"SoapWorksModel", "tells", "(I)V"⟩, 73), (⟨"SoapWorksModel", "keepAir", "()V"⟩, 73), (⟨"SoapWorksModel", "allOf", "()I"⟩, 73), (⟨"SoapWorksModel", "goBoiling", "(Z)Z"⟩, 73), (⟨"SoapWorksModel", "boilAll", "()V"⟩, 73)]
theorem lw_r5 : ∀ q ∈ lw_privs_5, lw_okq q := List.forall_mem_cons.mpr ⟨lw_p64, List.forall_mem_cons.mpr ⟨lw_p65, List.forall_mem_cons.mpr ⟨lw_p66, List.forall_mem_cons.mpr ⟨lw_p67, List.forall_mem_cons.mpr ⟨lw_p68, List.forall_mem_cons.mpr ⟨lw_p69, List.forall_mem_cons.mpr ⟨lw_p70, List.forall_mem_cons.mpr ⟨lw_p71, List.forall_mem_cons.mpr ⟨lw_p72, List.forall_mem_cons.mpr ⟨lw_p73, List.forall_mem_cons.mpr ⟨lw_p74, List.forall_mem_cons.mpr ⟨lw_p75, List.forall_mem_cons.mpr ⟨lw_p76, List.forall_mem_cons.mpr ⟨lw_p77, List.forall_mem_cons.mpr ⟨lw_p78, List.forall_mem_cons.mpr ⟨lw_p79, fun _ h => absurd h List.not_mem_nil⟩⟩⟩⟩⟩⟩⟩⟩⟩⟩⟩⟩⟩⟩⟩⟩
theorem lw_p80 : lw_okq (⟨"SoapWorksModel", "boilBy", "(II)V"⟩, 73) := ⟨⟨by decide +kernel, by decide +kernel⟩, List.mem_of_getElem? (i := 1157) (by decide +kernel), List.mem_of_getElem? (i := 1640) (by decide +kernel), List.mem_of_getElem? (i := 1641) (by decide +kernel)⟩
theorem lw_p81 : lw_okq (⟨"SoapWorksModel", "makes", "(II)I"⟩, 73) := ⟨⟨by decide +kernel, by decide +kernel⟩, List.mem_of_getElem? (i := 1157) (by decide +kernel), List.mem_of_getElem? (i := 1644) (by decide +kernel), List.mem_of_getElem? (i := 1645) (by decide +kernel)⟩
theorem lw_p82 : lw_okq (⟨"SoapWorksModel", "skims", "()V"⟩, 73) := ⟨⟨by decide +kernel, by decide +kernel⟩, List.mem_of_getElem? (i := 1157) (by decide +kernel), List.mem_of_getElem? (i := 1648) (by decide +kernel), List.mem_of_getElem? (i := 1649) (by decide +kernel)⟩
theorem lw_p83 : lw_okq (⟨"SoapWorksModel", "isRisen", "()Z"⟩, 73) := ⟨⟨by decide +kernel, by decide +kernel⟩, List.mem_of_getElem? (i := 1157) (by decide +kernel), List.mem_of_getElem? (i := 1655) (by decide +kernel), List.mem_of_getElem? (i := 1656) (by decide +kernel)⟩
theorem lw_p84 : lw_okq (⟨"SoapWorksModel", "isEased", "(I)Z"⟩, 73) := ⟨⟨by decide +kernel, by decide +kernel⟩, List.mem_of_getElem? (i := 1157) (by decide +kernel), List.mem_of_getElem? (i := 1672) (by decide +kernel), List.mem_of_getElem? (i := 1673) (by decide +kernel)⟩
theorem lw_p85 : lw_okq (⟨"SoapWorksModel", "holds", "(I)Z"⟩, 73) := ⟨⟨by decide +kernel, by decide +kernel⟩, List.mem_of_getElem? (i := 1157) (by decide +kernel), List.mem_of_getElem? (i := 1676) (by decide +kernel), List.mem_of_getElem? (i := 1677) (by decide +kernel)⟩
theorem lw_p86 : lw_okq (⟨"SoapWorksModel", "exchange", "(I)V"⟩, 73) := ⟨⟨by decide +kernel, by decide +kernel⟩, List.mem_of_getElem? (i := 1157) (by decide +kernel), List.mem_of_getElem? (i := 1688) (by decide +kernel), List.mem_of_getElem? (i := 1689) (by decide +kernel)⟩
theorem lw_p87 : lw_okq (⟨"SoapWorksModel", "risesIn", "(I)I"⟩, 73) := ⟨⟨by decide +kernel, by decide +kernel⟩, List.mem_of_getElem? (i := 1157) (by decide +kernel), List.mem_of_getElem? (i := 1704) (by decide +kernel), List.mem_of_getElem? (i := 1705) (by decide +kernel)⟩
theorem lw_p88 : lw_okq (⟨"SoapWorksModel", "silent", "()I"⟩, 73) := ⟨⟨by decide +kernel, by decide +kernel⟩, List.mem_of_getElem? (i := 1157) (by decide +kernel), List.mem_of_getElem? (i := 1716) (by decide +kernel), List.mem_of_getElem? (i := 1717) (by decide +kernel)⟩
theorem lw_p89 : lw_okq (⟨"SoapWorksModel", "tellAll", "(I)V"⟩, 73) := ⟨⟨by decide +kernel, by decide +kernel⟩, List.mem_of_getElem? (i := 1157) (by decide +kernel), List.mem_of_getElem? (i := 1720) (by decide +kernel), List.mem_of_getElem? (i := 1721) (by decide +kernel)⟩
theorem lw_p90 : lw_okq (⟨"SoapWorksModel", "risesWith", "(I)Z"⟩, 73) := ⟨⟨by decide +kernel, by decide +kernel⟩, List.mem_of_getElem? (i := 1157) (by decide +kernel), List.mem_of_getElem? (i := 1728) (by decide +kernel), List.mem_of_getElem? (i := 1729) (by decide +kernel)⟩
theorem lw_p91 : lw_okq (⟨"SoapWorksModel", "lackOf", "(I)I"⟩, 73) := ⟨⟨by decide +kernel, by decide +kernel⟩, List.mem_of_getElem? (i := 1157) (by decide +kernel), List.mem_of_getElem? (i := 1748) (by decide +kernel), List.mem_of_getElem? (i := 1749) (by decide +kernel)⟩
theorem lw_p92 : lw_okq (⟨"SoapWorksModel", "nextRow", "()Z"⟩, 73) := ⟨⟨by decide +kernel, by decide +kernel⟩, List.mem_of_getElem? (i := 1157) (by decide +kernel), List.mem_of_getElem? (i := 1760) (by decide +kernel), List.mem_of_getElem? (i := 1761) (by decide +kernel)⟩
theorem lw_p93 : lw_okq (⟨"SoapWorksModel", "swap", "(II)V"⟩, 73) := ⟨⟨by decide +kernel, by decide +kernel⟩, List.mem_of_getElem? (i := 1157) (by decide +kernel), List.mem_of_getElem? (i := 1764) (by decide +kernel), List.mem_of_getElem? (i := 1765) (by decide +kernel)⟩
theorem lw_p94 : lw_okq (⟨"SoapWorksModel", "comesOf", "(I)I"⟩, 73) := ⟨⟨by decide +kernel, by decide +kernel⟩, List.mem_of_getElem? (i := 1157) (by decide +kernel), List.mem_of_getElem? (i := 1772) (by decide +kernel), List.mem_of_getElem? (i := 1773) (by decide +kernel)⟩
theorem lw_p95 : lw_okq (⟨"SoapWorksModel", "mindOf", "(I)I"⟩, 73) := ⟨⟨by decide +kernel, by decide +kernel⟩, List.mem_of_getElem? (i := 1157) (by decide +kernel), List.mem_of_getElem? (i := 1784) (by decide +kernel), List.mem_of_getElem? (i := 1785) (by decide +kernel)⟩
def lw_privs_6 : List (MethodName × Nat) := [(⟨"SoapWorksModel", "boilBy", "(II)V"⟩, 73), (⟨"SoapWorksModel", "makes", "(II)I"⟩, 73), (⟨"SoapWorksModel", "skims", "()V"⟩, 73), (⟨"SoapWorksModel", "isRisen", "()Z"⟩, 73), (⟨"SoapWorksModel", "isEased", "(I)Z"⟩, 73), (⟨"SoapWorksModel", "holds", "(I)Z"⟩, 73), (⟨"SoapWorksModel", "exchange", "(I)V"⟩, 73), (⟨"SoapWorksModel", "risesIn", "(I)I"⟩, 73), (⟨"SoapWorksModel", "silent", "()I"⟩, 73), (⟨"SoapWorksModel", "tellAll", "(I)V"⟩, 73), (⟨"SoapWorksModel", "risesWith", "(I)Z"⟩, 73), (⟨"SoapWorksModel", "lackOf", "(I)I"⟩, 73), (⟨"SoapWorksModel", "nextRow", "()Z"⟩, 73), (⟨"SoapWorksModel", "swap", "(II)V"⟩, 73), (⟨"SoapWorksModel", "comesOf", "(I)I"⟩, 73), (⟨"SoapWorksModel", "mindOf", "(I)I"⟩, 73)]
theorem lw_r6 : ∀ q ∈ lw_privs_6, lw_okq q := List.forall_mem_cons.mpr ⟨lw_p80, List.forall_mem_cons.mpr ⟨lw_p81, List.forall_mem_cons.mpr ⟨lw_p82, List.forall_mem_cons.mpr ⟨lw_p83, List.forall_mem_cons.mpr ⟨lw_p84, List.forall_mem_cons.mpr ⟨lw_p85, List.forall_mem_cons.mpr ⟨lw_p86, List.forall_mem_cons.mpr ⟨lw_p87, List.forall_mem_cons.mpr ⟨lw_p88, List.forall_mem_cons.mpr ⟨lw_p89, List.forall_mem_cons.mpr ⟨lw_p90, List.forall_mem_cons.mpr ⟨lw_p91, List.forall_mem_cons.mpr ⟨lw_p92, List.forall_mem_cons.mpr ⟨lw_p93, List.forall_mem_cons.mpr ⟨lw_p94, List.forall_mem_cons.mpr ⟨lw_p95, fun _ h => absurd h List.not_mem_nil⟩⟩⟩⟩⟩⟩⟩⟩⟩⟩⟩⟩⟩⟩⟩⟩
theorem lw_p96 : lw_okq (⟨"SoapWorksModel", "layFits", "(I)I"⟩, 73) := ⟨⟨by decide +kernel, by decide +kernel⟩, List.mem_of_getElem? (i := 1157) (by decide +kernel), List.mem_of_getElem? (i := 1863) (by decide +kernel), List.mem_of_getElem? (i := 1864) (by decide +kernel)⟩
theorem lw_p97 : lw_okq (⟨"SoapWorksModel", "fitsMuch", "(II)Z"⟩, 73) := ⟨⟨by decide +kernel, by decide +kernel⟩, List.mem_of_getElem? (i := 1157) (by decide +kernel), List.mem_of_getElem? (i := 1867) (by decide +kernel), List.mem_of_getElem? (i := 1868) (by decide +kernel)⟩
theorem lw_p98 : lw_okq (⟨"SoapWorksModel", "leftBy", "(II)I"⟩, 73) := ⟨⟨by decide +kernel, by decide +kernel⟩, List.mem_of_getElem? (i := 1157) (by decide +kernel), List.mem_of_getElem? (i := 1879) (by decide +kernel), List.mem_of_getElem? (i := 1880) (by decide +kernel)⟩
def lw_privs_7 : List (MethodName × Nat) := [(⟨"SoapWorksModel", "layFits", "(I)I"⟩, 73), (⟨"SoapWorksModel", "fitsMuch", "(II)Z"⟩, 73), (⟨"SoapWorksModel", "leftBy", "(II)I"⟩, 73)]
theorem lw_r7 : ∀ q ∈ lw_privs_7, lw_okq q := List.forall_mem_cons.mpr ⟨lw_p96, List.forall_mem_cons.mpr ⟨lw_p97, List.forall_mem_cons.mpr ⟨lw_p98, fun _ h => absurd h List.not_mem_nil⟩⟩⟩
def lw_privs : List (MethodName × Nat) := lw_privs_1 ++ (lw_privs_2 ++ (lw_privs_3 ++ (lw_privs_4 ++ (lw_privs_5 ++ (lw_privs_6 ++ (lw_privs_7))))))
def lw_tbl : List Cond := k2_sels lw_privs ++ tables_1
theorem lw_privs_ok : ∀ q ∈ lw_privs, lw_okq q := by
  show ∀ q ∈ lw_privs_1 ++ (lw_privs_2 ++ (lw_privs_3 ++ (lw_privs_4 ++ (lw_privs_5 ++ (lw_privs_6 ++ (lw_privs_7)))))), lw_okq q
  exact List.forall_mem_append.mpr ⟨lw_r1, List.forall_mem_append.mpr ⟨lw_r2, List.forall_mem_append.mpr ⟨lw_r3, List.forall_mem_append.mpr ⟨lw_r4, List.forall_mem_append.mpr ⟨lw_r5, List.forall_mem_append.mpr ⟨lw_r6, lw_r7⟩⟩⟩⟩⟩⟩
def RX0 : String := "SoapWorks$Acts"
def TX0 : u_T := fun k => match k with
  | 0 => ("SoapWorks$Acts", "lines", "[I", true)
  | 1 => ("SoapWorks$Acts", "here", "I", false)
  | _ => ("SoapWorks$Acts", "last", "I", false)
def tyX0 : Nat → FieldType := fun k => match k with
  | 0 => .array .int
  | 1 => .int
  | _ => .int
abbrev wsX00 : List Cond := u_ws RX0 TX0 3
theorem nmX0 : ∀ a, a < 3 → ∀ b, b < 3 → a ≠ b → (TX0 a).2.1 ≠ (TX0 b).2.1 := by decide +kernel
theorem tyX0_ok : ∀ k, k < 3 → parseFieldDescriptor (TX0 k).2.2.1 = some (tyX0 k) := by decide +kernel
abbrev cX0_init : ByteArray := prog_2_method_1_code
def yX0_init : MethodName := ⟨RX0, "<init>", "()V"⟩
abbrev cX0_forget : ByteArray := prog_2_method_2_code
def yX0_forget : MethodName := ⟨RX0, "forget", "()V"⟩
abbrev cX0_undoable : ByteArray := prog_2_method_3_code
def yX0_undoable : MethodName := ⟨RX0, "undoable", "()I"⟩
abbrev cX0_redoable : ByteArray := prog_2_method_4_code
def yX0_redoable : MethodName := ⟨RX0, "redoable", "()I"⟩
abbrev cX0_keep : ByteArray := prog_2_method_5_code
def yX0_keep : MethodName := ⟨RX0, "keep", "(LSoapWorks$Vat;)V"⟩
abbrev cX0_takeBack : ByteArray := prog_2_method_6_code
def yX0_takeBack : MethodName := ⟨RX0, "takeBack", "(LSoapWorks$Vat;)Z"⟩
abbrev cX0_doAgain : ByteArray := prog_2_method_7_code
def yX0_doAgain : MethodName := ⟨RX0, "doAgain", "(LSoapWorks$Vat;)Z"⟩
def RX1 : String := "SoapWorks$Boxes"
def TX1 : u_T := fun k => match k with
  | 0 => ("SoapWorks$Boxes", "full", "[Z", true)
  | _ => ("SoapWorks$Boxes", "lines", "[I", true)
def tyX1 : Nat → FieldType := fun k => match k with
  | 0 => .array .boolean
  | _ => .array .int
abbrev wsX10 : List Cond := u_ws RX1 TX1 2
theorem nmX1 : ∀ a, a < 2 → ∀ b, b < 2 → a ≠ b → (TX1 a).2.1 ≠ (TX1 b).2.1 := by decide +kernel
theorem tyX1_ok : ∀ k, k < 2 → parseFieldDescriptor (TX1 k).2.2.1 = some (tyX1 k) := by decide +kernel
abbrev cX1_init : ByteArray := prog_3_method_1_code
def yX1_init : MethodName := ⟨RX1, "<init>", "()V"⟩
abbrev cX1_forget : ByteArray := prog_3_method_2_code
def yX1_forget : MethodName := ⟨RX1, "forget", "()V"⟩
abbrev cX1_isBox : ByteArray := prog_3_method_3_code
def yX1_isBox : MethodName := ⟨RX1, "isBox", "(I)Z"⟩
abbrev cX1_put : ByteArray := prog_3_method_4_code
def yX1_put : MethodName := ⟨RX1, "put", "(ILSoapWorks$Vat;)V"⟩
abbrev cX1_take : ByteArray := prog_3_method_5_code
def yX1_take : MethodName := ⟨RX1, "take", "(ILSoapWorks$Vat;)V"⟩
def RX2 : String := "SoapWorks$Formula"
def TX2 : u_T := fun k => match k with
  | 0 => ("SoapWorks$Formula", "units", "I", false)
  | 1 => ("SoapWorks$Formula", "hasDay", "Z", false)
  | 2 => ("SoapWorks$Formula", "size", "I", false)
  | 3 => ("SoapWorks$Formula", "program", "[I", true)
  | 4 => ("SoapWorks$Formula", "stack", "[I", true)
  | _ => ("SoapWorks$Formula", "known", "[I", true)
def tyX2 : Nat → FieldType := fun k => match k with
  | 0 => .int
  | 1 => .boolean
  | 2 => .int
  | 3 => .array .int
  | 4 => .array .int
  | _ => .array .int
abbrev wsX20 : List Cond := u_ws RX2 TX2 6
theorem nmX2 : ∀ a, a < 6 → ∀ b, b < 6 → a ≠ b → (TX2 a).2.1 ≠ (TX2 b).2.1 := by decide +kernel
theorem tyX2_ok : ∀ k, k < 6 → parseFieldDescriptor (TX2 k).2.2.1 = some (tyX2 k) := by decide +kernel
abbrev cX2_init : ByteArray := prog_4_method_1_code
def yX2_init : MethodName := ⟨RX2, "<init>", "()V"⟩
abbrev cX2_clear : ByteArray := prog_4_method_2_code
def yX2_clear : MethodName := ⟨RX2, "clear", "()V"⟩
abbrev cX2_add : ByteArray := prog_4_method_3_code
def yX2_add : MethodName := ⟨RX2, "add", "(I)V"⟩
abbrev cX2_worth : ByteArray := prog_4_method_4_code
def yX2_worth : MethodName := ⟨RX2, "worth", "(LSoapWorks$Vat;I)I"⟩
abbrev cX2_measure : ByteArray := prog_4_method_5_code
def yX2_measure : MethodName := ⟨RX2, "measure", "(LSoapWorks$Vat;I)V"⟩
abbrev cX2_joined : ByteArray := prog_4_method_6_code
def yX2_joined : MethodName := ⟨RX2, "joined", "(III)I"⟩
def RX3 : String := "SoapWorks$Outlook"
def TX3 : u_T := fun k => match k with
  | 0 => ("SoapWorks$Outlook", "ahead", "LSoapWorks$Vat;", true)
  | 1 => ("SoapWorks$Outlook", "trial", "[I", true)
  | _ => ("SoapWorks$Outlook", "inOrder", "[I", true)
def tyX3 : Nat → FieldType := fun k => match k with
  | 0 => .object "SoapWorks$Vat"
  | 1 => .array .int
  | _ => .array .int
abbrev wsX30 : List Cond := u_ws RX3 TX3 3
theorem nmX3 : ∀ a, a < 3 → ∀ b, b < 3 → a ≠ b → (TX3 a).2.1 ≠ (TX3 b).2.1 := by decide +kernel
theorem tyX3_ok : ∀ k, k < 3 → parseFieldDescriptor (TX3 k).2.2.1 = some (tyX3 k) := by decide +kernel
abbrev cX3_init : ByteArray := prog_5_method_1_code
def yX3_init : MethodName := ⟨RX3, "<init>", "()V"⟩
abbrev cX3_riseIf : ByteArray := prog_5_method_2_code
def yX3_riseIf : MethodName := ⟨RX3, "riseIf", "(LSoapWorks$Plan;LSoapWorks$Vat;II)I"⟩
abbrev cX3_muchBehind : ByteArray := prog_5_method_3_code
def yX3_muchBehind : MethodName := ⟨RX3, "muchBehind", "(LSoapWorks$Plan;LSoapWorks$Vat;IIZ)I"⟩
abbrev cX3_wouldHold : ByteArray := prog_5_method_4_code
def yX3_wouldHold : MethodName := ⟨RX3, "wouldHold", "(LSoapWorks$Plan;LSoapWorks$Vat;II)Z"⟩
abbrev cX3_boilingsTill : ByteArray := prog_5_method_5_code
def yX3_boilingsTill : MethodName := ⟨RX3, "boilingsTill", "(LSoapWorks$Plan;LSoapWorks$Vat;I)I"⟩
abbrev cX3_boilingsToRest : ByteArray := prog_5_method_6_code
def yX3_boilingsToRest : MethodName := ⟨RX3, "boilingsToRest", "(LSoapWorks$Plan;LSoapWorks$Vat;)I"⟩
abbrev cX3_allUnderLaw : ByteArray := prog_5_method_7_code
def yX3_allUnderLaw : MethodName := ⟨RX3, "allUnderLaw", "(LSoapWorks$Plan;LSoapWorks$Vat;I)I"⟩
abbrev cX3_mostByOrder : ByteArray := prog_5_method_8_code
def yX3_mostByOrder : MethodName := ⟨RX3, "mostByOrder", "(LSoapWorks$Plan;LSoapWorks$Vat;I[I)I"⟩
abbrev cX3_muchByOrder : ByteArray := prog_5_method_9_code
def yX3_muchByOrder : MethodName := ⟨RX3, "muchByOrder", "(LSoapWorks$Plan;LSoapWorks$Vat;I)I"⟩
abbrev cX3_toNextOrder : ByteArray := prog_5_method_10_code
def yX3_toNextOrder : MethodName := ⟨RX3, "toNextOrder", "(I)Z"⟩
abbrev cX3_exchange : ByteArray := prog_5_method_11_code
def yX3_exchange : MethodName := ⟨RX3, "exchange", "(II)V"⟩
abbrev cX3_duelRests : ByteArray := prog_5_method_12_code
def yX3_duelRests : MethodName := ⟨RX3, "duelRests", "(LSoapWorks$Plan;LSoapWorks$Vat;II)I"⟩
abbrev cX3_gain : ByteArray := prog_5_method_13_code
def yX3_gain : MethodName := ⟨RX3, "gain", "(IIII)I"⟩
def RX4 : String := "SoapWorks$Plan"
def TX4 : u_T := fun k => match k with
  | 0 => ("SoapWorks$Plan", "kinds", "I", false)
  | 1 => ("SoapWorks$Plan", "people", "I", false)
  | 2 => ("SoapWorks$Plan", "rules", "I", false)
  | 3 => ("SoapWorks$Plan", "basins", "I", false)
  | 4 => ("SoapWorks$Plan", "scum", "I", false)
  | 5 => ("SoapWorks$Plan", "draw", "I", false)
  | 6 => ("SoapWorks$Plan", "scumTold", "Z", false)
  | 7 => ("SoapWorks$Plan", "drawTold", "Z", false)
  | 8 => ("SoapWorks$Plan", "lastKind", "I", false)
  | 9 => ("SoapWorks$Plan", "kindNames", "[J", true)
  | 10 => ("SoapWorks$Plan", "personNames", "[J", true)
  | 11 => ("SoapWorks$Plan", "basinNames", "[J", true)
  | 12 => ("SoapWorks$Plan", "minds", "[I", true)
  | 13 => ("SoapWorks$Plan", "basinNeeds", "[I", true)
  | 14 => ("SoapWorks$Plan", "ruleParts", "[I", true)
  | _ => ("SoapWorks$Plan", "rises", "LSoapWorks$Formula;", true)
def tyX4 : Nat → FieldType := fun k => match k with
  | 0 => .int
  | 1 => .int
  | 2 => .int
  | 3 => .int
  | 4 => .int
  | 5 => .int
  | 6 => .boolean
  | 7 => .boolean
  | 8 => .int
  | 9 => .array .long
  | 10 => .array .long
  | 11 => .array .long
  | 12 => .array .int
  | 13 => .array .int
  | 14 => .array .int
  | _ => .object "SoapWorks$Formula"
abbrev wsX40 : List Cond := u_ws RX4 TX4 16
theorem nmX4 : ∀ a, a < 16 → ∀ b, b < 16 → a ≠ b → (TX4 a).2.1 ≠ (TX4 b).2.1 := by decide +kernel
theorem tyX4_ok : ∀ k, k < 16 → parseFieldDescriptor (TX4 k).2.2.1 = some (tyX4 k) := by decide +kernel
abbrev cX4_init : ByteArray := prog_6_method_1_code
def yX4_init : MethodName := ⟨RX4, "<init>", "()V"⟩
abbrev cX4_clear : ByteArray := prog_6_method_2_code
def yX4_clear : MethodName := ⟨RX4, "clear", "()V"⟩
abbrev cX4_addRule : ByteArray := prog_6_method_3_code
def yX4_addRule : MethodName := ⟨RX4, "addRule", "(IIII)V"⟩
abbrev cX4_isKind : ByteArray := prog_6_method_4_code
def yX4_isKind : MethodName := ⟨RX4, "isKind", "(I)Z"⟩
abbrev cX4_isPerson : ByteArray := prog_6_method_5_code
def yX4_isPerson : MethodName := ⟨RX4, "isPerson", "(I)Z"⟩
abbrev cX4_isBasin : ByteArray := prog_6_method_6_code
def yX4_isBasin : MethodName := ⟨RX4, "isBasin", "(I)Z"⟩
abbrev cX4_has : ByteArray := prog_6_method_7_code
def yX4_has : MethodName := ⟨RX4, "has", "(II)I"⟩
abbrev cX4_needs : ByteArray := prog_6_method_8_code
def yX4_needs : MethodName := ⟨RX4, "needs", "(II)I"⟩
abbrev cX4_first : ByteArray := prog_6_method_9_code
def yX4_first : MethodName := ⟨RX4, "first", "(I)I"⟩
abbrev cX4_second : ByteArray := prog_6_method_10_code
def yX4_second : MethodName := ⟨RX4, "second", "(I)I"⟩
abbrev cX4_third : ByteArray := prog_6_method_11_code
def yX4_third : MethodName := ⟨RX4, "third", "(I)I"⟩
abbrev cX4_limit : ByteArray := prog_6_method_12_code
def yX4_limit : MethodName := ⟨RX4, "limit", "(I)I"⟩
abbrev cX4_burden : ByteArray := prog_6_method_13_code
def yX4_burden : MethodName := ⟨RX4, "burden", "(I)I"⟩
abbrev cX4_tell : ByteArray := prog_6_method_14_code
def yX4_tell : MethodName := ⟨RX4, "tell", "(LSoapWorks$Vat;I)V"⟩
abbrev cX4_pour : ByteArray := prog_6_method_15_code
def yX4_pour : MethodName := ⟨RX4, "pour", "([II)V"⟩
abbrev cX4_lacking : ByteArray := prog_6_method_16_code
def yX4_lacking : MethodName := ⟨RX4, "lacking", "([II)I"⟩
abbrev cX4_canServe : ByteArray := prog_6_method_17_code
def yX4_canServe : MethodName := ⟨RX4, "canServe", "([II)Z"⟩
abbrev cX4_madeOf : ByteArray := prog_6_method_18_code
def yX4_madeOf : MethodName := ⟨RX4, "madeOf", "(I)I"⟩
abbrev cX4_turning : ByteArray := prog_6_method_19_code
def yX4_turning : MethodName := ⟨RX4, "turning", "([III)I"⟩
abbrev cX4_turn : ByteArray := prog_6_method_20_code
def yX4_turn : MethodName := ⟨RX4, "turn", "([III)I"⟩
abbrev cX4_boilRules : ByteArray := prog_6_method_21_code
def yX4_boilRules : MethodName := ⟨RX4, "boilRules", "([I)Z"⟩
abbrev cX4_isRisen : ByteArray := prog_6_method_22_code
def yX4_isRisen : MethodName := ⟨RX4, "isRisen", "(LSoapWorks$Vat;)Z"⟩
abbrev cX4_boilInEarnest : ByteArray := prog_6_method_23_code
def yX4_boilInEarnest : MethodName := ⟨RX4, "boilInEarnest", "(LSoapWorks$Vat;Z)Z"⟩
abbrev cX4_drawScum : ByteArray := prog_6_method_24_code
def yX4_drawScum : MethodName := ⟨RX4, "drawScum", "(LSoapWorks$Vat;)V"⟩
def RX5 : String := "SoapWorks$Reader"
def TX5 : u_T := fun k => match k with
  | 0 => ("SoapWorks$Reader", "tape", "LSoapWorks$Tape;", true)
  | 1 => ("SoapWorks$Reader", "plan", "LSoapWorks$Plan;", false)
  | 2 => ("SoapWorks$Reader", "faultNumber", "I", false)
  | 3 => ("SoapWorks$Reader", "faultPlace", "I", false)
  | _ => ("SoapWorks$Reader", "lastPortion", "I", false)
def tyX5 : Nat → FieldType := fun k => match k with
  | 0 => .object "SoapWorks$Tape"
  | 1 => .object "SoapWorks$Plan"
  | 2 => .int
  | 3 => .int
  | _ => .int
abbrev wsX50 : List Cond := u_ws RX5 TX5 5
theorem nmX5 : ∀ a, a < 5 → ∀ b, b < 5 → a ≠ b → (TX5 a).2.1 ≠ (TX5 b).2.1 := by decide +kernel
theorem tyX5_ok : ∀ k, k < 5 → parseFieldDescriptor (TX5 k).2.2.1 = some (tyX5 k) := by decide +kernel
abbrev cX5_init : ByteArray := prog_7_method_1_code
def yX5_init : MethodName := ⟨RX5, "<init>", "()V"⟩
abbrev cX5_begin : ByteArray := prog_7_method_2_code
def yX5_begin : MethodName := ⟨RX5, "begin", "()V"⟩
abbrev cX5_isAtEnd : ByteArray := prog_7_method_3_code
def yX5_isAtEnd : MethodName := ⟨RX5, "isAtEnd", "()Z"⟩
abbrev cX5_readLine : ByteArray := prog_7_method_4_code
def yX5_readLine : MethodName := ⟨RX5, "readLine", "()Z"⟩
abbrev cX5_refuse : ByteArray := prog_7_method_5_code
def yX5_refuse : MethodName := ⟨RX5, "refuse", "(I)Z"⟩
abbrev cX5_readKind : ByteArray := prog_7_method_6_code
def yX5_readKind : MethodName := ⟨RX5, "readKind", "()Z"⟩
abbrev cX5_readPerson : ByteArray := prog_7_method_7_code
def yX5_readPerson : MethodName := ⟨RX5, "readPerson", "()Z"⟩
abbrev cX5_readBasin : ByteArray := prog_7_method_8_code
def yX5_readBasin : MethodName := ⟨RX5, "readBasin", "()Z"⟩
abbrev cX5_readRule : ByteArray := prog_7_method_9_code
def yX5_readRule : MethodName := ⟨RX5, "readRule", "()Z"⟩
abbrev cX5_readRises : ByteArray := prog_7_method_10_code
def yX5_readRises : MethodName := ⟨RX5, "readRises", "()Z"⟩
abbrev cX5_readScum : ByteArray := prog_7_method_11_code
def yX5_readScum : MethodName := ⟨RX5, "readScum", "()Z"⟩
abbrev cX5_readDraw : ByteArray := prog_7_method_12_code
def yX5_readDraw : MethodName := ⟨RX5, "readDraw", "()Z"⟩
abbrev cX5_readPortions : ByteArray := prog_7_method_13_code
def yX5_readPortions : MethodName := ⟨RX5, "readPortions", "([II)Z"⟩
abbrev cX5_readNewName : ByteArray := prog_7_method_14_code
def yX5_readNewName : MethodName := ⟨RX5, "readNewName", "([JI)Z"⟩
abbrev cX5_knownKind : ByteArray := prog_7_method_15_code
def yX5_knownKind : MethodName := ⟨RX5, "knownKind", "()I"⟩
abbrev cX5_readKnownKind : ByteArray := prog_7_method_16_code
def yX5_readKnownKind : MethodName := ⟨RX5, "readKnownKind", "()I"⟩
abbrev cX5_readNumber : ByteArray := prog_7_method_17_code
def yX5_readNumber : MethodName := ⟨RX5, "readNumber", "(II)I"⟩
abbrev cX5_readKey : ByteArray := prog_7_method_18_code
def yX5_readKey : MethodName := ⟨RX5, "readKey", "(I)Z"⟩
abbrev cX5_readSign : ByteArray := prog_7_method_19_code
def yX5_readSign : MethodName := ⟨RX5, "readSign", "(I)Z"⟩
abbrev cX5_readFormula : ByteArray := prog_7_method_20_code
def yX5_readFormula : MethodName := ⟨RX5, "readFormula", "(II)Z"⟩
abbrev cX5_readNot : ByteArray := prog_7_method_21_code
def yX5_readNot : MethodName := ⟨RX5, "readNot", "(I)Z"⟩
abbrev cX5_readUnit : ByteArray := prog_7_method_22_code
def yX5_readUnit : MethodName := ⟨RX5, "readUnit", "(I)Z"⟩
abbrev cX5_signOfLevel : ByteArray := prog_7_method_23_code
def yX5_signOfLevel : MethodName := ⟨RX5, "signOfLevel", "(I)I"⟩
def RX6 : String := "SoapWorks$Sightings"
def TX6 : u_T := fun k => match k with
  | 0 => ("SoapWorks$Sightings", "count", "I", false)
  | 1 => ("SoapWorks$Sightings", "boilings", "[I", true)
  | 2 => ("SoapWorks$Sightings", "kinds", "[I", true)
  | 3 => ("SoapWorks$Sightings", "least", "[I", true)
  | 4 => ("SoapWorks$Sightings", "was", "[Z", true)
  | 5 => ("SoapWorks$Sightings", "toldAt", "[I", true)
  | 6 => ("SoapWorks$Sightings", "untoldAt", "[I", true)
  | 7 => ("SoapWorks$Sightings", "much", "[I", true)
  | 8 => ("SoapWorks$Sightings", "courses", "[I", true)
  | _ => ("SoapWorks$Sightings", "hasCourses", "Z", false)
def tyX6 : Nat → FieldType := fun k => match k with
  | 0 => .int
  | 1 => .array .int
  | 2 => .array .int
  | 3 => .array .int
  | 4 => .array .boolean
  | 5 => .array .int
  | 6 => .array .int
  | 7 => .array .int
  | 8 => .array .int
  | _ => .boolean
abbrev wsX60 : List Cond := u_ws RX6 TX6 10
theorem nmX6 : ∀ a, a < 10 → ∀ b, b < 10 → a ≠ b → (TX6 a).2.1 ≠ (TX6 b).2.1 := by decide +kernel
theorem tyX6_ok : ∀ k, k < 10 → parseFieldDescriptor (TX6 k).2.2.1 = some (tyX6 k) := by decide +kernel
abbrev cX6_init : ByteArray := prog_8_method_1_code
def yX6_init : MethodName := ⟨RX6, "<init>", "()V"⟩
abbrev cX6_forget : ByteArray := prog_8_method_2_code
def yX6_forget : MethodName := ⟨RX6, "forget", "()V"⟩
abbrev cX6_add : ByteArray := prog_8_method_3_code
def yX6_add : MethodName := ⟨RX6, "add", "(IIIZI)I"⟩
abbrev cX6_takeBack : ByteArray := prog_8_method_4_code
def yX6_takeBack : MethodName := ⟨RX6, "takeBack", "(II)Z"⟩
abbrev cX6_fitting : ByteArray := prog_8_method_5_code
def yX6_fitting : MethodName := ⟨RX6, "fitting", "(LSoapWorks$Plan;I)I"⟩
abbrev cX6_leftAtMost : ByteArray := prog_8_method_6_code
def yX6_leftAtMost : MethodName := ⟨RX6, "leftAtMost", "(III)I"⟩
abbrev cX6_alike : ByteArray := prog_8_method_7_code
def yX6_alike : MethodName := ⟨RX6, "alike", "(IIII)I"⟩
abbrev cX6_isBorneOut : ByteArray := prog_8_method_8_code
def yX6_isBorneOut : MethodName := ⟨RX6, "isBorneOut", "(II)Z"⟩
abbrev cX6_counts : ByteArray := prog_8_method_9_code
def yX6_counts : MethodName := ⟨RX6, "counts", "(II)Z"⟩
abbrev cX6_cell : ByteArray := prog_8_method_10_code
def yX6_cell : MethodName := ⟨RX6, "cell", "(II)I"⟩
abbrev cX6_followCourses : ByteArray := prog_8_method_11_code
def yX6_followCourses : MethodName := ⟨RX6, "followCourses", "(LSoapWorks$Plan;)V"⟩
abbrev cX6_tellAll : ByteArray := prog_8_method_12_code
def yX6_tellAll : MethodName := ⟨RX6, "tellAll", "(LSoapWorks$Plan;I)V"⟩
def RX7 : String := "SoapWorks$Tape"
def TX7 : u_T := fun k => match k with
  | 0 => ("SoapWorks$Tape", "bytes", "[B", true)
  | 1 => ("SoapWorks$Tape", "length", "I", false)
  | 2 => ("SoapWorks$Tape", "keys", "[J", true)
  | 3 => ("SoapWorks$Tape", "at", "I", false)
  | 4 => ("SoapWorks$Tape", "sort", "I", false)
  | 5 => ("SoapWorks$Tape", "place", "I", false)
  | 6 => ("SoapWorks$Tape", "spelling", "J", false)
  | 7 => ("SoapWorks$Tape", "key", "I", false)
  | 8 => ("SoapWorks$Tape", "number", "I", false)
  | _ => ("SoapWorks$Tape", "sign", "I", false)
def tyX7 : Nat → FieldType := fun k => match k with
  | 0 => .array .byte
  | 1 => .int
  | 2 => .array .long
  | 3 => .int
  | 4 => .int
  | 5 => .int
  | 6 => .long
  | 7 => .int
  | 8 => .int
  | _ => .int
abbrev wsX70 : List Cond := u_ws RX7 TX7 10
theorem nmX7 : ∀ a, a < 10 → ∀ b, b < 10 → a ≠ b → (TX7 a).2.1 ≠ (TX7 b).2.1 := by decide +kernel
theorem tyX7_ok : ∀ k, k < 10 → parseFieldDescriptor (TX7 k).2.2.1 = some (tyX7 k) := by decide +kernel
abbrev cX7_init : ByteArray := prog_9_method_1_code
def yX7_init : MethodName := ⟨RX7, "<init>", "()V"⟩
abbrev cX7_append : ByteArray := prog_9_method_2_code
def yX7_append : MethodName := ⟨RX7, "append", "(I)V"⟩
abbrev cX7_readFirst : ByteArray := prog_9_method_3_code
def yX7_readFirst : MethodName := ⟨RX7, "readFirst", "()V"⟩
abbrev cX7_readNext : ByteArray := prog_9_method_4_code
def yX7_readNext : MethodName := ⟨RX7, "readNext", "()V"⟩
abbrev cX7_isName : ByteArray := prog_9_method_5_code
def yX7_isName : MethodName := ⟨RX7, "isName", "()Z"⟩
abbrev cX7_readWord : ByteArray := prog_9_method_6_code
def yX7_readWord : MethodName := ⟨RX7, "readWord", "()V"⟩
abbrev cX7_readNumber : ByteArray := prog_9_method_7_code
def yX7_readNumber : MethodName := ⟨RX7, "readNumber", "()V"⟩
abbrev cX7_readSign : ByteArray := prog_9_method_8_code
def yX7_readSign : MethodName := ⟨RX7, "readSign", "()V"⟩
abbrev cX7_find : ByteArray := prog_9_method_9_code
def yX7_find : MethodName := ⟨RX7, "find", "([JIJ)I"⟩
abbrev cX7_spellings : ByteArray := prog_9_method_10_code
def yX7_spellings : MethodName := ⟨RX7, "spellings", "(Ljava/lang/String;)[J"⟩
abbrev cX7_spelled : ByteArray := prog_9_method_11_code
def yX7_spelled : MethodName := ⟨RX7, "spelled", "(JI)J"⟩
abbrev cX7_isBlank : ByteArray := prog_9_method_12_code
def yX7_isBlank : MethodName := ⟨RX7, "isBlank", "(I)Z"⟩
abbrev cX7_isLetter : ByteArray := prog_9_method_13_code
def yX7_isLetter : MethodName := ⟨RX7, "isLetter", "(I)Z"⟩
abbrev cX7_isDigit : ByteArray := prog_9_method_14_code
def yX7_isDigit : MethodName := ⟨RX7, "isDigit", "(I)Z"⟩
def RX8 : String := "SoapWorks$Vat"
def TX8 : u_T := fun k => match k with
  | 0 => ("SoapWorks$Vat", "much", "[I", true)
  | 1 => ("SoapWorks$Vat", "told", "I", false)
  | 2 => ("SoapWorks$Vat", "eased", "I", false)
  | 3 => ("SoapWorks$Vat", "street", "I", false)
  | 4 => ("SoapWorks$Vat", "day", "I", false)
  | _ => ("SoapWorks$Vat", "seed", "I", false)
def tyX8 : Nat → FieldType := fun k => match k with
  | 0 => .array .int
  | 1 => .int
  | 2 => .int
  | 3 => .int
  | 4 => .int
  | _ => .int
abbrev wsX80 : List Cond := u_ws RX8 TX8 6
theorem nmX8 : ∀ a, a < 6 → ∀ b, b < 6 → a ≠ b → (TX8 a).2.1 ≠ (TX8 b).2.1 := by decide +kernel
theorem tyX8_ok : ∀ k, k < 6 → parseFieldDescriptor (TX8 k).2.2.1 = some (tyX8 k) := by decide +kernel
abbrev cX8_init : ByteArray := prog_10_method_1_code
def yX8_init : MethodName := ⟨RX8, "<init>", "()V"⟩
abbrev cX8_begin : ByteArray := prog_10_method_2_code
def yX8_begin : MethodName := ⟨RX8, "begin", "(I)V"⟩
abbrev cX8_all : ByteArray := prog_10_method_3_code
def yX8_all : MethodName := ⟨RX8, "all", "()I"⟩
abbrev cX8_copy : ByteArray := prog_10_method_4_code
def yX8_copy : MethodName := ⟨RX8, "copy", "(LSoapWorks$Vat;)V"⟩
abbrev cX8_save : ByteArray := prog_10_method_5_code
def yX8_save : MethodName := ⟨RX8, "save", "([II)V"⟩
abbrev cX8_load : ByteArray := prog_10_method_6_code
def yX8_load : MethodName := ⟨RX8, "load", "([II)V"⟩
def RX9 : String := "SoapWorks"
def TX9 : u_T := fun k => match k with
  | 0 => ("SoapWorks", "reader", "LSoapWorks$Reader;", true)
  | 1 => ("SoapWorks", "plan", "LSoapWorks$Plan;", false)
  | 2 => ("SoapWorks", "now", "LSoapWorks$Vat;", true)
  | 3 => ("SoapWorks", "acts", "LSoapWorks$Acts;", true)
  | 4 => ("SoapWorks", "boxes", "LSoapWorks$Boxes;", true)
  | 5 => ("SoapWorks", "outlook", "LSoapWorks$Outlook;", true)
  | 6 => ("SoapWorks", "sightings", "LSoapWorks$Sightings;", true)
  | 7 => ("SoapWorks", "lying", "[I", true)
  | 8 => ("SoapWorks", "lyingCount", "I", false)
  | _ => ("SoapWorks", "time", "I", false)
def tyX9 : Nat → FieldType := fun k => match k with
  | 0 => .object "SoapWorks$Reader"
  | 1 => .object "SoapWorks$Plan"
  | 2 => .object "SoapWorks$Vat"
  | 3 => .object "SoapWorks$Acts"
  | 4 => .object "SoapWorks$Boxes"
  | 5 => .object "SoapWorks$Outlook"
  | 6 => .object "SoapWorks$Sightings"
  | 7 => .array .int
  | 8 => .int
  | _ => .int
abbrev wsX90 : List Cond := u_ws RX9 TX9 10
theorem nmX9 : ∀ a, a < 10 → ∀ b, b < 10 → a ≠ b → (TX9 a).2.1 ≠ (TX9 b).2.1 := by decide +kernel
theorem tyX9_ok : ∀ k, k < 10 → parseFieldDescriptor (TX9 k).2.2.1 = some (tyX9 k) := by decide +kernel
abbrev cX9_init : ByteArray := prog_1_method_1_code
def yX9_init : MethodName := ⟨RX9, "<init>", "()V"⟩
abbrev cX9_feed : ByteArray := prog_1_method_2_code
def yX9_feed : MethodName := ⟨RX9, "feed", "(IIIII)I"⟩
abbrev cX9_end : ByteArray := prog_1_method_3_code
def yX9_end : MethodName := ⟨RX9, "end", "(I)I"⟩
abbrev cX9_works : ByteArray := prog_1_method_4_code
def yX9_works : MethodName := ⟨RX9, "works", "()I"⟩
abbrev cX9_fault : ByteArray := prog_1_method_5_code
def yX9_fault : MethodName := ⟨RX9, "fault", "(I)I"⟩
abbrev cX9_vat : ByteArray := prog_1_method_6_code
def yX9_vat : MethodName := ⟨RX9, "vat", "(I)I"⟩
abbrev cX9_mind : ByteArray := prog_1_method_7_code
def yX9_mind : MethodName := ⟨RX9, "mind", "(II)I"⟩
abbrev cX9_wants : ByteArray := prog_1_method_8_code
def yX9_wants : MethodName := ⟨RX9, "wants", "(II)I"⟩
abbrev cX9_rule : ByteArray := prog_1_method_9_code
def yX9_rule : MethodName := ⟨RX9, "rule", "(II)I"⟩
abbrev cX9_confess : ByteArray := prog_1_method_10_code
def yX9_confess : MethodName := ⟨RX9, "confess", "(I)I"⟩
abbrev cX9_boil : ByteArray := prog_1_method_11_code
def yX9_boil : MethodName := ⟨RX9, "boil", "()I"⟩
abbrev cX9_wash : ByteArray := prog_1_method_12_code
def yX9_wash : MethodName := ⟨RX9, "wash", "(I)I"⟩
abbrev cX9_sweep : ByteArray := prog_1_method_13_code
def yX9_sweep : MethodName := ⟨RX9, "sweep", "(I)I"⟩
abbrev cX9_undo : ByteArray := prog_1_method_14_code
def yX9_undo : MethodName := ⟨RX9, "undo", "()Z"⟩
abbrev cX9_redo : ByteArray := prog_1_method_15_code
def yX9_redo : MethodName := ⟨RX9, "redo", "()Z"⟩
abbrev cX9_will : ByteArray := prog_1_method_16_code
def yX9_will : MethodName := ⟨RX9, "will", "(III)I"⟩
abbrev cX9_rise : ByteArray := prog_1_method_17_code
def yX9_rise : MethodName := ⟨RX9, "rise", "()I"⟩
abbrev cX9_rouser : ByteArray := prog_1_method_18_code
def yX9_rouser : MethodName := ⟨RX9, "rouser", "(I)I"⟩
abbrev cX9_choir : ByteArray := prog_1_method_19_code
def yX9_choir : MethodName := ⟨RX9, "choir", "(II)I"⟩
abbrev cX9_power : ByteArray := prog_1_method_20_code
def yX9_power : MethodName := ⟨RX9, "power", "(I)I"⟩
abbrev cX9_serve : ByteArray := prog_1_method_21_code
def yX9_serve : MethodName := ⟨RX9, "serve", "(I)I"⟩
abbrev cX9_balm : ByteArray := prog_1_method_22_code
def yX9_balm : MethodName := ⟨RX9, "balm", "(II)I"⟩
abbrev cX9_cook : ByteArray := prog_1_method_23_code
def yX9_cook : MethodName := ⟨RX9, "cook", "(I)I"⟩
abbrev cX9_lacks : ByteArray := prog_1_method_24_code
def yX9_lacks : MethodName := ⟨RX9, "lacks", "(I)I"⟩
abbrev cX9_rest : ByteArray := prog_1_method_25_code
def yX9_rest : MethodName := ⟨RX9, "rest", "()I"⟩
abbrev cX9_order : ByteArray := prog_1_method_26_code
def yX9_order : MethodName := ⟨RX9, "order", "(I)I"⟩
abbrev cX9_comes : ByteArray := prog_1_method_27_code
def yX9_comes : MethodName := ⟨RX9, "comes", "(I)I"⟩
abbrev cX9_steps : ByteArray := prog_1_method_28_code
def yX9_steps : MethodName := ⟨RX9, "steps", "(II)I"⟩
abbrev cX9_duel : ByteArray := prog_1_method_29_code
def yX9_duel : MethodName := ⟨RX9, "duel", "(II)I"⟩
abbrev cX9_nearest : ByteArray := prog_1_method_30_code
def yX9_nearest : MethodName := ⟨RX9, "nearest", "()I"⟩
abbrev cX9_wanted : ByteArray := prog_1_method_31_code
def yX9_wanted : MethodName := ⟨RX9, "wanted", "(I)I"⟩
abbrev cX9_sinners : ByteArray := prog_1_method_32_code
def yX9_sinners : MethodName := ⟨RX9, "sinners", "(I)I"⟩
abbrev cX9_inert : ByteArray := prog_1_method_33_code
def yX9_inert : MethodName := ⟨RX9, "inert", "()I"⟩
abbrev cX9_alive : ByteArray := prog_1_method_34_code
def yX9_alive : MethodName := ⟨RX9, "alive", "()I"⟩
abbrev cX9_thickest : ByteArray := prog_1_method_35_code
def yX9_thickest : MethodName := ⟨RX9, "thickest", "()I"⟩
abbrev cX9_thinnest : ByteArray := prog_1_method_36_code
def yX9_thinnest : MethodName := ⟨RX9, "thinnest", "()I"⟩
abbrev cX9_makers : ByteArray := prog_1_method_37_code
def yX9_makers : MethodName := ⟨RX9, "makers", "(I)I"⟩
abbrev cX9_heaviest : ByteArray := prog_1_method_38_code
def yX9_heaviest : MethodName := ⟨RX9, "heaviest", "()I"⟩
abbrev cX9_law : ByteArray := prog_1_method_39_code
def yX9_law : MethodName := ⟨RX9, "law", "(I)I"⟩
abbrev cX9_mission : ByteArray := prog_1_method_40_code
def yX9_mission : MethodName := ⟨RX9, "mission", "()I"⟩
abbrev cX9_odds : ByteArray := prog_1_method_41_code
def yX9_odds : MethodName := ⟨RX9, "odds", "(II)I"⟩
abbrev cX9_lies : ByteArray := prog_1_method_42_code
def yX9_lies : MethodName := ⟨RX9, "lies", "(I)I"⟩
abbrev cX9_seen : ByteArray := prog_1_method_43_code
def yX9_seen : MethodName := ⟨RX9, "seen", "(IIIZ)I"⟩
abbrev cX9_untell : ByteArray := prog_1_method_44_code
def yX9_untell : MethodName := ⟨RX9, "untell", "(I)Z"⟩
abbrev cX9_later : ByteArray := prog_1_method_45_code
def yX9_later : MethodName := ⟨RX9, "later", "(I)I"⟩
abbrev cX9_fits : ByteArray := prog_1_method_46_code
def yX9_fits : MethodName := ⟨RX9, "fits", "(I)I"⟩
abbrev cX9_sure : ByteArray := prog_1_method_47_code
def yX9_sure : MethodName := ⟨RX9, "sure", "(II)I"⟩
abbrev cX9_ask : ByteArray := prog_1_method_48_code
def yX9_ask : MethodName := ⟨RX9, "ask", "(III)I"⟩
abbrev cX9_image : ByteArray := prog_1_method_49_code
def yX9_image : MethodName := ⟨RX9, "image", "(I)I"⟩
abbrev cX9_back : ByteArray := prog_1_method_50_code
def yX9_back : MethodName := ⟨RX9, "back", "(I)I"⟩
abbrev cX9_about : ByteArray := prog_1_method_51_code
def yX9_about : MethodName := ⟨RX9, "about", "(I)I"⟩
abbrev cX9_isSilent : ByteArray := prog_1_method_52_code
def yX9_isSilent : MethodName := ⟨RX9, "isSilent", "(I)Z"⟩
abbrev cX9_silentOnes : ByteArray := prog_1_method_53_code
def yX9_silentOnes : MethodName := ⟨RX9, "silentOnes", "()I"⟩
abbrev cX9_isEased : ByteArray := prog_1_method_54_code
def yX9_isEased : MethodName := ⟨RX9, "isEased", "(I)Z"⟩
abbrev cX9_isFewer : ByteArray := prog_1_method_55_code
def yX9_isFewer : MethodName := ⟨RX9, "isFewer", "(II)Z"⟩
abbrev cX9_countOrBits : ByteArray := prog_1_method_56_code
def yX9_countOrBits : MethodName := ⟨RX9, "countOrBits", "(II)I"⟩
abbrev cX9_commonDivisor : ByteArray := prog_1_method_57_code
def yX9_commonDivisor : MethodName := ⟨RX9, "commonDivisor", "(II)I"⟩
def RX10 : String := "SoapWorksModel"
def TX10 : u_T := fun k => match k with
  | 0 => ("SoapWorksModel", "tape", "[I", true)
  | 1 => ("SoapWorksModel", "taped", "I", false)
  | 2 => ("SoapWorksModel", "fault", "I", false)
  | 3 => ("SoapWorksModel", "faultPlace", "I", false)
  | 4 => ("SoapWorksModel", "at", "I", false)
  | 5 => ("SoapWorksModel", "size", "I", false)
  | 6 => ("SoapWorksModel", "sort", "I", false)
  | 7 => ("SoapWorksModel", "place", "I", false)
  | 8 => ("SoapWorksModel", "number", "I", false)
  | 9 => ("SoapWorksModel", "word", "J", false)
  | 10 => ("SoapWorksModel", "nName", "[J", true)
  | 11 => ("SoapWorksModel", "nStep", "[I", true)
  | 12 => ("SoapWorksModel", "nArg", "[I", true)
  | 13 => ("SoapWorksModel", "step", "[I", true)
  | 14 => ("SoapWorksModel", "arg", "[I", true)
  | 15 => ("SoapWorksModel", "open", "[I", true)
  | 16 => ("SoapWorksModel", "values", "[I", true)
  | 17 => ("SoapWorksModel", "nMany", "I", false)
  | 18 => ("SoapWorksModel", "formSteps", "I", false)
  | 19 => ("SoapWorksModel", "opens", "I", false)
  | 20 => ("SoapWorksModel", "nUnits", "I", false)
  | 21 => ("SoapWorksModel", "units", "I", false)
  | 22 => ("SoapWorksModel", "ownUnits", "I", false)
  | 23 => ("SoapWorksModel", "deep", "I", false)
  | 24 => ("SoapWorksModel", "nHasForm", "Z", false)
  | 25 => ("SoapWorksModel", "hasForm", "Z", false)
  | 26 => ("SoapWorksModel", "asks", "[I", true)
  | 27 => ("SoapWorksModel", "nMind", "[I", true)
  | 28 => ("SoapWorksModel", "nWish", "[I", true)
  | 29 => ("SoapWorksModel", "nRule", "[I", true)
  | 30 => ("SoapWorksModel", "mind", "[I", true)
  | 31 => ("SoapWorksModel", "wish", "[I", true)
  | 32 => ("SoapWorksModel", "rules", "[I", true)
  | 33 => ("SoapWorksModel", "nKinds", "I", false)
  | 34 => ("SoapWorksModel", "nPeople", "I", false)
  | 35 => ("SoapWorksModel", "nBasins", "I", false)
  | 36 => ("SoapWorksModel", "nRules", "I", false)
  | 37 => ("SoapWorksModel", "nLastKind", "I", false)
  | 38 => ("SoapWorksModel", "nScum", "I", false)
  | 39 => ("SoapWorksModel", "nDraw", "I", false)
  | 40 => ("SoapWorksModel", "kinds", "I", false)
  | 41 => ("SoapWorksModel", "people", "I", false)
  | 42 => ("SoapWorksModel", "basins", "I", false)
  | 43 => ("SoapWorksModel", "ruleMany", "I", false)
  | 44 => ("SoapWorksModel", "lastKind", "I", false)
  | 45 => ("SoapWorksModel", "scum", "I", false)
  | 46 => ("SoapWorksModel", "nHasScum", "Z", false)
  | 47 => ("SoapWorksModel", "nHasDraw", "Z", false)
  | 48 => ("SoapWorksModel", "someKind", "I", false)
  | 49 => ("SoapWorksModel", "now", "[I", true)
  | 50 => ("SoapWorksModel", "air", "[I", true)
  | 51 => ("SoapWorksModel", "were", "[I", true)
  | 52 => ("SoapWorksModel", "acts", "I", false)
  | 53 => ("SoapWorksModel", "undone", "I", false)
  | 54 => ("SoapWorksModel", "before", "[I", true)
  | 55 => ("SoapWorksModel", "lies", "[I", true)
  | 56 => ("SoapWorksModel", "row", "[I", true)
  | 57 => ("SoapWorksModel", "lain", "I", false)
  | 58 => ("SoapWorksModel", "ones", "[I", true)
  | 59 => ("SoapWorksModel", "others", "[I", true)
  | 60 => ("SoapWorksModel", "sightAt", "[I", true)
  | 61 => ("SoapWorksModel", "sightKind", "[I", true)
  | 62 => ("SoapWorksModel", "sightMuch", "[I", true)
  | 63 => ("SoapWorksModel", "sightTold", "[I", true)
  | 64 => ("SoapWorksModel", "sightUntold", "[I", true)
  | 65 => ("SoapWorksModel", "sightIs", "[Z", true)
  | 66 => ("SoapWorksModel", "sights", "I", false)
  | 67 => ("SoapWorksModel", "time", "I", false)
  | 68 => ("SoapWorksModel", "was", "[I", true)
  | 69 => ("SoapWorksModel", "tally", "[I", true)
  | 70 => ("SoapWorksModel", "isFit", "[Z", true)
  | 71 => ("SoapWorksModel", "hasBox", "[Z", true)
  | _ => ("SoapWorksModel", "boxes", "[I", true)
def tyX10 : Nat → FieldType := fun k => match k with
  | 0 => .array .int
  | 1 => .int
  | 2 => .int
  | 3 => .int
  | 4 => .int
  | 5 => .int
  | 6 => .int
  | 7 => .int
  | 8 => .int
  | 9 => .long
  | 10 => .array .long
  | 11 => .array .int
  | 12 => .array .int
  | 13 => .array .int
  | 14 => .array .int
  | 15 => .array .int
  | 16 => .array .int
  | 17 => .int
  | 18 => .int
  | 19 => .int
  | 20 => .int
  | 21 => .int
  | 22 => .int
  | 23 => .int
  | 24 => .boolean
  | 25 => .boolean
  | 26 => .array .int
  | 27 => .array .int
  | 28 => .array .int
  | 29 => .array .int
  | 30 => .array .int
  | 31 => .array .int
  | 32 => .array .int
  | 33 => .int
  | 34 => .int
  | 35 => .int
  | 36 => .int
  | 37 => .int
  | 38 => .int
  | 39 => .int
  | 40 => .int
  | 41 => .int
  | 42 => .int
  | 43 => .int
  | 44 => .int
  | 45 => .int
  | 46 => .boolean
  | 47 => .boolean
  | 48 => .int
  | 49 => .array .int
  | 50 => .array .int
  | 51 => .array .int
  | 52 => .int
  | 53 => .int
  | 54 => .array .int
  | 55 => .array .int
  | 56 => .array .int
  | 57 => .int
  | 58 => .array .int
  | 59 => .array .int
  | 60 => .array .int
  | 61 => .array .int
  | 62 => .array .int
  | 63 => .array .int
  | 64 => .array .int
  | 65 => .array .boolean
  | 66 => .int
  | 67 => .int
  | 68 => .array .int
  | 69 => .array .int
  | 70 => .array .boolean
  | 71 => .array .boolean
  | _ => .array .int
abbrev wsX100 : List Cond := u_ws RX10 TX10 73
theorem nmX10 : ∀ a, a < 73 → ∀ b, b < 73 → a ≠ b → (TX10 a).2.1 ≠ (TX10 b).2.1 := by decide +kernel
theorem tyX10_ok : ∀ k, k < 73 → parseFieldDescriptor (TX10 k).2.2.1 = some (tyX10 k) := by decide +kernel
abbrev cX10_init : ByteArray := prog_12_method_1_code
def yX10_init : MethodName := ⟨RX10, "<init>", "()V"⟩
abbrev cX10_feed : ByteArray := prog_12_method_2_code
def yX10_feed : MethodName := ⟨RX10, "feed", "(IIIII)I"⟩
abbrev cX10_four : ByteArray := prog_12_method_3_code
def yX10_four : MethodName := ⟨RX10, "four", "(I)V"⟩
abbrev cX10_end : ByteArray := prog_12_method_4_code
def yX10_end : MethodName := ⟨RX10, "end", "(I)I"⟩
abbrev cX10_here : ByteArray := prog_12_method_5_code
def yX10_here : MethodName := ⟨RX10, "here", "(I)I"⟩
abbrev cX10_isLetter : ByteArray := prog_12_method_6_code
def yX10_isLetter : MethodName := ⟨RX10, "isLetter", "(I)Z"⟩
abbrev cX10_isDigit : ByteArray := prog_12_method_7_code
def yX10_isDigit : MethodName := ⟨RX10, "isDigit", "(I)Z"⟩
abbrev cX10_isSign : ByteArray := prog_12_method_8_code
def yX10_isSign : MethodName := ⟨RX10, "isSign", "(I)Z"⟩
abbrev cX10_token : ByteArray := prog_12_method_9_code
def yX10_token : MethodName := ⟨RX10, "token", "()V"⟩
abbrev cX10_wrong : ByteArray := prog_12_method_10_code
def yX10_wrong : MethodName := ⟨RX10, "wrong", "(I)V"⟩
abbrev cX10_isWord : ByteArray := prog_12_method_11_code
def yX10_isWord : MethodName := ⟨RX10, "isWord", "(J)Z"⟩
abbrev cX10_isOwn : ByteArray := prog_12_method_12_code
def yX10_isOwn : MethodName := ⟨RX10, "isOwn", "()Z"⟩
abbrev cX10_isName : ByteArray := prog_12_method_13_code
def yX10_isName : MethodName := ⟨RX10, "isName", "()Z"⟩
abbrev cX10_want : ByteArray := prog_12_method_14_code
def yX10_want : MethodName := ⟨RX10, "want", "(J)V"⟩
abbrev cX10_toldNumber : ByteArray := prog_12_method_15_code
def yX10_toldNumber : MethodName := ⟨RX10, "toldNumber", "(II)I"⟩
abbrev cX10_told : ByteArray := prog_12_method_16_code
def yX10_told : MethodName := ⟨RX10, "told", "(JII)I"⟩
abbrev cX10_find : ByteArray := prog_12_method_17_code
def yX10_find : MethodName := ⟨RX10, "find", "(II)I"⟩
abbrev cX10_newName : ByteArray := prog_12_method_18_code
def yX10_newName : MethodName := ⟨RX10, "newName", "(II)V"⟩
abbrev cX10_oldKind : ByteArray := prog_12_method_19_code
def yX10_oldKind : MethodName := ⟨RX10, "oldKind", "()I"⟩
abbrev cX10_add : ByteArray := prog_12_method_20_code
def yX10_add : MethodName := ⟨RX10, "add", "(II)V"⟩
abbrev cX10_tight : ByteArray := prog_12_method_21_code
def yX10_tight : MethodName := ⟨RX10, "tight", "(I)I"⟩
abbrev cX10_close : ByteArray := prog_12_method_22_code
def yX10_close : MethodName := ⟨RX10, "close", "(I)V"⟩
abbrev cX10_hasRelation : ByteArray := prog_12_method_23_code
def yX10_hasRelation : MethodName := ⟨RX10, "hasRelation", "()Z"⟩
abbrev cX10_mayNot : ByteArray := prog_12_method_24_code
def yX10_mayNot : MethodName := ⟨RX10, "mayNot", "()Z"⟩
abbrev cX10_asked : ByteArray := prog_12_method_25_code
def yX10_asked : MethodName := ⟨RX10, "asked", "()I"⟩
abbrev cX10_isFull : ByteArray := prog_12_method_26_code
def yX10_isFull : MethodName := ⟨RX10, "isFull", "()Z"⟩
abbrev cX10_countUnit : ByteArray := prog_12_method_27_code
def yX10_countUnit : MethodName := ⟨RX10, "countUnit", "()V"⟩
abbrev cX10_openUp : ByteArray := prog_12_method_28_code
def yX10_openUp : MethodName := ⟨RX10, "openUp", "(I)V"⟩
abbrev cX10_unit : ByteArray := prog_12_method_29_code
def yX10_unit : MethodName := ⟨RX10, "unit", "()V"⟩
abbrev cX10_sign : ByteArray := prog_12_method_30_code
def yX10_sign : MethodName := ⟨RX10, "sign", "()I"⟩
abbrev cX10_hasBracket : ByteArray := prog_12_method_31_code
def yX10_hasBracket : MethodName := ⟨RX10, "hasBracket", "()Z"⟩
abbrev cX10_formula : ByteArray := prog_12_method_32_code
def yX10_formula : MethodName := ⟨RX10, "formula", "()V"⟩
abbrev cX10_truth : ByteArray := prog_12_method_33_code
def yX10_truth : MethodName := ⟨RX10, "truth", "(Z)I"⟩
abbrev cX10_done : ByteArray := prog_12_method_34_code
def yX10_done : MethodName := ⟨RX10, "done", "(III)I"⟩
abbrev cX10_lesser : ByteArray := prog_12_method_35_code
def yX10_lesser : MethodName := ⟨RX10, "lesser", "(II)I"⟩
abbrev cX10_greater : ByteArray := prog_12_method_36_code
def yX10_greater : MethodName := ⟨RX10, "greater", "(II)I"⟩
abbrev cX10_members : ByteArray := prog_12_method_37_code
def yX10_members : MethodName := ⟨RX10, "members", "(I)I"⟩
abbrev cX10_allOf : ByteArray := prog_12_method_38_code
def yX10_allOf : MethodName := ⟨RX10, "allOf", "()I"⟩
abbrev cX10_isRisen : ByteArray := prog_12_method_39_code
def yX10_isRisen : MethodName := ⟨RX10, "isRisen", "()Z"⟩
abbrev cX10_readKind : ByteArray := prog_12_method_40_code
def yX10_readKind : MethodName := ⟨RX10, "readKind", "()V"⟩
abbrev cX10_readSome : ByteArray := prog_12_method_41_code
def yX10_readSome : MethodName := ⟨RX10, "readSome", "([II)V"⟩
abbrev cX10_readAllOf : ByteArray := prog_12_method_42_code
def yX10_readAllOf : MethodName := ⟨RX10, "readAllOf", "([II)V"⟩
abbrev cX10_readPerson : ByteArray := prog_12_method_43_code
def yX10_readPerson : MethodName := ⟨RX10, "readPerson", "()V"⟩
abbrev cX10_readBasin : ByteArray := prog_12_method_44_code
def yX10_readBasin : MethodName := ⟨RX10, "readBasin", "()V"⟩
abbrev cX10_readRule : ByteArray := prog_12_method_45_code
def yX10_readRule : MethodName := ⟨RX10, "readRule", "()V"⟩
abbrev cX10_readLine : ByteArray := prog_12_method_46_code
def yX10_readLine : MethodName := ⟨RX10, "readLine", "()V"⟩
abbrev cX10_readAll : ByteArray := prog_12_method_47_code
def yX10_readAll : MethodName := ⟨RX10, "readAll", "()V"⟩
abbrev cX10_works : ByteArray := prog_12_method_48_code
def yX10_works : MethodName := ⟨RX10, "works", "()I"⟩
abbrev cX10_fault : ByteArray := prog_12_method_49_code
def yX10_fault : MethodName := ⟨RX10, "fault", "(I)I"⟩
abbrev cX10_isIn : ByteArray := prog_12_method_50_code
def yX10_isIn : MethodName := ⟨RX10, "isIn", "(III)Z"⟩
abbrev cX10_isKind : ByteArray := prog_12_method_51_code
def yX10_isKind : MethodName := ⟨RX10, "isKind", "(I)Z"⟩
abbrev cX10_isPerson : ByteArray := prog_12_method_52_code
def yX10_isPerson : MethodName := ⟨RX10, "isPerson", "(I)Z"⟩
abbrev cX10_isBasin : ByteArray := prog_12_method_53_code
def yX10_isBasin : MethodName := ⟨RX10, "isBasin", "(I)Z"⟩
abbrev cX10_isRule : ByteArray := prog_12_method_54_code
def yX10_isRule : MethodName := ⟨RX10, "isRule", "(I)Z"⟩
abbrev cX10_fill : ByteArray := prog_12_method_55_code
def yX10_fill : MethodName := ⟨RX10, "fill", "()V"⟩
abbrev cX10_keepAir : ByteArray := prog_12_method_56_code
def yX10_keepAir : MethodName := ⟨RX10, "keepAir", "()V"⟩
abbrev cX10_hasTold : ByteArray := prog_12_method_57_code
def yX10_hasTold : MethodName := ⟨RX10, "hasTold", "(I)Z"⟩
abbrev cX10_isEased : ByteArray := prog_12_method_58_code
def yX10_isEased : MethodName := ⟨RX10, "isEased", "(I)Z"⟩
abbrev cX10_tells : ByteArray := prog_12_method_59_code
def yX10_tells : MethodName := ⟨RX10, "tells", "(I)V"⟩
abbrev cX10_tellAll : ByteArray := prog_12_method_60_code
def yX10_tellAll : MethodName := ⟨RX10, "tellAll", "(I)V"⟩
abbrev cX10_makes : ByteArray := prog_12_method_61_code
def yX10_makes : MethodName := ⟨RX10, "makes", "(II)I"⟩
abbrev cX10_boilBy : ByteArray := prog_12_method_62_code
def yX10_boilBy : MethodName := ⟨RX10, "boilBy", "(II)V"⟩
abbrev cX10_boilAll : ByteArray := prog_12_method_63_code
def yX10_boilAll : MethodName := ⟨RX10, "boilAll", "()V"⟩
abbrev cX10_skims : ByteArray := prog_12_method_64_code
def yX10_skims : MethodName := ⟨RX10, "skims", "()V"⟩
abbrev cX10_goBoiling : ByteArray := prog_12_method_65_code
def yX10_goBoiling : MethodName := ⟨RX10, "goBoiling", "(Z)Z"⟩
abbrev cX10_vat : ByteArray := prog_12_method_66_code
def yX10_vat : MethodName := ⟨RX10, "vat", "(I)I"⟩
abbrev cX10_mind : ByteArray := prog_12_method_67_code
def yX10_mind : MethodName := ⟨RX10, "mind", "(II)I"⟩
abbrev cX10_wants : ByteArray := prog_12_method_68_code
def yX10_wants : MethodName := ⟨RX10, "wants", "(II)I"⟩
abbrev cX10_rule : ByteArray := prog_12_method_69_code
def yX10_rule : MethodName := ⟨RX10, "rule", "(II)I"⟩
abbrev cX10_act : ByteArray := prog_12_method_70_code
def yX10_act : MethodName := ⟨RX10, "act", "()V"⟩
abbrev cX10_exchange : ByteArray := prog_12_method_71_code
def yX10_exchange : MethodName := ⟨RX10, "exchange", "(I)V"⟩
abbrev cX10_confess : ByteArray := prog_12_method_72_code
def yX10_confess : MethodName := ⟨RX10, "confess", "(I)I"⟩
abbrev cX10_boil : ByteArray := prog_12_method_73_code
def yX10_boil : MethodName := ⟨RX10, "boil", "()I"⟩
abbrev cX10_holds : ByteArray := prog_12_method_74_code
def yX10_holds : MethodName := ⟨RX10, "holds", "(I)Z"⟩
abbrev cX10_wash : ByteArray := prog_12_method_75_code
def yX10_wash : MethodName := ⟨RX10, "wash", "(I)I"⟩
abbrev cX10_sweep : ByteArray := prog_12_method_76_code
def yX10_sweep : MethodName := ⟨RX10, "sweep", "(I)I"⟩
abbrev cX10_undo : ByteArray := prog_12_method_77_code
def yX10_undo : MethodName := ⟨RX10, "undo", "()Z"⟩
abbrev cX10_redo : ByteArray := prog_12_method_78_code
def yX10_redo : MethodName := ⟨RX10, "redo", "()Z"⟩
abbrev cX10_will : ByteArray := prog_12_method_79_code
def yX10_will : MethodName := ⟨RX10, "will", "(III)I"⟩
abbrev cX10_risesIn : ByteArray := prog_12_method_80_code
def yX10_risesIn : MethodName := ⟨RX10, "risesIn", "(I)I"⟩
abbrev cX10_rise : ByteArray := prog_12_method_81_code
def yX10_rise : MethodName := ⟨RX10, "rise", "()I"⟩
abbrev cX10_rouser : ByteArray := prog_12_method_82_code
def yX10_rouser : MethodName := ⟨RX10, "rouser", "(I)I"⟩
abbrev cX10_silent : ByteArray := prog_12_method_83_code
def yX10_silent : MethodName := ⟨RX10, "silent", "()I"⟩
abbrev cX10_choir : ByteArray := prog_12_method_84_code
def yX10_choir : MethodName := ⟨RX10, "choir", "(II)I"⟩
abbrev cX10_risesWith : ByteArray := prog_12_method_85_code
def yX10_risesWith : MethodName := ⟨RX10, "risesWith", "(I)Z"⟩
abbrev cX10_power : ByteArray := prog_12_method_86_code
def yX10_power : MethodName := ⟨RX10, "power", "(I)I"⟩
abbrev cX10_serve : ByteArray := prog_12_method_87_code
def yX10_serve : MethodName := ⟨RX10, "serve", "(I)I"⟩
abbrev cX10_balm : ByteArray := prog_12_method_88_code
def yX10_balm : MethodName := ⟨RX10, "balm", "(II)I"⟩
abbrev cX10_cook : ByteArray := prog_12_method_89_code
def yX10_cook : MethodName := ⟨RX10, "cook", "(I)I"⟩
abbrev cX10_lackOf : ByteArray := prog_12_method_90_code
def yX10_lackOf : MethodName := ⟨RX10, "lackOf", "(I)I"⟩
abbrev cX10_lacks : ByteArray := prog_12_method_91_code
def yX10_lacks : MethodName := ⟨RX10, "lacks", "(I)I"⟩
abbrev cX10_rest : ByteArray := prog_12_method_92_code
def yX10_rest : MethodName := ⟨RX10, "rest", "()I"⟩
abbrev cX10_nextRow : ByteArray := prog_12_method_93_code
def yX10_nextRow : MethodName := ⟨RX10, "nextRow", "()Z"⟩
abbrev cX10_swap : ByteArray := prog_12_method_94_code
def yX10_swap : MethodName := ⟨RX10, "swap", "(II)V"⟩
abbrev cX10_order : ByteArray := prog_12_method_95_code
def yX10_order : MethodName := ⟨RX10, "order", "(I)I"⟩
abbrev cX10_comesOf : ByteArray := prog_12_method_96_code
def yX10_comesOf : MethodName := ⟨RX10, "comesOf", "(I)I"⟩
abbrev cX10_comes : ByteArray := prog_12_method_97_code
def yX10_comes : MethodName := ⟨RX10, "comes", "(I)I"⟩
abbrev cX10_steps : ByteArray := prog_12_method_98_code
def yX10_steps : MethodName := ⟨RX10, "steps", "(II)I"⟩
abbrev cX10_mindOf : ByteArray := prog_12_method_99_code
def yX10_mindOf : MethodName := ⟨RX10, "mindOf", "(I)I"⟩
abbrev cX10_duel : ByteArray := prog_12_method_100_code
def yX10_duel : MethodName := ⟨RX10, "duel", "(II)I"⟩
abbrev cX10_nearest : ByteArray := prog_12_method_101_code
def yX10_nearest : MethodName := ⟨RX10, "nearest", "()I"⟩
abbrev cX10_wanted : ByteArray := prog_12_method_102_code
def yX10_wanted : MethodName := ⟨RX10, "wanted", "(I)I"⟩
abbrev cX10_sinners : ByteArray := prog_12_method_103_code
def yX10_sinners : MethodName := ⟨RX10, "sinners", "(I)I"⟩
abbrev cX10_inert : ByteArray := prog_12_method_104_code
def yX10_inert : MethodName := ⟨RX10, "inert", "()I"⟩
abbrev cX10_alive : ByteArray := prog_12_method_105_code
def yX10_alive : MethodName := ⟨RX10, "alive", "()I"⟩
abbrev cX10_thickest : ByteArray := prog_12_method_106_code
def yX10_thickest : MethodName := ⟨RX10, "thickest", "()I"⟩
abbrev cX10_thinnest : ByteArray := prog_12_method_107_code
def yX10_thinnest : MethodName := ⟨RX10, "thinnest", "()I"⟩
abbrev cX10_makers : ByteArray := prog_12_method_108_code
def yX10_makers : MethodName := ⟨RX10, "makers", "(I)I"⟩
abbrev cX10_heaviest : ByteArray := prog_12_method_109_code
def yX10_heaviest : MethodName := ⟨RX10, "heaviest", "()I"⟩
abbrev cX10_law : ByteArray := prog_12_method_110_code
def yX10_law : MethodName := ⟨RX10, "law", "(I)I"⟩
abbrev cX10_mission : ByteArray := prog_12_method_111_code
def yX10_mission : MethodName := ⟨RX10, "mission", "()I"⟩
abbrev cX10_raised : ByteArray := prog_12_method_112_code
def yX10_raised : MethodName := ⟨RX10, "raised", "(II)I"⟩
abbrev cX10_divisor : ByteArray := prog_12_method_113_code
def yX10_divisor : MethodName := ⟨RX10, "divisor", "(II)I"⟩
abbrev cX10_odds : ByteArray := prog_12_method_114_code
def yX10_odds : MethodName := ⟨RX10, "odds", "(II)I"⟩
abbrev cX10_lies : ByteArray := prog_12_method_115_code
def yX10_lies : MethodName := ⟨RX10, "lies", "(I)I"⟩
abbrev cX10_seen : ByteArray := prog_12_method_116_code
def yX10_seen : MethodName := ⟨RX10, "seen", "(IIIZ)I"⟩
abbrev cX10_untell : ByteArray := prog_12_method_117_code
def yX10_untell : MethodName := ⟨RX10, "untell", "(I)Z"⟩
abbrev cX10_later : ByteArray := prog_12_method_118_code
def yX10_later : MethodName := ⟨RX10, "later", "(I)I"⟩
abbrev cX10_fitsMuch : ByteArray := prog_12_method_119_code
def yX10_fitsMuch : MethodName := ⟨RX10, "fitsMuch", "(II)Z"⟩
abbrev cX10_layFits : ByteArray := prog_12_method_120_code
def yX10_layFits : MethodName := ⟨RX10, "layFits", "(I)I"⟩
abbrev cX10_fits : ByteArray := prog_12_method_121_code
def yX10_fits : MethodName := ⟨RX10, "fits", "(I)I"⟩
abbrev cX10_sure : ByteArray := prog_12_method_122_code
def yX10_sure : MethodName := ⟨RX10, "sure", "(II)I"⟩
abbrev cX10_leftBy : ByteArray := prog_12_method_123_code
def yX10_leftBy : MethodName := ⟨RX10, "leftBy", "(II)I"⟩
abbrev cX10_ask : ByteArray := prog_12_method_124_code
def yX10_ask : MethodName := ⟨RX10, "ask", "(III)I"⟩
abbrev cX10_isBox : ByteArray := prog_12_method_125_code
def yX10_isBox : MethodName := ⟨RX10, "isBox", "(I)Z"⟩
abbrev cX10_image : ByteArray := prog_12_method_126_code
def yX10_image : MethodName := ⟨RX10, "image", "(I)I"⟩
abbrev cX10_back : ByteArray := prog_12_method_127_code
def yX10_back : MethodName := ⟨RX10, "back", "(I)I"⟩
abbrev cX10_about : ByteArray := prog_12_method_128_code
def yX10_about : MethodName := ⟨RX10, "about", "(I)I"⟩
def RJx145de : String := "java/io/Serializable"
def RJx9f9b0 : String := "java/lang/CharSequence"
def RJ11 : String := "java/lang/Character"
abbrev cJ11_isValidCodePoint_9a6ad : ByteArray := prog_13_method_11_code
def yJ11_isValidCodePoint_9a6ad : MethodName := ⟨RJ11, "isValidCodePoint", "(I)Z"⟩
abbrev cJ11_highSurrogate_5068e : ByteArray := prog_13_method_28_code
def yJ11_highSurrogate_5068e : MethodName := ⟨RJ11, "highSurrogate", "(I)C"⟩
abbrev cJ11_lowSurrogate_5068e : ByteArray := prog_13_method_29_code
def yJ11_lowSurrogate_5068e : MethodName := ⟨RJ11, "lowSurrogate", "(I)C"⟩
def RJxb160c : String := "java/lang/Comparable"
def RJ6 : String := "java/lang/Integer"
abbrev cJ6_numberOfLeadingZeros_0f7a4 : ByteArray := prog_14_method_47_code
def yJ6_numberOfLeadingZeros_0f7a4 : MethodName := ⟨RJ6, "numberOfLeadingZeros", "(I)I"⟩
abbrev cJ6_numberOfTrailingZeros_0f7a4 : ByteArray := prog_14_method_48_code
def yJ6_numberOfTrailingZeros_0f7a4 : MethodName := ⟨RJ6, "numberOfTrailingZeros", "(I)I"⟩
abbrev cJ6_bitCount_0f7a4 : ByteArray := prog_14_method_49_code
def yJ6_bitCount_0f7a4 : MethodName := ⟨RJ6, "bitCount", "(I)I"⟩
def RJ9 : String := "java/lang/Math"
abbrev cJ9_max_7cf53 : ByteArray := prog_15_method_65_code
def yJ9_max_7cf53 : MethodName := ⟨RJ9, "max", "(II)I"⟩
abbrev cJ9_min_7cf53 : ByteArray := prog_15_method_69_code
def yJ9_min_7cf53 : MethodName := ⟨RJ9, "min", "(II)I"⟩
def RJ0 : String := "java/lang/String"
abbrev cJ0_length_8abf5 : ByteArray := prog_16_method_54_code
def yJ0_length_8abf5 : MethodName := ⟨RJ0, "length", "()I"⟩
abbrev cJ0_charAt_5068e : ByteArray := prog_16_method_56_code
def yJ0_charAt_5068e : MethodName := ⟨RJ0, "charAt", "(I)C"⟩
abbrev cJ0_indexOf_0f7a4 : ByteArray := prog_16_method_79_code
def yJ0_indexOf_0f7a4 : MethodName := ⟨RJ0, "indexOf", "(I)I"⟩
abbrev cJ0_indexOf_7cf53 : ByteArray := prog_16_method_80_code
def yJ0_indexOf_7cf53 : MethodName := ⟨RJ0, "indexOf", "(II)I"⟩
abbrev cJ0_coder_7d493 : ByteArray := prog_16_method_152_code
def yJ0_coder_7d493 : MethodName := ⟨RJ0, "coder", "()B"⟩
abbrev cJ0_isLatin1_aae02 : ByteArray := prog_16_method_154_code
def yJ0_isLatin1_aae02 : MethodName := ⟨RJ0, "isLatin1", "()Z"⟩
abbrev cJ0_checkIndex_df160 : ByteArray := prog_16_method_155_code
def yJ0_checkIndex_df160 : MethodName := ⟨RJ0, "checkIndex", "(II)V"⟩
abbrev cJ0_checkBoundsBeginEnd_23922 : ByteArray := prog_16_method_158_code
def yJ0_checkBoundsBeginEnd_23922 : MethodName := ⟨RJ0, "checkBoundsBeginEnd", "(III)V"⟩
def RJ1 : String := "java/lang/StringLatin1"
abbrev cJ1_charAt_3b067 : ByteArray := prog_17_method_2_code
def yJ1_charAt_3b067 : MethodName := ⟨RJ1, "charAt", "([BI)C"⟩
abbrev cJ1_canEncode_9a6ad : ByteArray := prog_17_method_4_code
def yJ1_canEncode_9a6ad : MethodName := ⟨RJ1, "canEncode", "(I)Z"⟩
abbrev cJ1_indexOf_4cfef : ByteArray := prog_17_method_22_code
def yJ1_indexOf_4cfef : MethodName := ⟨RJ1, "indexOf", "([BIII)I"⟩
abbrev cJ1_indexOfChar_4cfef : ByteArray := prog_17_method_23_code
def yJ1_indexOfChar_4cfef : MethodName := ⟨RJ1, "indexOfChar", "([BIII)I"⟩
def RJ2 : String := "java/lang/StringUTF16"
abbrev cJ2_getChar_3b067 : ByteArray := prog_18_method_5_code
def yJ2_getChar_3b067 : MethodName := ⟨RJ2, "getChar", "([BI)C"⟩
abbrev cJ2_length_9d52b : ByteArray := prog_18_method_6_code
def yJ2_length_9d52b : MethodName := ⟨RJ2, "length", "([B)I"⟩
abbrev cJ2_indexOf_4cfef : ByteArray := prog_18_method_40_code
def yJ2_indexOf_4cfef : MethodName := ⟨RJ2, "indexOf", "([BIII)I"⟩
abbrev cJ2_indexOfChar_4cfef : ByteArray := prog_18_method_47_code
def yJ2_indexOfChar_4cfef : MethodName := ⟨RJ2, "indexOfChar", "([BIII)I"⟩
abbrev cJ2_indexOfCharUnsafe_4cfef : ByteArray := prog_18_method_48_code
def yJ2_indexOfCharUnsafe_4cfef : MethodName := ⟨RJ2, "indexOfCharUnsafe", "([BIII)I"⟩
abbrev cJ2_indexOfSupplementary_4cfef : ByteArray := prog_18_method_49_code
def yJ2_indexOfSupplementary_4cfef : MethodName := ⟨RJ2, "indexOfSupplementary", "([BIII)I"⟩
abbrev cJ2_charAt_3b067 : ByteArray := prog_18_method_83_code
def yJ2_charAt_3b067 : MethodName := ⟨RJ2, "charAt", "([BI)C"⟩
abbrev cJ2_checkIndex_2214a : ByteArray := prog_18_method_91_code
def yJ2_checkIndex_2214a : MethodName := ⟨RJ2, "checkIndex", "(I[B)V"⟩
abbrev cJ2_checkBoundsBeginEnd_d044e : ByteArray := prog_18_method_93_code
def yJ2_checkBoundsBeginEnd_d044e : MethodName := ⟨RJ2, "checkBoundsBeginEnd", "(II[B)V"⟩
def RJ10 : String := "java/lang/System"
def RJxfd54e : String := "java/lang/constant/Constable"
def RJx3cf43 : String := "java/lang/constant/ConstantDesc"
def RJ7 : String := "java/util/Arrays"
abbrev cJ7_fill_53178 : ByteArray := prog_20_method_103_code
def yJ7_fill_53178 : MethodName := ⟨RJ7, "fill", "([II)V"⟩
def RJ3 : String := "jdk/internal/util/Preconditions"
abbrev cJ3_checkIndex_8e157 : ByteArray := prog_21_method_11_code
def yJ3_checkIndex_8e157 : MethodName := ⟨RJ3, "checkIndex", "(IILjava/util/function/BiFunction;)I"⟩
abbrev cJ3_checkFromToIndex_8c36e : ByteArray := prog_21_method_12_code
def yJ3_checkFromToIndex_8c36e : MethodName := ⟨RJ3, "checkFromToIndex", "(IIILjava/util/function/BiFunction;)I"⟩
def RL : String := "SoapWorksLaw"
abbrev cL_law : ByteArray := code
def yL_law : MethodName := ⟨RL, "law", "([I)Z"⟩
end
section
/-! the cells of both systems, once they are made: 84 of them, in a fixed order; a memory gives what they hold -/
abbrev sw_cl : List vw_C := [(RX0, TX0, 3), (RX1, TX1, 2), (RX2, TX2, 6), (RX3, TX3, 3), (RX4, TX4, 16), (RX5, TX5, 5), (RX6, TX6, 10), (RX7, TX7, 10), (RX8, TX8, 6), (RX9, TX9, 10), (RX10, TX10, 73)]
abbrev sw_M : Type := (Nat → Nat → Int32) × (Nat → Nat → Int64) × (Nat → Nat)
abbrev sw_E : Type := (Nat → Nat) × (Nat → ClassId) × (Nat → ClassId) × (Nat → Nat → Nat) × ((Nat → Prop) → State → Heap → Prop)
def sw_sh : List (Nat × Nat) := [(0, 9), (0, 5), (0, 7), (2, 1600), (4, 19), (0, 4), (4, 5), (4, 7), (4, 4), (1, 35), (1, 20), (1, 24), (0, 2), (1, 270), (1, 31), (1, 6), (0, 4), (4, 5), (4, 7), (4, 4), (1, 35), (1, 20), (1, 24), (0, 2), (1, 270), (1, 31), (1, 6), (0, 8), (1, 5), (0, 0), (1, 410), (0, 1), (3, 3), (1, 30), (0, 3), (0, 8), (1, 5), (1, 5), (1, 6), (0, 6), (1, 30), (1, 30), (1, 30), (3, 30), (1, 30), (1, 30), (1, 5), (1, 2015), (1, 6), (0, 10), (1, 1600), (4, 16), (1, 320), (1, 320), (1, 320), (1, 320), (1, 160), (1, 64), (1, 6), (1, 35), (1, 20), (1, 24), (1, 35), (1, 20), (1, 24), (1, 10), (1, 10), (1, 400), (1, 5), (1, 6), (1, 6), (1, 4), (1, 4), (1, 30), (1, 30), (1, 30), (1, 30), (1, 30), (3, 30), (1, 2015), (1, 1000), (3, 31), (3, 3), (1, 30)]
def sw_s (i : Nat) : Nat × Nat := sw_sh.getD i (1, 0)
def sw_fk : List (List Nat) := [[3, 0, 0], [3, 4], [0, 0, 0, 3, 4, 5], [3, 5, 6], [0, 0, 0, 0, 0, 0, 0, 0, 0, 3, 4, 5, 6, 7, 8, 9], [3, 903, 0, 0, 0], [0, 3, 4, 5, 6, 7, 8, 9, 10, 0], [3, 0, 4, 0, 0, 0, 1, 0, 0, 0], [3, 0, 0, 0, 0, 0], [3, 902, 29, 31, 33, 36, 41, 50, 0, 0], [3, 0, 0, 0, 0, 0, 0, 0, 0, 1, 4, 5, 6, 7, 8, 9, 10, 0, 0, 0, 0, 0, 0, 0, 0, 0, 11, 12, 13, 14, 15, 16, 17, 0, 0, 0, 0, 0, 0, 0, 0, 0, 0, 0, 0, 0, 0, 0, 0, 18, 19, 20, 0, 0, 21, 22, 23, 0, 24, 25, 26, 27, 28, 29, 30, 31, 0, 0, 32, 33, 34, 35, 36]]
def sw_pl (n : Nat) : Nat := if n = 5 then 5 else 16
def sw_fv (σ : sw_M) (i k code : Nat) : Value := match code with
  | 0 => .int (σ.1 i k)
  | 1 => .long (σ.2.1 i k)
  | c + 2 => if c < 900 then .ref (i + c) else .ref (sw_pl (σ.2.2 (c - 900)))
def sw_fs (σ : sw_M) (i ci : Nat) : List Value := (sw_fk.getD ci []).zipIdx.map (fun q => sw_fv σ i q.2 q.1)
def sw_g (E : sw_E) : Value → Value
  | .ref i => .ref (E.1 i)
  | v => v
def sw_g2 (E : sw_E) (q : Nat × Value) : Nat × Value := (q.1, sw_g E q.2)
def sw_ce (E : sw_E) (σ : sw_M) (i : Nat) : va_E :=
  if (sw_s i).1 = 0 then .inr ((sw_s i).2, (sw_fs σ i (sw_s i).2).map (sw_g E))
  else if (sw_s i).1 = 4 then .inl (E.2.1 i, (sw_s i).2, .inr (.inl (σ.2.1 i)))
  else .inl (E.2.1 i, (sw_s i).2, .inl (σ.1 i))
def sw_wl (E : sw_E) (σ : sw_M) : va_W := (List.range 84).map fun i => (E.1 i, sw_ce E σ i)
def sw_tc : Nat → FieldType
  | 2 => .byte
  | 3 => .boolean
  | 4 => .long
  | _ => .int
def sw_ty (E : sw_E) : List (ClassId × FieldType) := (List.range 84).map fun i => (E.2.1 i, sw_tc (sw_s i).1)
abbrev sw_D (E : sw_E) : va_G := (E.2.2.1, E.2.2.2.1)
def sw_wA (σ : sw_M) (i : Nat) (f : Nat → Int32) : sw_M := (fun a => if a = i then f else σ.1 a, σ.2)
def sw_w (σ : sw_M) (i k : Nat) (x : Int32) : sw_M := sw_wA σ i (upd (σ.1 i) k x)
def sw_wL (σ : sw_M) (i k : Nat) (x : Int64) : sw_M := (σ.1, fun a => if a = i then vp_updL (σ.2.1 i) k x else σ.2.1 a, σ.2.2)
def sw_wP (σ : sw_M) (j r : Nat) : sw_M := (σ.1, σ.2.1, fun a => if a = j then r else σ.2.2 a)
theorem sw_wl_at (E : sw_E) (σ : sw_M) {i : Nat} (hi : i < 84) : (sw_wl E σ)[i]? = some (E.1 i, sw_ce E σ i) := by
  simp [sw_wl, hi]
theorem sw_ty_at (E : sw_E) {i : Nat} (hi : i < 84) : (sw_ty E)[i]? = some (E.2.1 i, sw_tc (sw_s i).1) := by
  simp [sw_ty, hi]
theorem sw_wl_set (E : sw_E) (σ σ' : sw_M) {i : Nat} {e : va_E} (he : sw_ce E σ' i = e) (ho : ∀ a, a ≠ i → sw_ce E σ' a = sw_ce E σ a) : (sw_wl E σ).set i (E.1 i, e) = sw_wl E σ' := by
  apply List.ext_getElem?
  intro j
  rw [List.getElem?_set]
  by_cases hj : j < 84
  · rw [sw_wl_at E σ' hj, sw_wl_at E σ hj]
    by_cases hij : i = j
    · subst hij
      have : i < (sw_wl E σ).length := by simp [sw_wl, hj]
      simp [this, he]
    · simp only [if_neg hij]
      rw [ho j (fun h => hij h.symm)]
  · have h1 : (sw_wl E σ)[j]? = none := by simp [sw_wl]; omega
    have h2 : (sw_wl E σ')[j]? = none := by simp [sw_wl]; omega
    have hl : (sw_wl E σ).length = 84 := by simp [sw_wl]
    rw [h1, h2]
    by_cases hij : i = j
    · subst hij
      simp [hl]; omega
    · simp [hij]
theorem sw_wl_D {E : sw_E} {A : Nat → Prop} {σ : sw_M} (σ' : sw_M) (h : va_D A (sw_wl E σ)) : va_D A (sw_wl E σ') := by
  have key : ∀ (k : Nat) (q : Nat × va_E), (sw_wl E σ')[k]? = some q → ∃ q0, (sw_wl E σ)[k]? = some q0 ∧ q0.1 = q.1 := by
    intro k q hq
    by_cases hk : k < 84
    · rw [sw_wl_at E σ' hk] at hq
      cases hq
      exact ⟨_, sw_wl_at E σ hk, rfl⟩
    · have : (sw_wl E σ')[k]? = none := by simp [sw_wl]; omega
      rw [this] at hq; cases hq
  refine ⟨fun i j p q hi hj hpq => ?_, fun k q hk => ?_⟩
  · obtain ⟨p0, h1, e1⟩ := key i p hi
    obtain ⟨q0, h2, e2⟩ := key j q hj
    exact h.1 i j p0 q0 h1 h2 (e1.trans (hpq.trans e2.symm))
  · obtain ⟨q0, h1, e1⟩ := key k q hk
    rw [← e1]; exact h.2 k q0 h1
theorem sw_wl_A (E : sw_E) (σ σ' : sw_M) (sz : Nat) : va_A (sw_wl E σ) sz = va_A (sw_wl E σ') sz := by
  have key : ∀ (τ τ' : sw_M) (q : Nat), (∃ (k : Nat) (e : va_E), (sw_wl E τ)[k]? = some (q, e)) → (∃ (k : Nat) (e : va_E), (sw_wl E τ')[k]? = some (q, e)) := by
    intro τ τ' q ⟨k, e, hk⟩
    by_cases h : k < 84
    · rw [sw_wl_at E τ h] at hk
      cases hk
      exact ⟨k, _, sw_wl_at E τ' h⟩
    · have : (sw_wl E τ)[k]? = none := by simp [sw_wl]; omega
      rw [this] at hk; cases hk
  funext q
  apply propext
  constructor
  · rintro (h | h)
    · exact Or.inl (key σ σ' q h)
    · exact Or.inr h
  · rintro (h | h)
    · exact Or.inl (key σ' σ q h)
    · exact Or.inr h
theorem sw_fs_len (σ : sw_M) (i ci : Nat) : (sw_fs σ i ci).length = (sw_fk.getD ci []).length := by simp [sw_fs]
theorem sw_fs_at (σ : sw_M) (i ci j : Nat) : (sw_fs σ i ci)[j]? = ((sw_fk.getD ci [])[j]?).map (fun c => sw_fv σ i j c) := by
  simp [sw_fs, List.getElem?_zipIdx, Function.comp_def]
theorem sw_fs_w (σ : sw_M) (i ci k : Nat) (x : Int32) (hk : (sw_fk.getD ci [])[k]? = some 0) : sw_fs (sw_w σ i k x) i ci = (sw_fs σ i ci).set k (.int x) := by
  apply List.ext_getElem?
  intro j
  have hl : k < (sw_fs σ i ci).length := by rw [sw_fs_len]; exact (List.getElem?_eq_some_iff.mp hk).1
  rw [List.getElem?_set, sw_fs_at, sw_fs_at]
  by_cases hkj : k = j
  · subst hkj
    simp only [hl, if_true]
    rw [hk]
    simp [sw_fv, sw_w, sw_wA, upd]
  · rw [if_neg hkj]
    cases h : (sw_fk.getD ci [])[j]? with
    | none => simp
    | some c =>
      simp only [Option.map_some]
      congr 1
      have hjk : ¬ j = k := fun e => hkj e.symm
      match c with
      | 0 => simp [sw_fv, sw_w, sw_wA, upd, hjk]
      | 1 => simp [sw_fv, sw_w, sw_wA]
      | c + 2 => simp [sw_fv, sw_w, sw_wA]
theorem sw_fs_wL (σ : sw_M) (i ci k : Nat) (x : Int64) (hk : (sw_fk.getD ci [])[k]? = some 1) : sw_fs (sw_wL σ i k x) i ci = (sw_fs σ i ci).set k (.long x) := by
  apply List.ext_getElem?
  intro j
  have hl : k < (sw_fs σ i ci).length := by rw [sw_fs_len]; exact (List.getElem?_eq_some_iff.mp hk).1
  rw [List.getElem?_set, sw_fs_at, sw_fs_at]
  by_cases hkj : k = j
  · subst hkj
    simp only [hl, if_true]
    rw [hk]
    simp [sw_fv, sw_wL, vp_updL]
  · rw [if_neg hkj]
    cases h : (sw_fk.getD ci [])[j]? with
    | none => simp
    | some c =>
      simp only [Option.map_some]
      congr 1
      have hjk : ¬ j = k := fun e => hkj e.symm
      match c with
      | 0 => simp [sw_fv, sw_wL]
      | 1 => simp [sw_fv, sw_wL, vp_updL, hjk]
      | c + 2 => simp [sw_fv, sw_wL]
theorem sw_fv_loc (σ σ' : sw_M) (i k c : Nat) (h1 : σ'.1 i = σ.1 i) (h2 : σ'.2.1 i = σ.2.1 i) (h3 : σ'.2.2 = σ.2.2) : sw_fv σ' i k c = sw_fv σ i k c := by
  match c with
  | 0 => simp [sw_fv, h1]
  | 1 => simp [sw_fv, h2]
  | c + 2 => simp [sw_fv, h3]
theorem sw_ce_loc (E : sw_E) (σ σ' : sw_M) (i : Nat) (h1 : σ'.1 i = σ.1 i) (h2 : σ'.2.1 i = σ.2.1 i) (h3 : σ'.2.2 = σ.2.2) : sw_ce E σ' i = sw_ce E σ i := by
  have hf : ∀ ci, sw_fs σ' i ci = sw_fs σ i ci := by
    intro ci
    simp only [sw_fs]
    congr 1
    funext q
    exact sw_fv_loc σ σ' i q.2 q.1 h1 h2 h3
  simp only [sw_ce, hf, h1, h2]
theorem sw_ce_wA (E : sw_E) (σ : sw_M) (i : Nat) (f : Nat → Int32) : ∀ a, a ≠ i → sw_ce E (sw_wA σ i f) a = sw_ce E σ a :=
  fun a h => sw_ce_loc E σ _ a (by simp [sw_wA, h]) rfl rfl
theorem sw_ce_wL (E : sw_E) (σ : sw_M) (i k : Nat) (x : Int64) : ∀ a, a ≠ i → sw_ce E (sw_wL σ i k x) a = sw_ce E σ a :=
  fun a h => sw_ce_loc E σ _ a rfl (by simp [sw_wL, h]) rfl
theorem sw_ce_o {E : sw_E} {σ : sw_M} {i ci : Nat} (h : sw_s i = (0, ci)) : sw_ce E σ i = .inr (ci, (sw_fs σ i ci).map (sw_g E)) := by
  simp [sw_ce, h]
theorem sw_ce_i {E : sw_E} {σ : sw_M} {i t n : Nat} (h : sw_s i = (t, n)) (h0 : t ≠ 0) (h4 : t ≠ 4) : sw_ce E σ i = .inl (E.2.1 i, n, .inl (σ.1 i)) := by
  simp [sw_ce, h, h0, h4]
theorem sw_ce_l {E : sw_E} {σ : sw_M} {i n : Nat} (h : sw_s i = (4, n)) : sw_ce E σ i = .inl (E.2.1 i, n, .inr (.inl (σ.2.1 i))) := by
  simp [sw_ce, h]
theorem sw_wA_self (σ : sw_M) (i : Nat) (f : Nat → Int32) : (sw_wA σ i f).1 i = f := by simp [sw_wA]
theorem sw_wL_self (σ : sw_M) (i k : Nat) (x : Int64) : (sw_wL σ i k x).2.1 i = vp_updL (σ.2.1 i) k x := by simp [sw_wL]
theorem sw_g_cat (E : sw_E) (v : Value) : (sw_g E v).category = v.category := by cases v <;> rfl
/-! the tables' words that a callee may be handed -/
def sw_T : List Cond := lw_tbl.filter goodWord
theorem sw_T_of {w : Cond} {i : Nat} (h : lw_tbl[i]? = some w) (hg : goodWord w = true) : w ∈ sw_T := List.mem_filter.mpr ⟨List.mem_of_getElem? h, hg⟩
theorem sw_T_good : ∀ w ∈ sw_T, (w.onTables && w.keeps) = true ∨ ∃ ty, w = .arrayClass ty := fun _ h => good_of_word (List.mem_filter.mp h).2
theorem sw_in0 : ∀ w ∈ u_ws RX0 TX0 3, w ∈ sw_T := by decide +kernel
theorem sw_in1 : ∀ w ∈ u_ws RX1 TX1 2, w ∈ sw_T := by decide +kernel
theorem sw_in2 : ∀ w ∈ u_ws RX2 TX2 6, w ∈ sw_T := by decide +kernel
theorem sw_in3 : ∀ w ∈ u_ws RX3 TX3 3, w ∈ sw_T := by decide +kernel
theorem sw_in4 : ∀ w ∈ u_ws RX4 TX4 16, w ∈ sw_T := by decide +kernel
theorem sw_in5 : ∀ w ∈ u_ws RX5 TX5 5, w ∈ sw_T := by decide +kernel
theorem sw_in6 : ∀ w ∈ u_ws RX6 TX6 10, w ∈ sw_T := by decide +kernel
theorem sw_in7 : ∀ w ∈ u_ws RX7 TX7 10, w ∈ sw_T := by decide +kernel
theorem sw_in8 : ∀ w ∈ u_ws RX8 TX8 6, w ∈ sw_T := by decide +kernel
theorem sw_in9 : ∀ w ∈ u_ws RX9 TX9 10, w ∈ sw_T := by decide +kernel
theorem sw_in10 : ∀ w ∈ u_ws RX10 TX10 73, w ∈ sw_T := by decide +kernel
end
section
/-! what may lie beside the cells (texts): it must bear a call -/
def sw_Mv (X : (Nat → Prop) → State → Heap → Prop) : Prop :=
  (∀ (A A' : Nat → Prop) (s U : State) (H0 H : Heap), X A s H0 → (∀ q : Nat, q < H0.size → ¬ A q → H[q]? = H0[q]?) → (∀ q, A' q → A q) → s.WarmedH U.vm → X A' U H) ∧
  (∀ (A : Nat → Prop) (u U : State) (H : Heap), U.vm = u.vm → X A u H → X A U H)
def sw_rm (K : Nat) : Room := { frames := K, cells := 0, slots := 0, locals := 64 * K }
def sw_Qc (E : sw_E) (r : Option Value) (σ' : sw_M) (A : Nat → Prop) : Array Value → State → Outcome → State → Prop := fun _ st oc t =>
  oc = .returned (r.map (sw_g E)) ∧ va_P (sw_D E) sw_cl (sw_wl E σ') t.heap ∧ va_K (sw_D E) sw_cl (sw_ty E) t ∧ va_F A st t
def sw_Pc (E : sw_E) (As : List Value) (σ : sw_M) (sz : Nat) : Array Value → State → Prop := va_Pc (As.map (sw_g E)) (fun U => U.heap.size = sz ∧ sw_Mv E.2.2.2.2 ∧ E.2.2.2.2 (va_A (sw_wl E σ) sz) U U.heap ∧ va_P (sw_D E) sw_cl (sw_wl E σ) U.heap ∧ va_K (sw_D E) sw_cl (sw_ty E) U ∧ va_D (fun _ => True) (sw_wl E σ))
/-- a method's contract: from the memory σ, with these arguments, it returns r and leaves σ' -/
def sw_Ct (l : Launch) (E : sw_E) (K : Nat) (y : MethodName) (cc : ByteArray) (nL : Nat) (ret : Option FieldType) (As : List Value) (σ : sw_M) (r : Option Value) (σ' : sw_M) : Prop :=
  ∀ sz : Nat, Met l y (.code y cc nL ret :: sw_T) (sw_rm K) (sw_Pc E As σ sz) (sw_Qc E r σ' (va_A (sw_wl E σ) sz)) 0 0 (va_A (sw_wl E σ) sz)
/-- what stays the same while a method's body runs -/
def sw_Cx (E : sw_E) (own : String) (cc : ByteArray) (nL : Nat) (ret : Option FieldType) (A : Nat → Prop) (p : Program) (s : State) (m : MethodId) (args : Array Value) (meth : Method) (c : Code) : Prop :=
  p.tables.exec = Jvm.exec ∧ c.code = cc ∧ c.maxLocals = nL ∧ meth.sig.returnType = ret ∧ meth.locks = false ∧ s.vm.findClass own = some m.cls ∧ (∀ w ∈ sw_T, w.before args s = true) ∧
  sw_Mv E.2.2.2.2 ∧ E.2.2.2.2 A s s.heap ∧ va_K (sw_D E) sw_cl (sw_ty E) s ∧ (∀ σ : sw_M, va_D A (sw_wl E σ)) ∧ (∀ q, s.heap.size ≤ q → A q)
def sw_Go (l : Launch) (E : sw_E) (K : Nat) (own : String) (cc : ByteArray) (nL : Nat) (ret : Option FieldType) (pc : Nat) (lv : List (Nat × Value)) (st : List Value) (σ : sw_M) (r : Option Value) (σ' : sw_M) : Prop :=
  ∀ (p : Program) (e : Env) (s : State) (m : MethodId) (args : Array Value) (below : List Frame) (meth : Method) (c : Code) (H : Heap) (locs : List Loc) (A : Nat → Prop) (ls : Array Slot),
    sw_Cx E own cc nL ret A p s m args meth c → va_P (sw_D E) sw_cl (sw_wl E σ) H → va_S A s.heap H locs → lv_has ls nL (lv.map (sw_g2 E)) →
    W p l e (sw_rm K) s m args below meth c H locs 0 0 (MQ below (sw_Qc E r σ' A) args s 0 0 A) (F0 m pc ls (st.map (sw_g E)))
theorem sw_lv_args (E : sw_E) : ∀ (i : Nat) (As : List Value), lv_args i (As.map (sw_g E)) = (lv_args i As).map (sw_g2 E)
  | _, [] => rfl
  | i, v :: vs => by
    show (i, sw_g E v) :: lv_args (if (sw_g E v).category = 2 then i + 2 else i + 1) (vs.map (sw_g E)) = (i, sw_g E v) :: (lv_args (if v.category = 2 then i + 2 else i + 1) vs).map (sw_g2 E)
    rw [sw_g_cat, sw_lv_args E _ vs]
theorem sw_lg_sl (E : sw_E) : ∀ (As : List Value), (lg_sl (As.map (sw_g E))).length = (lg_sl As).length
  | [] => rfl
  | v :: vs => by
    have ih := sw_lg_sl E vs
    simp only [lg_sl, List.map_cons, List.flatMap_cons, List.length_append] at ih ⊢
    rw [ih, sw_g_cat]
    by_cases h : v.category = 2 <;> simp [h]
theorem sw_ff (lv : List (Nat × Value)) (E : sw_E) (f : Nat × Value → Bool) (hf : ∀ q, f (sw_g2 E q) = f q) : (lv.map (sw_g2 E)).filter f = (lv.filter f).map (sw_g2 E) := by
  rw [List.filter_map]
  congr 1
  apply List.filter_congr
  intro q _
  exact hf q
theorem sw_enter {l : Launch} {E : sw_E} {K : Nat} {y : MethodName} {cc : ByteArray} {nL : Nat} {ret : Option FieldType} {As : List Value} {σ : sw_M} {r : Option Value} {σ' : sw_M} (hy : plainName y.cls = true) (hn : (lg_sl As).length ≤ nL)
    (h : sw_Go l E K y.cls cc nL ret 0 (lv_args 0 As) [] σ r σ') : sw_Ct l E K y cc nL ret As σ r σ' := by
  intro sz
  refine Met.ofW (cc := cc) (maxL := nL) (ret := ret) hy rfl ?_
  intro p e s m args below meth c s₁ B hml hv
  obtain ⟨rfl, hsz, hMv, hX, hP, hK, hD0⟩ := hv
  have hts := atoms_spec (ws := .code y cc nL ret :: sw_T) B.pre
  have hown : s.vm.findClass y.cls = some m.cls := findClass_of_methodNamed B.named
  subst hsz
  have hD := hD0.self (sz := s.heap.size)
  have hl := lv_entry (As.map (sw_g E)) (n := nL) (by rw [sw_lg_sl]; exact hn)
  rw [lg_entry_eq]
  rw [sw_lv_args] at hl
  exact h p e s m _ below meth c s.heap [] _ _ ⟨B.exec, B.bytes, hml, B.returns, B.notSynchronized, hown, fun w hw => hts w (List.mem_cons_of_mem _ hw), hMv, hX, hK, fun τ => sw_wl_D τ hD, fun q hq => Or.inr hq⟩ hP va_S.rf hl
section GO
variable {l : Launch} {E : sw_E} {K : Nat} {own : String} {cc : ByteArray} {nL : Nat} {ret : Option FieldType} {pc : Nat} {lv lv' : List (Nat × Value)} {st : List Value} {σ σ' : sw_M} {r : Option Value}
theorem sw_eqs {st2 : List Value} {lv2 : List (Nat × Value)} {σ2 : sw_M} (h1 : lv = lv2) (h2 : st = st2) (h3 : σ = σ2) (k : sw_Go l E K own cc nL ret pc lv2 st2 σ2 r σ') : sw_Go l E K own cc nL ret pc lv st σ r σ' := by
  subst h1; subst h2; subst h3; exact k
theorem sw_lv (ks : List Nat) (h : lv_pick lv ks = lv') (k : sw_Go l E K own cc nL ret pc lv' st σ r σ') : sw_Go l E K own cc nL ret pc lv st σ r σ' := by
  intro p e s m args below meth c H locs A ls C hP hS hl
  refine k p e s m args below meth c H locs A ls C hP hS (lv_sub hl ks ?_)
  subst h
  simp [lv_pick, List.map_filterMap, List.getElem?_map]
theorem sw_iconst {n : Int} {v : Int32} (hd : decode cc pc = .ok (.iconst n, 1)) (hv : Int32.ofInt n = v) (k : sw_Go l E K own cc nL ret (pc + 1) lv (.int v :: st) σ r σ') : sw_Go l E K own cc nL ret pc lv st σ r σ' := by
  intro p e s m args below meth c H locs A ls C hP hS hl
  exact lv_iconst C.1 C.2.1 hd hv (k p e s m args below meth c H locs A ls C hP hS hl)
theorem sw_bipush {n : Int} {v : Int32} (hd : decode cc pc = .ok (.bipush n, 2)) (hv : (Int8.ofInt n).toInt32 = v) (k : sw_Go l E K own cc nL ret (pc + 2) lv (.int v :: st) σ r σ') : sw_Go l E K own cc nL ret pc lv st σ r σ' := by
  intro p e s m args below meth c H locs A ls C hP hS hl
  exact lv_bipush C.1 C.2.1 hd hv (k p e s m args below meth c H locs A ls C hP hS hl)
theorem sw_sipush {n : Int} {v : Int32} (hd : decode cc pc = .ok (.sipush n, 3)) (hv : (Int16.ofInt n).toInt32 = v) (k : sw_Go l E K own cc nL ret (pc + 3) lv (.int v :: st) σ r σ') : sw_Go l E K own cc nL ret pc lv st σ r σ' := by
  intro p e s m args below meth c H locs A ls C hP hS hl
  exact lv_sipush C.1 C.2.1 hd hv (k p e s m args below meth c H locs A ls C hP hS hl)
theorem sw_iadd {x y : Int32} (hd : decode cc pc = .ok (.iadd, 1)) (k : sw_Go l E K own cc nL ret (pc + 1) lv (.int (x + y) :: st) σ r σ') : sw_Go l E K own cc nL ret pc lv (.int y :: .int x :: st) σ r σ' := by
  intro p e s m args below meth c H locs A ls C hP hS hl
  exact lv_iadd C.1 C.2.1 hd (k p e s m args below meth c H locs A ls C hP hS hl)
theorem sw_isub {x y : Int32} (hd : decode cc pc = .ok (.isub, 1)) (k : sw_Go l E K own cc nL ret (pc + 1) lv (.int (x - y) :: st) σ r σ') : sw_Go l E K own cc nL ret pc lv (.int y :: .int x :: st) σ r σ' := by
  intro p e s m args below meth c H locs A ls C hP hS hl
  exact lv_isub C.1 C.2.1 hd (k p e s m args below meth c H locs A ls C hP hS hl)
theorem sw_imul {x y : Int32} (hd : decode cc pc = .ok (.imul, 1)) (k : sw_Go l E K own cc nL ret (pc + 1) lv (.int (x * y) :: st) σ r σ') : sw_Go l E K own cc nL ret pc lv (.int y :: .int x :: st) σ r σ' := by
  intro p e s m args below meth c H locs A ls C hP hS hl
  exact lv_imul C.1 C.2.1 hd (k p e s m args below meth c H locs A ls C hP hS hl)
theorem sw_iand {x y : Int32} (hd : decode cc pc = .ok (.iand, 1)) (k : sw_Go l E K own cc nL ret (pc + 1) lv (.int (x &&& y) :: st) σ r σ') : sw_Go l E K own cc nL ret pc lv (.int y :: .int x :: st) σ r σ' := by
  intro p e s m args below meth c H locs A ls C hP hS hl
  exact lv_iand C.1 C.2.1 hd (k p e s m args below meth c H locs A ls C hP hS hl)
theorem sw_ior {x y : Int32} (hd : decode cc pc = .ok (.ior, 1)) (k : sw_Go l E K own cc nL ret (pc + 1) lv (.int (x ||| y) :: st) σ r σ') : sw_Go l E K own cc nL ret pc lv (.int y :: .int x :: st) σ r σ' := by
  intro p e s m args below meth c H locs A ls C hP hS hl
  exact lv_ior C.1 C.2.1 hd (k p e s m args below meth c H locs A ls C hP hS hl)
theorem sw_ixor {x y : Int32} (hd : decode cc pc = .ok (.ixor, 1)) (k : sw_Go l E K own cc nL ret (pc + 1) lv (.int (x ^^^ y) :: st) σ r σ') : sw_Go l E K own cc nL ret pc lv (.int y :: .int x :: st) σ r σ' := by
  intro p e s m args below meth c H locs A ls C hP hS hl
  exact lv_ixor C.1 C.2.1 hd (k p e s m args below meth c H locs A ls C hP hS hl)
theorem sw_idiv {x y : Int32} (hd : decode cc pc = .ok (.idiv, 1)) (hne : ¬ y = 0) (k : sw_Go l E K own cc nL ret (pc + 1) lv (.int (x / y) :: st) σ r σ') : sw_Go l E K own cc nL ret pc lv (.int y :: .int x :: st) σ r σ' := by
  intro p e s m args below meth c H locs A ls C hP hS hl
  exact lv_idiv C.1 C.2.1 hd hne (k p e s m args below meth c H locs A ls C hP hS hl)
theorem sw_irem {x y : Int32} (hd : decode cc pc = .ok (.irem, 1)) (hne : ¬ y = 0) (k : sw_Go l E K own cc nL ret (pc + 1) lv (.int (x - x / y * y) :: st) σ r σ') : sw_Go l E K own cc nL ret pc lv (.int y :: .int x :: st) σ r σ' := by
  intro p e s m args below meth c H locs A ls C hP hS hl
  exact lv_irem C.1 C.2.1 hd hne (k p e s m args below meth c H locs A ls C hP hS hl)
theorem sw_ladd {x y : Int64} (hd : decode cc pc = .ok (.ladd, 1)) (k : sw_Go l E K own cc nL ret (pc + 1) lv (.long (x + y) :: st) σ r σ') : sw_Go l E K own cc nL ret pc lv (.long y :: .long x :: st) σ r σ' := by
  intro p e s m args below meth c H locs A ls C hP hS hl
  exact lv_ladd C.1 C.2.1 hd (k p e s m args below meth c H locs A ls C hP hS hl)
theorem sw_lsub {x y : Int64} (hd : decode cc pc = .ok (.lsub, 1)) (k : sw_Go l E K own cc nL ret (pc + 1) lv (.long (x - y) :: st) σ r σ') : sw_Go l E K own cc nL ret pc lv (.long y :: .long x :: st) σ r σ' := by
  intro p e s m args below meth c H locs A ls C hP hS hl
  exact lv_lsub C.1 C.2.1 hd (k p e s m args below meth c H locs A ls C hP hS hl)
theorem sw_lmul {x y : Int64} (hd : decode cc pc = .ok (.lmul, 1)) (k : sw_Go l E K own cc nL ret (pc + 1) lv (.long (x * y) :: st) σ r σ') : sw_Go l E K own cc nL ret pc lv (.long y :: .long x :: st) σ r σ' := by
  intro p e s m args below meth c H locs A ls C hP hS hl
  exact lv_lmul C.1 C.2.1 hd (k p e s m args below meth c H locs A ls C hP hS hl)
theorem sw_lor {x y : Int64} (hd : decode cc pc = .ok (.lor, 1)) (k : sw_Go l E K own cc nL ret (pc + 1) lv (.long (x ||| y) :: st) σ r σ') : sw_Go l E K own cc nL ret pc lv (.long y :: .long x :: st) σ r σ' := by
  intro p e s m args below meth c H locs A ls C hP hS hl
  exact lv_lor C.1 C.2.1 hd (k p e s m args below meth c H locs A ls C hP hS hl)
theorem sw_ineg {x : Int32} (hd : decode cc pc = .ok (.ineg, 1)) (k : sw_Go l E K own cc nL ret (pc + 1) lv (.int (-x) :: st) σ r σ') : sw_Go l E K own cc nL ret pc lv (.int x :: st) σ r σ' := by
  intro p e s m args below meth c H locs A ls C hP hS hl
  exact lv_ineg C.1 C.2.1 hd (k p e s m args below meth c H locs A ls C hP hS hl)
theorem sw_i2l {x : Int32} (hd : decode cc pc = .ok (.i2l, 1)) (k : sw_Go l E K own cc nL ret (pc + 1) lv (.long (x.toInt64) :: st) σ r σ') : sw_Go l E K own cc nL ret pc lv (.int x :: st) σ r σ' := by
  intro p e s m args below meth c H locs A ls C hP hS hl
  exact lv_i2l C.1 C.2.1 hd rfl (k p e s m args below meth c H locs A ls C hP hS hl)
theorem sw_i2b {x : Int32} (hd : decode cc pc = .ok (.i2b, 1)) (k : sw_Go l E K own cc nL ret (pc + 1) lv (.int (x.toInt8.toInt32) :: st) σ r σ') : sw_Go l E K own cc nL ret pc lv (.int x :: st) σ r σ' := by
  intro p e s m args below meth c H locs A ls C hP hS hl
  exact lv_i2b C.1 C.2.1 hd rfl (k p e s m args below meth c H locs A ls C hP hS hl)
theorem sw_i2c {x : Int32} (hd : decode cc pc = .ok (.i2c, 1)) (k : sw_Go l E K own cc nL ret (pc + 1) lv (.int ((x.toUInt32 % 65536).toInt32) :: st) σ r σ') : sw_Go l E K own cc nL ret pc lv (.int x :: st) σ r σ' := by
  intro p e s m args below meth c H locs A ls C hP hS hl
  exact lv_i2c C.1 C.2.1 hd rfl (k p e s m args below meth c H locs A ls C hP hS hl)
theorem sw_ishl {x y : Int32} (hd : decode cc pc = .ok (.ishl, 1)) (k : sw_Go l E K own cc nL ret (pc + 1) lv (.int (x <<< (y &&& 31)) :: st) σ r σ') : sw_Go l E K own cc nL ret pc lv (.int y :: .int x :: st) σ r σ' := by
  intro p e s m args below meth c H locs A ls C hP hS hl
  exact lv_ishl C.1 C.2.1 hd (k p e s m args below meth c H locs A ls C hP hS hl)
theorem sw_ishr {x y : Int32} (hd : decode cc pc = .ok (.ishr, 1)) (k : sw_Go l E K own cc nL ret (pc + 1) lv (.int (x >>> (y &&& 31)) :: st) σ r σ') : sw_Go l E K own cc nL ret pc lv (.int y :: .int x :: st) σ r σ' := by
  intro p e s m args below meth c H locs A ls C hP hS hl
  exact lv_ishr C.1 C.2.1 hd (k p e s m args below meth c H locs A ls C hP hS hl)
theorem sw_iushr {x y : Int32} (hd : decode cc pc = .ok (.iushr, 1)) (k : sw_Go l E K own cc nL ret (pc + 1) lv (.int ((x.toUInt32 >>> (y.toUInt32 &&& Int32.toUInt32 31)).toInt32) :: st) σ r σ') : sw_Go l E K own cc nL ret pc lv (.int y :: .int x :: st) σ r σ' := by
  intro p e s m args below meth c H locs A ls C hP hS hl
  exact lv_iushr C.1 C.2.1 hd rfl (k p e s m args below meth c H locs A ls C hP hS hl)
theorem sw_lshl {x : Int64} {y : Int32} (hd : decode cc pc = .ok (.lshl, 1)) (k : sw_Go l E K own cc nL ret (pc + 1) lv (.long (x <<< (y.toInt64 &&& 63)) :: st) σ r σ') : sw_Go l E K own cc nL ret pc lv (.int y :: .long x :: st) σ r σ' := by
  intro p e s m args below meth c H locs A ls C hP hS hl
  exact lv_lshl C.1 C.2.1 hd rfl (k p e s m args below meth c H locs A ls C hP hS hl)
theorem sw_lcmp {x y : Int64} (hd : decode cc pc = .ok (.lcmp, 1)) (k : sw_Go l E K own cc nL ret (pc + 1) lv (.int (lg_cmp x y) :: st) σ r σ') : sw_Go l E K own cc nL ret pc lv (.long y :: .long x :: st) σ r σ' := by
  intro p e s m args below meth c H locs A ls C hP hS hl
  exact W.lcmp C.1 C.2.1 hd (k p e s m args below meth c H locs A ls C hP hS hl)
theorem sw_lconst {n : Fin 2} {v : Int64} (hd : decode cc pc = .ok (.lconst n, 1)) (hv : Int64.ofNat (n : Nat) = v) (k : sw_Go l E K own cc nL ret (pc + 1) lv (.long v :: st) σ r σ') : sw_Go l E K own cc nL ret pc lv st σ r σ' := by
  intro p e s m args below meth c H locs A ls C hP hS hl
  exact lv_lconst C.1 C.2.1 hd hv (k p e s m args below meth c H locs A ls C hP hS hl)
theorem sw_iload_n {k0 : Fin 4} {i : Nat} {x : Int32} (j : Nat) (hk : lv[j]? = some (i, .int x)) (hd : decode cc pc = .ok (.iload_n k0, 1)) (hi : (k0 : Nat) = i) (k : sw_Go l E K own cc nL ret (pc + 1) lv (.int x :: st) σ r σ') : sw_Go l E K own cc nL ret pc lv st σ r σ' := by
  intro p e s m args below meth c H locs A ls C hP hS hl
  exact lv_iload_n C.1 C.2.1 hd hi (lv_at hl j (by rw [List.getElem?_map, hk]; rfl)) (k p e s m args below meth c H locs A ls C hP hS hl)
theorem sw_iload {i : Nat} {x : Int32} (j : Nat) (hk : lv[j]? = some (i, .int x)) (hd : decode cc pc = .ok (.iload i, 2)) (k : sw_Go l E K own cc nL ret (pc + 2) lv (.int x :: st) σ r σ') : sw_Go l E K own cc nL ret pc lv st σ r σ' := by
  intro p e s m args below meth c H locs A ls C hP hS hl
  exact lv_iload C.1 C.2.1 hd (lv_at hl j (by rw [List.getElem?_map, hk]; rfl)) (k p e s m args below meth c H locs A ls C hP hS hl)
theorem sw_istore_n {k0 : Fin 4} {i : Nat} {x : Int32} (hd : decode cc pc = .ok (.istore_n k0, 1)) (hi : (k0 : Nat) = i) (hn : i < nL) (hl2 : (i, Value.int x) :: lv.filter (fun q => !(q.1 == i) && !(q.1 + 1 == i && q.2.category == 2)) = lv') (k : sw_Go l E K own cc nL ret (pc + 1) lv' st σ r σ') : sw_Go l E K own cc nL ret pc lv (.int x :: st) σ r σ' := by
  intro p e s m args below meth c H locs A ls C hP hS hl
  exact lv_istore_n C.1 C.2.1 hd hi hl hn (lv' := lv'.map (sw_g2 E)) (by subst hl2; rw [sw_ff lv E _ (fun q => by simp [sw_g2, sw_g_cat])]; rfl) (fun ls hl => (k p e s m args below meth c H locs A ls C hP hS hl))
theorem sw_istore {i : Nat} {x : Int32} (hd : decode cc pc = .ok (.istore i, 2)) (hn : i < nL) (hl2 : (i, Value.int x) :: lv.filter (fun q => !(q.1 == i) && !(q.1 + 1 == i && q.2.category == 2)) = lv') (k : sw_Go l E K own cc nL ret (pc + 2) lv' st σ r σ') : sw_Go l E K own cc nL ret pc lv (.int x :: st) σ r σ' := by
  intro p e s m args below meth c H locs A ls C hP hS hl
  exact lv_istore C.1 C.2.1 hd hl hn (lv' := lv'.map (sw_g2 E)) (by subst hl2; rw [sw_ff lv E _ (fun q => by simp [sw_g2, sw_g_cat])]; rfl) (fun ls hl => (k p e s m args below meth c H locs A ls C hP hS hl))
theorem sw_lload_n {k0 : Fin 4} {i : Nat} {x : Int64} (j : Nat) (hk : lv[j]? = some (i, .long x)) (hd : decode cc pc = .ok (.lload_n k0, 1)) (hi : (k0 : Nat) = i) (k : sw_Go l E K own cc nL ret (pc + 1) lv (.long x :: st) σ r σ') : sw_Go l E K own cc nL ret pc lv st σ r σ' := by
  intro p e s m args below meth c H locs A ls C hP hS hl
  exact lv_lload_n C.1 C.2.1 hd hi (lv_at hl j (by rw [List.getElem?_map, hk]; rfl)) (k p e s m args below meth c H locs A ls C hP hS hl)
theorem sw_lload {i : Nat} {x : Int64} (j : Nat) (hk : lv[j]? = some (i, .long x)) (hd : decode cc pc = .ok (.lload i, 2)) (k : sw_Go l E K own cc nL ret (pc + 2) lv (.long x :: st) σ r σ') : sw_Go l E K own cc nL ret pc lv st σ r σ' := by
  intro p e s m args below meth c H locs A ls C hP hS hl
  exact lv_lload C.1 C.2.1 hd (lv_at hl j (by rw [List.getElem?_map, hk]; rfl)) (k p e s m args below meth c H locs A ls C hP hS hl)
theorem sw_lstore_n {k0 : Fin 4} {i : Nat} {x : Int64} (hd : decode cc pc = .ok (.lstore_n k0, 1)) (hi : (k0 : Nat) = i) (hn : i + 1 < nL) (hl2 : (i, Value.long x) :: lv.filter (fun q => !(q.1 == i) && (!(q.1 == i + 1) && !(q.1 + 1 == i && q.2.category == 2))) = lv') (k : sw_Go l E K own cc nL ret (pc + 1) lv' st σ r σ') : sw_Go l E K own cc nL ret pc lv (.long x :: st) σ r σ' := by
  intro p e s m args below meth c H locs A ls C hP hS hl
  exact lv_lstore_n C.1 C.2.1 hd hi hl hn (lv' := lv'.map (sw_g2 E)) (by subst hl2; rw [sw_ff lv E _ (fun q => by simp [sw_g2, sw_g_cat])]; rfl) (fun ls hl => (k p e s m args below meth c H locs A ls C hP hS hl))
theorem sw_lstore {i : Nat} {x : Int64} (hd : decode cc pc = .ok (.lstore i, 2)) (hn : i + 1 < nL) (hl2 : (i, Value.long x) :: lv.filter (fun q => !(q.1 == i) && (!(q.1 == i + 1) && !(q.1 + 1 == i && q.2.category == 2))) = lv') (k : sw_Go l E K own cc nL ret (pc + 2) lv' st σ r σ') : sw_Go l E K own cc nL ret pc lv (.long x :: st) σ r σ' := by
  intro p e s m args below meth c H locs A ls C hP hS hl
  exact lv_lstore C.1 C.2.1 hd hl hn (lv' := lv'.map (sw_g2 E)) (by subst hl2; rw [sw_ff lv E _ (fun q => by simp [sw_g2, sw_g_cat])]; rfl) (fun ls hl => (k p e s m args below meth c H locs A ls C hP hS hl))
theorem sw_aload_n {k0 : Fin 4} {i : Nat} {x : Nat} (j : Nat) (hk : lv[j]? = some (i, .ref x)) (hd : decode cc pc = .ok (.aload_n k0, 1)) (hi : (k0 : Nat) = i) (k : sw_Go l E K own cc nL ret (pc + 1) lv (.ref x :: st) σ r σ') : sw_Go l E K own cc nL ret pc lv st σ r σ' := by
  intro p e s m args below meth c H locs A ls C hP hS hl
  exact lv_aload_n C.1 C.2.1 hd hi (lv_at hl j (by rw [List.getElem?_map, hk]; rfl)) (k p e s m args below meth c H locs A ls C hP hS hl)
theorem sw_aload {i : Nat} {x : Nat} (j : Nat) (hk : lv[j]? = some (i, .ref x)) (hd : decode cc pc = .ok (.aload i, 2)) (k : sw_Go l E K own cc nL ret (pc + 2) lv (.ref x :: st) σ r σ') : sw_Go l E K own cc nL ret pc lv st σ r σ' := by
  intro p e s m args below meth c H locs A ls C hP hS hl
  exact lv_aload C.1 C.2.1 hd (lv_at hl j (by rw [List.getElem?_map, hk]; rfl)) (k p e s m args below meth c H locs A ls C hP hS hl)
theorem sw_astore_n {k0 : Fin 4} {i : Nat} {x : Nat} (hd : decode cc pc = .ok (.astore_n k0, 1)) (hi : (k0 : Nat) = i) (hn : i < nL) (hl2 : (i, Value.ref x) :: lv.filter (fun q => !(q.1 == i) && !(q.1 + 1 == i && q.2.category == 2)) = lv') (k : sw_Go l E K own cc nL ret (pc + 1) lv' st σ r σ') : sw_Go l E K own cc nL ret pc lv (.ref x :: st) σ r σ' := by
  intro p e s m args below meth c H locs A ls C hP hS hl
  exact lv_astore_n C.1 C.2.1 hd hi hl hn (lv' := lv'.map (sw_g2 E)) (by subst hl2; rw [sw_ff lv E _ (fun q => by simp [sw_g2, sw_g_cat])]; rfl) (fun ls hl => (k p e s m args below meth c H locs A ls C hP hS hl))
theorem sw_astore {i : Nat} {x : Nat} (hd : decode cc pc = .ok (.astore i, 2)) (hn : i < nL) (hl2 : (i, Value.ref x) :: lv.filter (fun q => !(q.1 == i) && !(q.1 + 1 == i && q.2.category == 2)) = lv') (k : sw_Go l E K own cc nL ret (pc + 2) lv' st σ r σ') : sw_Go l E K own cc nL ret pc lv (.ref x :: st) σ r σ' := by
  intro p e s m args below meth c H locs A ls C hP hS hl
  exact lv_astore C.1 C.2.1 hd hl hn (lv' := lv'.map (sw_g2 E)) (by subst hl2; rw [sw_ff lv E _ (fun q => by simp [sw_g2, sw_g_cat])]; rfl) (fun ls hl => (k p e s m args below meth c H locs A ls C hP hS hl))
theorem sw_iinc {i : Nat} {n : Int} {x v : Int32} (j : Nat) (hk : lv[j]? = some (i, .int x)) (hd : decode cc pc = .ok (.iinc i n, 3)) (hv : Int32.ofInt n = v) (hn : i < nL) (hl2 : (i, Value.int (x + v)) :: lv.filter (fun q => !(q.1 == i) && !(q.1 + 1 == i && q.2.category == 2)) = lv') (k : sw_Go l E K own cc nL ret (pc + 3) lv' st σ r σ') : sw_Go l E K own cc nL ret pc lv st σ r σ' := by
  intro p e s m args below meth c H locs A ls C hP hS hl
  exact lv_iinc C.1 C.2.1 hd hl (k := j) (x := x) (by rw [List.getElem?_map, hk]; rfl) (by rw [hv]) hn (lv' := lv'.map (sw_g2 E)) (by subst hl2; rw [sw_ff lv E _ (fun q => by simp [sw_g2, sw_g_cat])]; rfl) (fun ls hl => (k p e s m args below meth c H locs A ls C hP hS hl))
theorem sw_dup {v : Value} (hd : decode cc pc = .ok (.dup, 1)) (hc : v.category = 1) (k : sw_Go l E K own cc nL ret (pc + 1) lv (v :: v :: st) σ r σ') : sw_Go l E K own cc nL ret pc lv (v :: st) σ r σ' := by
  intro p e s m args below meth c H locs A ls C hP hS hl
  exact lv_dup C.1 C.2.1 hd (by rw [sw_g_cat]; exact hc) (k p e s m args below meth c H locs A ls C hP hS hl)
theorem sw_pop {v : Value} (hd : decode cc pc = .ok (.pop, 1)) (hc : v.category = 1) (k : sw_Go l E K own cc nL ret (pc + 1) lv st σ r σ') : sw_Go l E K own cc nL ret pc lv (v :: st) σ r σ' := by
  intro p e s m args below meth c H locs A ls C hP hS hl
  exact lv_pop C.1 C.2.1 hd (by rw [sw_g_cat]; exact hc) (k p e s m args below meth c H locs A ls C hP hS hl)
theorem sw_dup2 {v w : Value} (hd : decode cc pc = .ok (.dup2, 1)) (hc : v.category = 1) (hc2 : w.category = 1) (k : sw_Go l E K own cc nL ret (pc + 1) lv (v :: w :: v :: w :: st) σ r σ') : sw_Go l E K own cc nL ret pc lv (v :: w :: st) σ r σ' := by
  intro p e s m args below meth c H locs A ls C hP hS hl
  exact lv_dup2_11 C.1 C.2.1 hd (by rw [sw_g_cat]; exact hc) (by rw [sw_g_cat]; exact hc2) (k p e s m args below meth c H locs A ls C hP hS hl)
theorem sw_if_eq {x : Int32} {off : Int} (tgt : Nat) (hd : decode cc pc = .ok (.ifCond .eq off, 3)) (ht : (pc : Int) + off = (tgt : Int)) (kt : x = 0 → sw_Go l E K own cc nL ret tgt lv st σ r σ') (kf : ¬ (x = 0) → sw_Go l E K own cc nL ret (pc + 3) lv st σ r σ') : sw_Go l E K own cc nL ret pc lv (.int x :: st) σ r σ' := by
  intro p e s m args below meth c H locs A ls C hP hS hl
  exact lv_if_eq C.1 C.2.1 hd ht (fun h => kt h p e s m args below meth c H locs A ls C hP hS hl) (fun h => kf h p e s m args below meth c H locs A ls C hP hS hl)
theorem sw_icmp_eq {x y : Int32} {off : Int} (tgt : Nat) (hd : decode cc pc = .ok (.if_icmp .eq off, 3)) (ht : (pc : Int) + off = (tgt : Int)) (kt : x = y → sw_Go l E K own cc nL ret tgt lv st σ r σ') (kf : ¬ (x = y) → sw_Go l E K own cc nL ret (pc + 3) lv st σ r σ') : sw_Go l E K own cc nL ret pc lv (.int y :: .int x :: st) σ r σ' := by
  intro p e s m args below meth c H locs A ls C hP hS hl
  exact lv_icmp_eq C.1 C.2.1 hd ht (fun h => kt h p e s m args below meth c H locs A ls C hP hS hl) (fun h => kf h p e s m args below meth c H locs A ls C hP hS hl)
theorem sw_if_ne {x : Int32} {off : Int} (tgt : Nat) (hd : decode cc pc = .ok (.ifCond .ne off, 3)) (ht : (pc : Int) + off = (tgt : Int)) (kt : ¬ x = 0 → sw_Go l E K own cc nL ret tgt lv st σ r σ') (kf : x = 0 → sw_Go l E K own cc nL ret (pc + 3) lv st σ r σ') : sw_Go l E K own cc nL ret pc lv (.int x :: st) σ r σ' := by
  intro p e s m args below meth c H locs A ls C hP hS hl
  exact lv_if_ne C.1 C.2.1 hd ht (fun h => kt h p e s m args below meth c H locs A ls C hP hS hl) (fun h => kf h p e s m args below meth c H locs A ls C hP hS hl)
theorem sw_icmp_ne {x y : Int32} {off : Int} (tgt : Nat) (hd : decode cc pc = .ok (.if_icmp .ne off, 3)) (ht : (pc : Int) + off = (tgt : Int)) (kt : ¬ x = y → sw_Go l E K own cc nL ret tgt lv st σ r σ') (kf : x = y → sw_Go l E K own cc nL ret (pc + 3) lv st σ r σ') : sw_Go l E K own cc nL ret pc lv (.int y :: .int x :: st) σ r σ' := by
  intro p e s m args below meth c H locs A ls C hP hS hl
  exact lv_icmp_ne C.1 C.2.1 hd ht (fun h => kt h p e s m args below meth c H locs A ls C hP hS hl) (fun h => kf h p e s m args below meth c H locs A ls C hP hS hl)
theorem sw_if_lt {x : Int32} {off : Int} (tgt : Nat) (hd : decode cc pc = .ok (.ifCond .lt off, 3)) (ht : (pc : Int) + off = (tgt : Int)) (kt : x < 0 → sw_Go l E K own cc nL ret tgt lv st σ r σ') (kf : ¬ (x < 0) → sw_Go l E K own cc nL ret (pc + 3) lv st σ r σ') : sw_Go l E K own cc nL ret pc lv (.int x :: st) σ r σ' := by
  intro p e s m args below meth c H locs A ls C hP hS hl
  exact lv_if_lt C.1 C.2.1 hd ht (fun h => kt h p e s m args below meth c H locs A ls C hP hS hl) (fun h => kf h p e s m args below meth c H locs A ls C hP hS hl)
theorem sw_icmp_lt {x y : Int32} {off : Int} (tgt : Nat) (hd : decode cc pc = .ok (.if_icmp .lt off, 3)) (ht : (pc : Int) + off = (tgt : Int)) (kt : x < y → sw_Go l E K own cc nL ret tgt lv st σ r σ') (kf : ¬ (x < y) → sw_Go l E K own cc nL ret (pc + 3) lv st σ r σ') : sw_Go l E K own cc nL ret pc lv (.int y :: .int x :: st) σ r σ' := by
  intro p e s m args below meth c H locs A ls C hP hS hl
  exact lv_icmp_lt C.1 C.2.1 hd ht (fun h => kt h p e s m args below meth c H locs A ls C hP hS hl) (fun h => kf h p e s m args below meth c H locs A ls C hP hS hl)
theorem sw_if_ge {x : Int32} {off : Int} (tgt : Nat) (hd : decode cc pc = .ok (.ifCond .ge off, 3)) (ht : (pc : Int) + off = (tgt : Int)) (kt : 0 ≤ x → sw_Go l E K own cc nL ret tgt lv st σ r σ') (kf : ¬ (0 ≤ x) → sw_Go l E K own cc nL ret (pc + 3) lv st σ r σ') : sw_Go l E K own cc nL ret pc lv (.int x :: st) σ r σ' := by
  intro p e s m args below meth c H locs A ls C hP hS hl
  exact lv_if_ge C.1 C.2.1 hd ht (fun h => kt h p e s m args below meth c H locs A ls C hP hS hl) (fun h => kf h p e s m args below meth c H locs A ls C hP hS hl)
theorem sw_icmp_ge {x y : Int32} {off : Int} (tgt : Nat) (hd : decode cc pc = .ok (.if_icmp .ge off, 3)) (ht : (pc : Int) + off = (tgt : Int)) (kt : y ≤ x → sw_Go l E K own cc nL ret tgt lv st σ r σ') (kf : ¬ (y ≤ x) → sw_Go l E K own cc nL ret (pc + 3) lv st σ r σ') : sw_Go l E K own cc nL ret pc lv (.int y :: .int x :: st) σ r σ' := by
  intro p e s m args below meth c H locs A ls C hP hS hl
  exact lv_icmp_ge C.1 C.2.1 hd ht (fun h => kt h p e s m args below meth c H locs A ls C hP hS hl) (fun h => kf h p e s m args below meth c H locs A ls C hP hS hl)
theorem sw_if_gt {x : Int32} {off : Int} (tgt : Nat) (hd : decode cc pc = .ok (.ifCond .gt off, 3)) (ht : (pc : Int) + off = (tgt : Int)) (kt : 0 < x → sw_Go l E K own cc nL ret tgt lv st σ r σ') (kf : ¬ (0 < x) → sw_Go l E K own cc nL ret (pc + 3) lv st σ r σ') : sw_Go l E K own cc nL ret pc lv (.int x :: st) σ r σ' := by
  intro p e s m args below meth c H locs A ls C hP hS hl
  exact lv_if_gt C.1 C.2.1 hd ht (fun h => kt h p e s m args below meth c H locs A ls C hP hS hl) (fun h => kf h p e s m args below meth c H locs A ls C hP hS hl)
theorem sw_icmp_gt {x y : Int32} {off : Int} (tgt : Nat) (hd : decode cc pc = .ok (.if_icmp .gt off, 3)) (ht : (pc : Int) + off = (tgt : Int)) (kt : y < x → sw_Go l E K own cc nL ret tgt lv st σ r σ') (kf : ¬ (y < x) → sw_Go l E K own cc nL ret (pc + 3) lv st σ r σ') : sw_Go l E K own cc nL ret pc lv (.int y :: .int x :: st) σ r σ' := by
  intro p e s m args below meth c H locs A ls C hP hS hl
  exact lv_icmp_gt C.1 C.2.1 hd ht (fun h => kt h p e s m args below meth c H locs A ls C hP hS hl) (fun h => kf h p e s m args below meth c H locs A ls C hP hS hl)
theorem sw_if_le {x : Int32} {off : Int} (tgt : Nat) (hd : decode cc pc = .ok (.ifCond .le off, 3)) (ht : (pc : Int) + off = (tgt : Int)) (kt : x ≤ 0 → sw_Go l E K own cc nL ret tgt lv st σ r σ') (kf : ¬ (x ≤ 0) → sw_Go l E K own cc nL ret (pc + 3) lv st σ r σ') : sw_Go l E K own cc nL ret pc lv (.int x :: st) σ r σ' := by
  intro p e s m args below meth c H locs A ls C hP hS hl
  exact lv_if_le C.1 C.2.1 hd ht (fun h => kt h p e s m args below meth c H locs A ls C hP hS hl) (fun h => kf h p e s m args below meth c H locs A ls C hP hS hl)
theorem sw_icmp_le {x y : Int32} {off : Int} (tgt : Nat) (hd : decode cc pc = .ok (.if_icmp .le off, 3)) (ht : (pc : Int) + off = (tgt : Int)) (kt : x ≤ y → sw_Go l E K own cc nL ret tgt lv st σ r σ') (kf : ¬ (x ≤ y) → sw_Go l E K own cc nL ret (pc + 3) lv st σ r σ') : sw_Go l E K own cc nL ret pc lv (.int y :: .int x :: st) σ r σ' := by
  intro p e s m args below meth c H locs A ls C hP hS hl
  exact lv_icmp_le C.1 C.2.1 hd ht (fun h => kt h p e s m args below meth c H locs A ls C hP hS hl) (fun h => kf h p e s m args below meth c H locs A ls C hP hS hl)
theorem sw_goto {off : Int} (tgt : Nat) (hd : decode cc pc = .ok (.goto off, 3)) (ht : (pc : Int) + off = (tgt : Int)) (k : sw_Go l E K own cc nL ret tgt lv st σ r σ') : sw_Go l E K own cc nL ret pc lv st σ r σ' := by
  intro p e s m args below meth c H locs A ls C hP hS hl
  exact lv_goto C.1 C.2.1 hd ht (k p e s m args below meth c H locs A ls C hP hS hl)
theorem sw_tabOut {dflt lo hi : Int} {offs : Array Int} {len : Nat} {x : Int32} (tgt : Nat) (hd : decode cc pc = .ok (.tableswitch dflt lo hi offs, len)) (h : x.toInt < lo ∨ hi < x.toInt) (ht : (pc : Int) + dflt = (tgt : Int)) (k : sw_Go l E K own cc nL ret tgt lv st σ r σ') : sw_Go l E K own cc nL ret pc lv (.int x :: st) σ r σ' := by
  intro p e s m args below meth c H locs A ls C hP hS hl
  exact lv_tableOut C.1 C.2.1 hd h ht (k p e s m args below meth c H locs A ls C hP hS hl)
theorem sw_tabIn {dflt lo hi : Int} {offs : Array Int} {len : Nat} {x : Int32} {off : Int} (tgt : Nat) (hd : decode cc pc = .ok (.tableswitch dflt lo hi offs, len)) (h1 : ¬ x.toInt < lo) (h2 : ¬ hi < x.toInt) (ho : offs[(x.toInt - lo).toNat]? = some off) (ht : (pc : Int) + off = (tgt : Int)) (k : sw_Go l E K own cc nL ret tgt lv st σ r σ') : sw_Go l E K own cc nL ret pc lv (.int x :: st) σ r σ' := by
  intro p e s m args below meth c H locs A ls C hP hS hl
  exact lv_tableIn C.1 C.2.1 hd h1 h2 ho ht (k p e s m args below meth c H locs A ls C hP hS hl)
theorem sw_lookup {dflt : Int} {ps : Array (Int × Int)} {len : Nat} {x : Int32} {off : Int} (tgt : Nat) (hd : decode cc pc = .ok (.lookupswitch dflt ps, len)) (hp : (ps.toList.zip (ps.toList.drop 1)).all (fun (a, next) => a.1 < next.1) = true) (ho : Op.lookupswitch.offset ps.toList dflt x.toInt = off) (ht : (pc : Int) + off = (tgt : Int)) (k : sw_Go l E K own cc nL ret tgt lv st σ r σ') : sw_Go l E K own cc nL ret pc lv (.int x :: st) σ r σ' := by
  intro p e s m args below meth c H locs A ls C hP hS hl
  exact lv_lookup C.1 C.2.1 hd hp ho ht (k p e s m args below meth c H locs A ls C hP hS hl)
theorem sw_ldc {index : Nat} {v : Int32} (hc : Cond.constant own index v ∈ sw_T) (hd : decode cc pc = .ok (.ldc index, 2)) (k : sw_Go l E K own cc nL ret (pc + 2) lv (.int v :: st) σ r σ') : sw_Go l E K own cc nL ret pc lv st σ r σ' := by
  intro p e s m args below meth c H locs A ls C hP hS hl
  exact lv_ldc C.1 C.2.1 C.2.2.2.2.2.1 (C.2.2.2.2.2.2.1 _ hc) hd (k p e s m args below meth c H locs A ls C hP hS hl)
theorem sw_ldc2 {index : Nat} {v : Int64} (hc : Cond.constantLong own index v ∈ sw_T) (hd : decode cc pc = .ok (.ldc2_w index, 3)) (k : sw_Go l E K own cc nL ret (pc + 3) lv (.long v :: st) σ r σ') : sw_Go l E K own cc nL ret pc lv st σ r σ' := by
  intro p e s m args below meth c H locs A ls C hP hS hl
  exact lv_ldc2 C.1 C.2.1 C.2.2.2.2.2.1 (C.2.2.2.2.2.2.1 _ hc) hd (k p e s m args below meth c H locs A ls C hP hS hl)
theorem sw_get {i ci k0 index N : Nat} {CN : String} {T : u_T} {v : Value} (hc : sw_cl[ci]? = some (CN, T, N)) (hin : ∀ w ∈ u_ws CN T N, w ∈ sw_T) (hk : k0 < N) (hlink : Cond.fieldLink own index (T k0).1 (T k0).2.1 (T k0).2.2.1 ∈ sw_T) (hv : (sw_fs σ i ci)[k0]? = some v) (hi : i < 84) (hs : sw_s i = (0, ci)) (hd : decode cc pc = .ok (.getfield index, 3)) (k : sw_Go l E K own cc nL ret (pc + 3) lv (v :: st) σ r σ') : sw_Go l E K own cc nL ret pc lv (.ref i :: st) σ r σ' := by
  intro p e s m args below meth c H locs A ls C hP hS hl
  refine va_get (a := E.1 i) (ws := sw_wl E σ) (ci := ci) (v := sw_g E v) (C := CN) (T := T) (N := N) C.1 C.2.1 C.2.2.2.2.2.2.1 hin C.2.2.2.2.2.1 C.2.2.2.2.2.2.2.2.2.1 hP i (fs := (sw_fs σ i ci).map (sw_g E)) (by rw [sw_wl_at E σ hi, sw_ce_o hs]) hc k0 hk (C.2.2.2.2.2.2.1 _ hlink) (fun _ h9 => h9) (by rw [List.getElem?_map, hv]; rfl) hd (k p e s m args below meth c H locs A ls C hP hS hl)
theorem sw_put {i ci k0 index N : Nat} {CN : String} {T : u_T} {ty : FieldType} {v : Value} {σ2 : sw_M} (ty0 : Nat → FieldType) (hc : sw_cl[ci]? = some (CN, T, N)) (hin : ∀ w ∈ u_ws CN T N, w ∈ sw_T) (hty : ∀ k, k < N → parseFieldDescriptor (T k).2.2.1 = some (ty0 k)) (hnm : ∀ a, a < N → ∀ b, b < N → a ≠ b → (T a).2.1 ≠ (T b).2.1) (hk : k0 < N) (hlink : Cond.fieldLink own index (T k0).1 (T k0).2.1 (T k0).2.2.1 ∈ sw_T) (hfin : (T k0).2.2.2 = false) (hdd : parseFieldDescriptor (T k0).2.2.1 = some ty)
    (hlen : k0 < (sw_fk.getD ci []).length) (hi : i < 84) (hs : sw_s i = (0, ci)) (hn : narrow ty (sw_g E v) = sw_g E v) (hfit : fits ty (sw_g E v) = true) (hset : sw_fs σ2 i ci = (sw_fs σ i ci).set k0 v) (ho : ∀ a, a ≠ i → sw_ce E σ2 a = sw_ce E σ a) (hd : decode cc pc = .ok (.putfield index, 3)) (k : sw_Go l E K own cc nL ret (pc + 3) lv st σ2 r σ') : sw_Go l E K own cc nL ret pc lv (v :: .ref i :: st) σ r σ' := by
  intro p e s m args below meth c H locs A ls C hP hS hl
  refine va_put (a := E.1 i) (ws := sw_wl E σ) (ci := ci) (v := sw_g E v) (ty := ty) (C := CN) (T := T) (N := N) C.1 C.2.1 C.2.2.2.2.2.2.1 hin ty0 hty hnm C.2.2.2.2.2.1 C.2.2.2.2.2.2.2.2.2.1 hP (C.2.2.2.2.2.2.2.2.2.2.1 σ) hS i (fs := (sw_fs σ i ci).map (sw_g E)) (by rw [sw_wl_at E σ hi, sw_ce_o hs]) hc k0 hk (C.2.2.2.2.2.2.1 _ hlink) (fun _ h9 => h9) hfin hdd hn hfit (by rw [List.length_map, sw_fs_len]; exact hlen) hd (fun H1 locs1 hP1 hD1 hS1 => ?_)
  rw [← List.map_set, ← hset, sw_wl_set E σ σ2 (sw_ce_o hs) ho] at hP1
  exact k p e s m args below meth c H1 locs1 A ls C hP1 hS1 hl
theorem sw_putI {i ci k0 index N : Nat} {CN : String} {T : u_T} {ty : FieldType} {x : Int32} (ty0 : Nat → FieldType) (hc : sw_cl[ci]? = some (CN, T, N)) (hin : ∀ w ∈ u_ws CN T N, w ∈ sw_T) (hty : ∀ k, k < N → parseFieldDescriptor (T k).2.2.1 = some (ty0 k)) (hnm : ∀ a, a < N → ∀ b, b < N → a ≠ b → (T a).2.1 ≠ (T b).2.1) (hk : k0 < N) (hlink : Cond.fieldLink own index (T k0).1 (T k0).2.1 (T k0).2.2.1 ∈ sw_T) (hfin : (T k0).2.2.2 = false) (hdd : parseFieldDescriptor (T k0).2.2.1 = some ty)
    (hk0 : (sw_fk.getD ci [])[k0]? = some 0) (hi : i < 84) (hs : sw_s i = (0, ci)) (hn : narrow ty (.int x) = .int x) (hfit : fits ty (.int x) = true) (hd : decode cc pc = .ok (.putfield index, 3)) (k : sw_Go l E K own cc nL ret (pc + 3) lv st (sw_w σ i k0 x) r σ') : sw_Go l E K own cc nL ret pc lv (.int x :: .ref i :: st) σ r σ' :=
  sw_put (v := .int x) ty0 hc hin hty hnm hk hlink hfin hdd (List.getElem?_eq_some_iff.mp hk0).1 hi hs hn hfit (sw_fs_w σ i ci k0 x hk0) (sw_ce_wA E σ i _) hd k
theorem sw_putL {i ci k0 index N : Nat} {CN : String} {T : u_T} {x : Int64} (ty0 : Nat → FieldType) (hc : sw_cl[ci]? = some (CN, T, N)) (hin : ∀ w ∈ u_ws CN T N, w ∈ sw_T) (hty : ∀ k, k < N → parseFieldDescriptor (T k).2.2.1 = some (ty0 k)) (hnm : ∀ a, a < N → ∀ b, b < N → a ≠ b → (T a).2.1 ≠ (T b).2.1) (hk : k0 < N) (hlink : Cond.fieldLink own index (T k0).1 (T k0).2.1 (T k0).2.2.1 ∈ sw_T) (hfin : (T k0).2.2.2 = false) (hdd : parseFieldDescriptor (T k0).2.2.1 = some .long)
    (hk0 : (sw_fk.getD ci [])[k0]? = some 1) (hi : i < 84) (hs : sw_s i = (0, ci)) (hd : decode cc pc = .ok (.putfield index, 3)) (k : sw_Go l E K own cc nL ret (pc + 3) lv st (sw_wL σ i k0 x) r σ') : sw_Go l E K own cc nL ret pc lv (.long x :: .ref i :: st) σ r σ' :=
  sw_put (v := .long x) ty0 hc hin hty hnm hk hlink hfin hdd (List.getElem?_eq_some_iff.mp hk0).1 hi hs rfl rfl (sw_fs_wL σ i ci k0 x hk0) (sw_ce_wL E σ i k0 x) hd k
theorem sw_iaload {a n : Nat} {i : Int32} (ha : a < 84) (hs : sw_s a = (1, n)) (hin : vp_in i n) (hd : decode cc pc = .ok (.iaload, 1)) (k : sw_Go l E K own cc nL ret (pc + 1) lv (.int (σ.1 a i.toNatClampNeg) :: st) σ r σ') : sw_Go l E K own cc nL ret pc lv (.int i :: .ref a :: st) σ r σ' := by
  intro p e s m args below meth c H locs A ls C hP hS hl
  exact va_iald (a := E.1 a) (ws := sw_wl E σ) C.1 C.2.1 C.2.2.2.2.2.2.2.2.2.1 hP a a (cA := E.2.1 a) (n := n) (f := σ.1 a) (by rw [sw_wl_at E σ ha, sw_ce_i hs (by decide) (by decide)]) (by rw [sw_ty_at E ha, hs]; rfl) hin hd (k p e s m args below meth c H locs A ls C hP hS hl)
theorem sw_baload {a n : Nat} {i : Int32} (ha : a < 84) (hs : sw_s a = (2, n)) (hin : vp_in i n) (hd : decode cc pc = .ok (.baload, 1)) (k : sw_Go l E K own cc nL ret (pc + 1) lv (.int (σ.1 a i.toNatClampNeg) :: st) σ r σ') : sw_Go l E K own cc nL ret pc lv (.int i :: .ref a :: st) σ r σ' := by
  intro p e s m args below meth c H locs A ls C hP hS hl
  exact va_bald (a := E.1 a) (ws := sw_wl E σ) C.1 C.2.1 C.2.2.2.2.2.2.2.2.2.1 hP a a (cA := E.2.1 a) (n := n) (f := σ.1 a) (by rw [sw_wl_at E σ ha, sw_ce_i hs (by decide) (by decide)]) (by rw [sw_ty_at E ha, hs]; rfl) hin hd (k p e s m args below meth c H locs A ls C hP hS hl)
theorem sw_zaload {a n : Nat} {i : Int32} (ha : a < 84) (hs : sw_s a = (3, n)) (hin : vp_in i n) (hd : decode cc pc = .ok (.baload, 1)) (k : sw_Go l E K own cc nL ret (pc + 1) lv (.int (σ.1 a i.toNatClampNeg) :: st) σ r σ') : sw_Go l E K own cc nL ret pc lv (.int i :: .ref a :: st) σ r σ' := by
  intro p e s m args below meth c H locs A ls C hP hS hl
  exact va_zald (a := E.1 a) (ws := sw_wl E σ) C.1 C.2.1 C.2.2.2.2.2.2.2.2.2.1 hP a a (cA := E.2.1 a) (n := n) (f := σ.1 a) (by rw [sw_wl_at E σ ha, sw_ce_i hs (by decide) (by decide)]) (by rw [sw_ty_at E ha, hs]; rfl) hin hd (k p e s m args below meth c H locs A ls C hP hS hl)
theorem sw_laload {a n : Nat} {i : Int32} (ha : a < 84) (hs : sw_s a = (4, n)) (hin : vp_in i n) (hd : decode cc pc = .ok (.laload, 1)) (k : sw_Go l E K own cc nL ret (pc + 1) lv (.long (σ.2.1 a i.toNatClampNeg) :: st) σ r σ') : sw_Go l E K own cc nL ret pc lv (.int i :: .ref a :: st) σ r σ' := by
  intro p e s m args below meth c H locs A ls C hP hS hl
  exact va_lald (a := E.1 a) (ws := sw_wl E σ) C.1 C.2.1 C.2.2.2.2.2.2.2.2.2.1 hP a a (cA := E.2.1 a) (n := n) (f := σ.2.1 a) (by rw [sw_wl_at E σ ha, sw_ce_l hs]) (by rw [sw_ty_at E ha, hs]; rfl) hin hd (k p e s m args below meth c H locs A ls C hP hS hl)
theorem sw_iastore {a n : Nat} {i x : Int32} (ha : a < 84) (hs : sw_s a = (1, n)) (hin : vp_in i n) (hd : decode cc pc = .ok (.iastore, 1)) (k : sw_Go l E K own cc nL ret (pc + 1) lv st (sw_w σ a i.toNatClampNeg (x)) r σ') : sw_Go l E K own cc nL ret pc lv (.int x :: .int i :: .ref a :: st) σ r σ' := by
  intro p e s m args below meth c H locs A ls C hP hS hl
  refine va_iast (a := E.1 a) (ws := sw_wl E σ) C.1 C.2.1 C.2.2.2.2.2.2.2.2.2.1 hP (C.2.2.2.2.2.2.2.2.2.2.1 σ) hS a a (cA := E.2.1 a) (n := n) (f := σ.1 a) (by rw [sw_wl_at E σ ha, sw_ce_i hs (by decide) (by decide)]) (by rw [sw_ty_at E ha, hs]; rfl) hin hd (fun H1 locs1 hP1 hD1 hS1 => ?_)
  rw [sw_wl_set E σ (sw_w σ a i.toNatClampNeg (x)) (by rw [sw_ce_i hs (by decide) (by decide), sw_w, sw_wA_self]) (sw_ce_wA E σ a _)] at hP1
  exact k p e s m args below meth c H1 locs1 A ls C hP1 hS1 hl
theorem sw_bastore {a n : Nat} {i x : Int32} (ha : a < 84) (hs : sw_s a = (2, n)) (hin : vp_in i n) (hd : decode cc pc = .ok (.bastore, 1)) (k : sw_Go l E K own cc nL ret (pc + 1) lv st (sw_w σ a i.toNatClampNeg (vp_nar .byte x)) r σ') : sw_Go l E K own cc nL ret pc lv (.int x :: .int i :: .ref a :: st) σ r σ' := by
  intro p e s m args below meth c H locs A ls C hP hS hl
  refine va_bast (a := E.1 a) (ws := sw_wl E σ) C.1 C.2.1 C.2.2.2.2.2.2.2.2.2.1 hP (C.2.2.2.2.2.2.2.2.2.2.1 σ) hS a a (cA := E.2.1 a) (n := n) (f := σ.1 a) (by rw [sw_wl_at E σ ha, sw_ce_i hs (by decide) (by decide)]) (by rw [sw_ty_at E ha, hs]; rfl) hin hd (fun H1 locs1 hP1 hD1 hS1 => ?_)
  rw [sw_wl_set E σ (sw_w σ a i.toNatClampNeg (vp_nar .byte x)) (by rw [sw_ce_i hs (by decide) (by decide), sw_w, sw_wA_self]) (sw_ce_wA E σ a _)] at hP1
  exact k p e s m args below meth c H1 locs1 A ls C hP1 hS1 hl
theorem sw_zastore {a n : Nat} {i x : Int32} (ha : a < 84) (hs : sw_s a = (3, n)) (hin : vp_in i n) (hd : decode cc pc = .ok (.bastore, 1)) (k : sw_Go l E K own cc nL ret (pc + 1) lv st (sw_w σ a i.toNatClampNeg (vp_nar .boolean x)) r σ') : sw_Go l E K own cc nL ret pc lv (.int x :: .int i :: .ref a :: st) σ r σ' := by
  intro p e s m args below meth c H locs A ls C hP hS hl
  refine va_zast (a := E.1 a) (ws := sw_wl E σ) C.1 C.2.1 C.2.2.2.2.2.2.2.2.2.1 hP (C.2.2.2.2.2.2.2.2.2.2.1 σ) hS a a (cA := E.2.1 a) (n := n) (f := σ.1 a) (by rw [sw_wl_at E σ ha, sw_ce_i hs (by decide) (by decide)]) (by rw [sw_ty_at E ha, hs]; rfl) hin hd (fun H1 locs1 hP1 hD1 hS1 => ?_)
  rw [sw_wl_set E σ (sw_w σ a i.toNatClampNeg (vp_nar .boolean x)) (by rw [sw_ce_i hs (by decide) (by decide), sw_w, sw_wA_self]) (sw_ce_wA E σ a _)] at hP1
  exact k p e s m args below meth c H1 locs1 A ls C hP1 hS1 hl
theorem sw_lastore {a n : Nat} {i : Int32} {x : Int64} (ha : a < 84) (hs : sw_s a = (4, n)) (hin : vp_in i n) (hd : decode cc pc = .ok (.lastore, 1)) (k : sw_Go l E K own cc nL ret (pc + 1) lv st (sw_wL σ a i.toNatClampNeg x) r σ') : sw_Go l E K own cc nL ret pc lv (.long x :: .int i :: .ref a :: st) σ r σ' := by
  intro p e s m args below meth c H locs A ls C hP hS hl
  refine va_last (a := E.1 a) (ws := sw_wl E σ) C.1 C.2.1 C.2.2.2.2.2.2.2.2.2.1 hP (C.2.2.2.2.2.2.2.2.2.2.1 σ) hS a a (cA := E.2.1 a) (n := n) (f := σ.2.1 a) (by rw [sw_wl_at E σ ha, sw_ce_l hs]) (by rw [sw_ty_at E ha, hs]; rfl) hin hd (fun H1 locs1 hP1 hD1 hS1 => ?_)
  rw [sw_wl_set E σ (sw_wL σ a i.toNatClampNeg x) (by rw [sw_ce_l hs, sw_wL_self]) (sw_ce_wL E σ a _ _)] at hP1
  exact k p e s m args below meth c H1 locs1 A ls C hP1 hS1 hl
theorem sw_alen {a t n : Nat} {v : Int32} (ha : a < 84) (hs : sw_s a = (t, n)) (ht : t ≠ 0) (hv : Int32.ofNat n = v) (hd : decode cc pc = .ok (.arraylength, 1)) (k : sw_Go l E K own cc nL ret (pc + 1) lv (.int v :: st) σ r σ') : sw_Go l E K own cc nL ret pc lv (.ref a :: st) σ r σ' := by
  intro p e s m args below meth c H locs A ls C hP hS hl
  by_cases h4 : t = 4
  · subst h4
    exact va_alen (a := E.1 a) (ws := sw_wl E σ) C.1 C.2.1 C.2.2.2.2.2.2.2.2.2.1 hP a a (cA := E.2.1 a) (x := (n, .inr (.inl (σ.2.1 a)))) (by rw [sw_wl_at E σ ha, sw_ce_l hs]) (sw_ty_at E ha) hv hd (k p e s m args below meth c H locs A ls C hP hS hl)
  · exact va_alen (a := E.1 a) (ws := sw_wl E σ) C.1 C.2.1 C.2.2.2.2.2.2.2.2.2.1 hP a a (cA := E.2.1 a) (x := (n, .inl (σ.1 a))) (by rw [sw_wl_at E σ ha, sw_ce_i hs ht h4]) (sw_ty_at E ha) hv hd (k p e s m args below meth c H locs A ls C hP hS hl)
theorem sw_vret (hd : decode cc pc = .ok (.return_, 1)) : sw_Go l E K own cc nL none pc lv [] σ none σ := by
  intro p e s m args below meth c H locs A ls C hP hS hl
  have hlocks : meth.locks = false := C.2.2.2.2.1
  exact W.vret C.1 C.2.1 C.2.2.2.1 (fun t ht hW => ⟨rfl, by rw [ht]; exact hP, va_K.moved hW.alike C.2.2.2.2.2.2.2.2.2.1, hS.F ht⟩) hS.2.2 hd
theorem sw_iret {v : Int32} (hd : decode cc pc = .ok (.ireturn, 1)) : sw_Go l E K own cc nL (some .int) pc lv [.int v] σ (some (.int v)) σ := by
  intro p e s m args below meth c H locs A ls C hP hS hl
  have hlocks : meth.locks = false := C.2.2.2.2.1
  exact W.iret C.1 C.2.1 C.2.2.2.1 (fun t ht hW => ⟨rfl, by rw [ht]; exact hP, va_K.moved hW.alike C.2.2.2.2.2.2.2.2.2.1, hS.F ht⟩) hS.2.2 hd
theorem sw_lret {v : Int64} (hd : decode cc pc = .ok (.lreturn, 1)) : sw_Go l E K own cc nL (some .long) pc lv [.long v] σ (some (.long v)) σ := by
  intro p e s m args below meth c H locs A ls C hP hS hl
  have hlocks : meth.locks = false := C.2.2.2.2.1
  exact W.lret C.1 C.2.1 C.2.2.2.1 (fun t ht hW => ⟨rfl, by rw [ht]; exact hP, va_K.moved hW.alike C.2.2.2.2.2.2.2.2.2.1, hS.F ht⟩) hS.2.2 hd
theorem sw_zret {v : Int32} {ty : FieldType} (hn : narrow ty (.int v) = .int v) (hd : decode cc pc = .ok (.ireturn, 1)) : sw_Go l E K own cc nL (some ty) pc lv [.int v] σ (some (.int v)) σ := by
  intro p e s m args below meth c H locs A ls C hP hS hl
  have hlocks : meth.locks = false := C.2.2.2.2.1
  exact W.zret C.1 C.2.1 C.2.2.2.1 hn (fun t ht hW => ⟨rfl, by rw [ht]; exact hP, va_K.moved hW.alike C.2.2.2.2.2.2.2.2.2.1, hS.F ht⟩) hS.2.2 hd
end GO
end
section
theorem sw_blind (E : sw_E) (As : List Value) (σ : sw_M) (sz : Nat) : FrameBlind (sw_Pc E As σ sz) := by
  intro a U g mk q
  obtain ⟨q0, q1, hMv, hX, qP, qK, qD⟩ := q
  exact ⟨q0, q1, hMv, hMv.2 _ U _ _ rfl hX, qP, va_K.moved (u := U) (U := U.calling g mk a) (Vm.Alike.refl U.vm) qK, qD⟩
theorem sw_goodV {own : String} {index : Nat} {CN : String} {y : MethodName} {cc2 : ByteArray} {nL2 : Nat} {ret2 : Option FieldType} (hlink : Cond.methodLink own index y ∈ sw_T) (hinst : Cond.instanceMethod y ∈ sw_T) (hsel : Cond.selects CN y y ∈ sw_T) (hini : Cond.initialized CN ∈ sw_T) (hcode : Cond.code y cc2 nL2 ret2 ∈ sw_T) : GoodIn sw_T (wsV own index CN y (.code y cc2 nL2 ret2 :: sw_T)) := by
  intro w hw
  have hm : w ∈ sw_T := by
    simp only [wsV, List.cons_append, List.nil_append, List.mem_cons] at hw
    rcases hw with h | h | h | h | h | h
    · rw [h]; exact hlink
    · rw [h]; exact hinst
    · rw [h]; exact hsel
    · rw [h]; exact hini
    · rw [h]; exact hcode
    · exact h
  exact ⟨hm, sw_T_good w hm⟩
theorem sw_goodS {own : String} {index : Nat} {y : MethodName} {cc2 : ByteArray} {nL2 : Nat} {ret2 : Option FieldType} (hlink : Cond.methodLink own index y ∈ sw_T) (hst : Cond.static y ∈ sw_T) (hini : Cond.initialized y.cls ∈ sw_T) (hcode : Cond.code y cc2 nL2 ret2 ∈ sw_T) : GoodIn sw_T (va_wsS own index y (.code y cc2 nL2 ret2 :: sw_T)) := by
  intro w hw
  have hm : w ∈ sw_T := by
    simp only [va_wsS, List.cons_append, List.nil_append, List.mem_cons] at hw
    rcases hw with h | h | h | h | h
    · rw [h]; exact hlink
    · rw [h]; exact hst
    · rw [h]; exact hini
    · rw [h]; exact hcode
    · exact h
  exact ⟨hm, sw_T_good w hm⟩
section CALL
variable {l : Launch} {E : sw_E} {K : Nat} {own : String} {cc : ByteArray} {nL : Nat} {ret : Option FieldType} {pc : Nat} {lv lv' : List (Nat × Value)} {st st0 : List Value} {σ σ' : sw_M} {r : Option Value}
theorem sw_cat_sum (E : sw_E) (st : List Value) : ((st.map (sw_g E)).map fun v => v.category).sum = (st.map fun v => v.category).sum := by
  rw [List.map_map]
  congr 1
  apply List.map_congr_left
  intro v _
  exact sw_g_cat E v
theorem sw_free {A : Nat → Prop} {H0 H : Heap} {locs : List Loc} (hD : va_D A (sw_wl E σ)) (hS : va_S A H0 H locs) (hA : ∀ q, H0.size ≤ q → A q) : ∀ q, va_A (sw_wl E σ) H.size q → A q := by
  intro q h
  rcases h with ⟨k, e, h⟩ | h
  · exact hD.2 k (q, e) h
  · exact hA q (Nat.le_trans hS.1 h)
/-- behind a call -/
theorem sw_after {p : Program} {e : Env} {s : State} {m : MethodId} {args : Array Value} {below : List Frame} {meth : Method} {c : Code} {H : Heap} {locs : List Loc} {A A1 : Nat → Prop} {ls : Array Slot} {r2 : Option Value} {σ2 : sw_M} {a : Array Value} {Q : State → Prop}
    (hr : va_Run p l e (sw_rm K) s m args below meth c H locs 0 0 0 0 (F0 m pc ls (st0.map (sw_g E))) (st.map (sw_g E)) (sw_Qc E r2 σ2 A1 a) A1) (hS : va_S A s.heap H locs) (hA : ∀ q, A1 q → A q)
    (kk : ∀ (H1 : Heap) (locs1 : List Loc), va_P (sw_D E) sw_cl (sw_wl E σ2) H1 → va_S A s.heap H1 locs1 → W p l e (sw_rm K) s m args below meth c H1 locs1 0 0 Q (F0 m (pc + 3) ls ((r2.toList ++ st).map (sw_g E)))) : W p l e (sw_rm K) s m args below meth c H locs 0 0 Q (F0 m pc ls (st0.map (sw_g E))) := by
  intro T hT X
  obtain ⟨v, st₀, t, T', L, h0, X', hL, e1, e2, ⟨hv, hP2, hK2, hz, hk⟩, stp⟩ := hr T hT X
  injection hv with hv
  rw [h0] at hz hk
  have hS1 : va_S A s.heap T'.heap (locs ++ L) := ⟨Nat.le_trans hS.1 (by rw [e1]; exact hz), fun q h1 h2 => by rw [e1, hk q (Nat.lt_of_lt_of_le h1 hS.1) (fun z => h2 (hA q z))]; exact hS.2.1 q h1 h2, fun q hq => by
      rcases List.mem_append.mp hq with h | h
      · exact hS.2.2 q h
      · exact hA _ (hL q h)⟩
  obtain ⟨t2, a1, b1⟩ := kk T'.heap (locs ++ L) (by rw [e1]; exact hP2) hS1 T' rfl X'
  refine ⟨t2, stp t2 ?_, b1⟩
  have hst : v.toList ++ st.map (sw_g E) = (r2.toList ++ st).map (sw_g E) := by
    rw [hv, List.map_append]
    cases r2 <;> rfl
  rw [hst]
  exact a1
theorem sw_callV {K2 : Nat} {y : MethodName} {cc2 : ByteArray} {nL2 : Nat} {ret2 : Option FieldType} {i ci index n N : Nat} {CN : String} {T : u_T} {r2 : Option Value} {σ2 : sw_M} (As : List Value)
    (hM : sw_Ct l E K2 y cc2 nL2 ret2 (.ref i :: As) σ r2 σ2) (hst : st0 = As.reverse ++ .ref i :: st) (hK : K2 + 1 ≤ K)
    (hc : sw_cl[ci]? = some (CN, T, N)) (hG : GoodIn sw_T (wsV own index CN y (.code y cc2 nL2 ret2 :: sw_T)))
    (hy : y.cls = CN ∧ y.cls ≠ "java/lang/invoke/MethodHandle" ∧ y.cls ≠ "java/lang/invoke/VarHandle" ∧ (parseMethodDescriptor y.desc).map (fun d => d.parameters.length) = some n) (hL : nL2 ≤ 40)
    (hi : i < 84) (hs : sw_s i = (0, ci)) (hn : As.length = n) (hroom : (st.map fun v => v.category).sum ≤ 8) (hd : decode cc pc = .ok (.invokevirtual index, 3))
    (k : sw_Go l E K own cc nL ret (pc + 3) lv (r2.toList ++ st) σ2 r σ') : sw_Go l E K own cc nL ret pc lv st0 σ r σ' := by
  intro p e s m args below meth c H locs A ls C hP hS hl
  obtain ⟨hx, hb, hml, hr, hlk, hown, hts, hMv, hX, hK0, hD, hA⟩ := id C
  have hF := sw_free (hD σ) hS hA
  have run := va_runV (l := l) (e := e) (below := below) (meth := meth) (R := sw_rm K) (H := H) (locs := locs) (cells := 0) (slots := 0) (nL := nL) (As := As.map (sw_g E)) (rest := st.map (sw_g E)) (b := E.1 i) (g := F0 m pc ls (st0.map (sw_g E))) ⟨hx, hb, hml, hown, hts⟩ (hM H.size) (cwV n hts hG rfl rfl rfl hy ⟨hK, by show 8 + (nL2 + 11) + 64 * K2 ≤ 64 * K; omega⟩)
    ⟨sw_blind E _ σ _, va_recv hK0 hP hc (q0 := i) (by rw [sw_wl_at E σ hi, sw_ce_o hs]), fun U hU hW => ⟨rfl, by rw [hU], hMv, by rw [hU]; exact hMv.1 A _ s U s.heap H hX hS.2.1 hF hW, by rw [hU]; exact hP, va_K.moved hW.alike hK0, (hD σ).weaken (fun _ _ _ _ => trivial)⟩⟩
    rfl (by rw [List.length_map]; exact hn) hl.1 (by show st0.map (sw_g E) = _; rw [hst]; simp [sw_g]) (lv_room (by rw [sw_cat_sum]; exact hroom)) hd ⟨Nat.le_refl _, Nat.le_refl _⟩
  exact sw_after run hS hF (fun H1 locs1 hP1 hS1 => k p e s m args below meth c H1 locs1 A ls C hP1 hS1 hl)
theorem sw_callS {K2 : Nat} {y : MethodName} {cc2 : ByteArray} {nL2 : Nat} {ret2 : Option FieldType} {index n : Nat} {r2 : Option Value} {σ2 : sw_M} (As : List Value)
    (hM : sw_Ct l E K2 y cc2 nL2 ret2 As σ r2 σ2) (hst : st0 = As.reverse ++ st) (hK : K2 + 1 ≤ K)
    (hG : GoodIn sw_T (va_wsS own index y (.code y cc2 nL2 ret2 :: sw_T)))
    (hy : y.cls ≠ "java/lang/invoke/MethodHandle" ∧ y.cls ≠ "java/lang/invoke/VarHandle" ∧ (parseMethodDescriptor y.desc).map (fun d => d.parameters.length) = some n) (hL : nL2 ≤ 40)
    (hn : As.length = n) (hroom : (st.map fun v => v.category).sum ≤ 8) (hd : decode cc pc = .ok (.invokestatic index, 3))
    (k : sw_Go l E K own cc nL ret (pc + 3) lv (r2.toList ++ st) σ2 r σ') : sw_Go l E K own cc nL ret pc lv st0 σ r σ' := by
  intro p e s m args below meth c H locs A ls C hP hS hl
  obtain ⟨hx, hb, hml, hr, hlk, hown, hts, hMv, hX, hK0, hD, hA⟩ := id C
  have hF := sw_free (hD σ) hS hA
  have run := va_runS (l := l) (e := e) (below := below) (meth := meth) (R := sw_rm K) (H := H) (locs := locs) (cells := 0) (slots := 0) (nL := nL) (As := As.map (sw_g E)) (rest := st.map (sw_g E)) (g := F0 m pc ls (st0.map (sw_g E))) ⟨hx, hb, hml, hown, hts⟩ (hM H.size) (va_cwS n hts hG rfl rfl rfl hy ⟨hK, by show 8 + (nL2 + 11) + 64 * K2 ≤ 64 * K; omega⟩)
    ⟨sw_blind E _ σ _, fun U hU hW => ⟨rfl, by rw [hU], hMv, by rw [hU]; exact hMv.1 A _ s U s.heap H hX hS.2.1 hF hW, by rw [hU]; exact hP, va_K.moved hW.alike hK0, (hD σ).weaken (fun _ _ _ _ => trivial)⟩⟩
    rfl (by rw [List.length_map]; exact hn) hl.1 (by show st0.map (sw_g E) = _; rw [hst]; simp) (lv_room (by rw [sw_cat_sum]; exact hroom)) hd ⟨Nat.le_refl _, Nat.le_refl _⟩
  exact sw_after run hS hF (fun H1 locs1 hP1 hS1 => k p e s m args below meth c H1 locs1 A ls C hP1 hS1 hl)
/-- the first j places from p on, copied from f to g -/
theorem sw_acopy {a0 a n0 n1 index : Nat} {sp dp n : Int32} (hlink : Cond.methodLink own index arraycopyName ∈ sw_T) (hnat : Cond.native arraycopyName ∈ sw_T) (hstat : Cond.static arraycopyName ∈ sw_T) (hini : Cond.initialized "java/lang/System" ∈ sw_T)
    (ha0 : a0 < 84) (hs0 : sw_s a0 = (1, n0)) (ha : a < 84) (hs : sw_s a = (1, n1)) (h1 : ¬ sp < 0) (h2 : ¬ dp < 0) (h3 : ¬ n < 0) (h4 : sp.toNatClampNeg + n.toNatClampNeg ≤ n0) (h5 : dp.toNatClampNeg + n.toNatClampNeg ≤ n1) (hK : 1 ≤ K) (hroom : (st.map fun v => v.category).sum ≤ 8)
    (hd : decode cc pc = .ok (.invokestatic index, 3)) (k : sw_Go l E K own cc nL ret (pc + 3) lv st (sw_wA σ a (va_cpy (σ.1 a0) (σ.1 a) sp.toNatClampNeg dp.toNatClampNeg n.toNatClampNeg)) r σ') : sw_Go l E K own cc nL ret pc lv (.int n :: .int dp :: .ref a :: .int sp :: .ref a0 :: st) σ r σ' := by
  intro p e s m args below meth c H locs A ls C hP hS hl
  obtain ⟨hx, hb, hml, hr, hlk, hown, hts, hMv, hX, hK0, hD, hA⟩ := id C
  refine va_copyi (a := E.1 a) (ws := sw_wl E σ) hx hb (by rw [hml]; exact hl.1.symm) hown (hts _ hlink) (hts _ hnat) (hts _ hstat) (hts _ hini) hK0 hP (hD σ) hS a0 a a0 a (a0 := E.1 a0) (c0 := E.2.1 a0) (c1 := E.2.1 a) (n0 := n0) (n1 := n1) (f := σ.1 a0) (g := σ.1 a) (ty := .int)
    (by rw [sw_wl_at E σ ha0, sw_ce_i hs0 (by decide) (by decide)]) (by rw [sw_wl_at E σ ha, sw_ce_i hs (by decide) (by decide)]) (by rw [sw_ty_at E ha0, hs0]; rfl) (by rw [sw_ty_at E ha, hs]; rfl) rfl h1 h2 h3 h4 h5 (fun _ _ => rfl) hK (by
      show ((st.map (sw_g E)).map fun v => v.category).sum + (nativeFrameWords "java/lang/System" "arraycopy" 5 + 11) ≤ 64 * K
      rw [sw_cat_sum]
      have : nativeFrameWords "java/lang/System" "arraycopy" 5 + 11 ≤ 56 := by decide +kernel
      omega) hd (fun H1 locs1 hP1 hD1 hS1 => ?_)
  rw [sw_wl_set E σ (sw_wA σ a (va_cpy (σ.1 a0) (σ.1 a) sp.toNatClampNeg dp.toNatClampNeg n.toNatClampNeg)) (by rw [sw_ce_i hs (by decide) (by decide), sw_wA_self]) (sw_ce_wA E σ a _)] at hP1
  exact k p e s m args below meth c H1 locs1 A ls C hP1 hS1 hl
end CALL
end
section
/-! the words in which the methods' meanings are written, and how a proof goes through them -/
def sw_let {α β : Type} (a : α) (f : α → β) : β := f a
theorem sw_let_e {α β : Type} {a : α} {f : α → β} {b : β} (h : sw_let a f = b) : ∃ x, x = a ∧ f x = b := ⟨a, rfl, h⟩
def sw_gd {α : Type} (b : Bool) (a : Option α) : Option α := if b = true then a else none
theorem sw_gd_e {α : Type} {b : Bool} {a : Option α} {r : α} (h : sw_gd b a = some r) : b = true ∧ a = some r := by
  unfold sw_gd at h
  split at h
  · exact ⟨by assumption, h⟩
  · cases h
theorem sw_gd_t {α : Type} {b : Bool} {a : Option α} (h : b = true) : sw_gd b a = a := by simp [sw_gd, h]
def sw_b1 {α β : Type} (o : Option α) (f : α → Option β) : Option β := match o with
  | none => none
  | some a => f a
theorem sw_b1_e {α β : Type} {o : Option α} {f : α → Option β} {r : β} (h : sw_b1 o f = some r) : ∃ a, o = some a ∧ f a = some r := by
  unfold sw_b1 at h
  split at h
  · cases h
  · exact ⟨_, rfl, h⟩
theorem sw_b1_s {α β : Type} {a : α} {f : α → Option β} : sw_b1 (some a) f = f a := rfl
def sw_b2 {α γ β : Type} (o : Option (α × γ)) (f : α → γ → Option β) : Option β := match o with
  | none => none
  | some a => f a.1 a.2
theorem sw_b2_e {α γ β : Type} {o : Option (α × γ)} {f : α → γ → Option β} {r : β} (h : sw_b2 o f = some r) : ∃ a c, o = some (a, c) ∧ f a c = some r := by
  unfold sw_b2 at h
  split at h
  · cases h
  · exact ⟨_, _, rfl, h⟩
theorem sw_b2_s {α γ β : Type} {a : α} {c : γ} {f : α → γ → Option β} : sw_b2 (some (a, c)) f = f a c := rfl
/-- out of a loop's body: what was reached is handed on -/
def sw_up {S T : Type} (o : Option T) : Option (S ⊕ T) := match o with
  | none => none
  | some a => some (.inr a)
theorem sw_up_e {S T : Type} {o : Option T} {t : S ⊕ T} (h : sw_up o = some t) : ∃ a, o = some a ∧ t = .inr a := by
  unfold sw_up at h
  split at h
  · cases h
  · cases h; exact ⟨_, rfl, rfl⟩
theorem sw_up_s {S T : Type} {a : T} : (sw_up (some a) : Option (S ⊕ T)) = some (.inr a) := rfl
def sw_wh {S T : Type} : Nat → (S → Option (S ⊕ T)) → S → Option T
  | 0, _, _ => none
  | n + 1, b, s => match b s with
    | none => none
    | some (.inl s') => sw_wh n b s'
    | some (.inr t) => some t
theorem sw_wh_e {S T : Type} (P : S → Prop) (Q : T → Prop) (b : S → Option (S ⊕ T)) (hb : ∀ s t, b s = some t → Sum.elim P Q t → P s) : ∀ (n : Nat) (s : S) (t : T), sw_wh n b s = some t → Q t → P s
  | 0, _, _, h, _ => by cases h
  | n + 1, s, t, h, hq => by
    unfold sw_wh at h
    split at h
    · cases h
    · next s' e => exact hb s _ e (sw_wh_e P Q b hb n s' t h hq)
    · next t' e => cases h; exact hb s _ e hq
def sw_F : Nat := 4000
def sw_in (i : Int32) (n : Nat) : Bool := decide (¬ (i < 0 ∨ n ≤ i.toNatClampNeg))
theorem sw_in_e {i : Int32} {n : Nat} (h : sw_in i n = true) : vp_in i n := of_decide_eq_true (p := ¬ (i < 0 ∨ n ≤ i.toNatClampNeg)) h
def sw_nz (i : Int32) : Bool := decide (¬ i = 0)
theorem sw_nz_e {i : Int32} (h : sw_nz i = true) : ¬ i = 0 := of_decide_eq_true h
def sw_bo (i : Int32) : Bool := decide (i = 0 ∨ i = 1)
theorem sw_bo_n {i : Int32} (h : i = 0 ∨ i = 1) : narrow .boolean (.int i) = .int i := by rcases h with rfl | rfl <;> rfl
theorem sw_bo_f {i : Int32} (h : i = 0 ∨ i = 1) : fits .boolean (.int i) = true := by rcases h with rfl | rfl <;> rfl
theorem sw_bo_e {i : Int32} (h : sw_bo i = true) : i = 0 ∨ i = 1 := of_decide_eq_true h
def sw_cg (sp dp n : Int32) (n0 n1 : Nat) : Bool := decide ((¬ sp < 0) ∧ (¬ dp < 0) ∧ (¬ n < 0) ∧ sp.toNatClampNeg + n.toNatClampNeg ≤ n0 ∧ dp.toNatClampNeg + n.toNatClampNeg ≤ n1)
theorem sw_cg_e {sp dp n : Int32} {n0 n1 : Nat} (h : sw_cg sp dp n n0 n1 = true) : (¬ sp < 0) ∧ (¬ dp < 0) ∧ (¬ n < 0) ∧ sp.toNatClampNeg + n.toNatClampNeg ≤ n0 ∧ dp.toNatClampNeg + n.toNatClampNeg ≤ n1 := of_decide_eq_true h
def sw_isP (P : Nat) : Prop := P = 5 ∨ P = 16
def sw_isV (P : Nat) : Prop := P = 27 ∨ P = 35
def sw_isF (P : Nat) : Prop := P = 12 ∨ P = 23
def sw_isA (t a : Nat) : Prop := a < 84 ∧ (sw_s a).1 = t
theorem sw_isA.s {t a : Nat} (h : sw_isA t a) : sw_s a = (t, (sw_s a).2) := Prod.ext h.2 rfl
theorem sw_isP.o {P : Nat} (h : sw_isP P) : P < 84 ∧ sw_s P = (0, 4) := by rcases h with rfl | rfl <;> exact ⟨by decide, rfl⟩
theorem sw_isV.o {P : Nat} (h : sw_isV P) : P < 84 ∧ sw_s P = (0, 8) := by rcases h with rfl | rfl <;> exact ⟨by decide, rfl⟩
theorem sw_isF.o {P : Nat} (h : sw_isF P) : P < 84 ∧ sw_s P = (0, 2) := by rcases h with rfl | rfl <;> exact ⟨by decide, rfl⟩
theorem sw_isP.p1 {P : Nat} (h : sw_isP P) : P + 1 < 84 ∧ sw_s (P + 1) = (4, 5) := by rcases h with rfl | rfl <;> exact ⟨by decide, rfl⟩
theorem sw_isP.p2 {P : Nat} (h : sw_isP P) : P + 2 < 84 ∧ sw_s (P + 2) = (4, 7) := by rcases h with rfl | rfl <;> exact ⟨by decide, rfl⟩
theorem sw_isP.p3 {P : Nat} (h : sw_isP P) : P + 3 < 84 ∧ sw_s (P + 3) = (4, 4) := by rcases h with rfl | rfl <;> exact ⟨by decide, rfl⟩
theorem sw_isP.p4 {P : Nat} (h : sw_isP P) : P + 4 < 84 ∧ sw_s (P + 4) = (1, 35) := by rcases h with rfl | rfl <;> exact ⟨by decide, rfl⟩
theorem sw_isP.p5 {P : Nat} (h : sw_isP P) : P + 5 < 84 ∧ sw_s (P + 5) = (1, 20) := by rcases h with rfl | rfl <;> exact ⟨by decide, rfl⟩
theorem sw_isP.p6 {P : Nat} (h : sw_isP P) : P + 6 < 84 ∧ sw_s (P + 6) = (1, 24) := by rcases h with rfl | rfl <;> exact ⟨by decide, rfl⟩
theorem sw_isP.F {P : Nat} (h : sw_isP P) : sw_isF (P + 7) := by rcases h with rfl | rfl <;> simp [sw_isF]
theorem sw_isV.p1 {P : Nat} (h : sw_isV P) : P + 1 < 84 ∧ sw_s (P + 1) = (1, 5) := by rcases h with rfl | rfl <;> exact ⟨by decide, rfl⟩
theorem sw_isF.p1 {P : Nat} (h : sw_isF P) : P + 1 < 84 ∧ sw_s (P + 1) = (1, 270) := by rcases h with rfl | rfl <;> exact ⟨by decide, rfl⟩
theorem sw_isF.p2 {P : Nat} (h : sw_isF P) : P + 2 < 84 ∧ sw_s (P + 2) = (1, 31) := by rcases h with rfl | rfl <;> exact ⟨by decide, rfl⟩
theorem sw_isF.p3 {P : Nat} (h : sw_isF P) : P + 3 < 84 ∧ sw_s (P + 3) = (1, 6) := by rcases h with rfl | rfl <;> exact ⟨by decide, rfl⟩
theorem sw_pl_P (n : Nat) : sw_isP (sw_pl n) := by unfold sw_pl; split <;> simp [sw_isP]
theorem sw_pl_id {P : Nat} (h : sw_isP P) : sw_pl P = P := by rcases h with rfl | rfl <;> rfl
theorem sw_A_of {t n a : Nat} (h1 : a < 84) (h2 : sw_s a = (t, n)) : sw_isA t a := ⟨h1, by rw [h2]⟩
section COMB
variable {l : Launch} {E : sw_E} {K : Nat} {own : String} {cc : ByteArray} {nL : Nat} {ret : Option FieldType} {pc : Nat} {lv lv' : List (Nat × Value)} {st st0 : List Value} {σ σ' : sw_M} {r : Option Value}
theorem sw_mem {τ : sw_M} (h : τ = σ) (k : sw_Go l E K own cc nL ret pc lv st τ r σ') : sw_Go l E K own cc nL ret pc lv st σ r σ' := h ▸ k
theorem sw_topi {x e : Int32} (h : x = e) (k : sw_Go l E K own cc nL ret pc lv (.int x :: st) σ r σ') : sw_Go l E K own cc nL ret pc lv (.int e :: st) σ r σ' := h ▸ k
theorem sw_topl {x e : Int64} (h : x = e) (k : sw_Go l E K own cc nL ret pc lv (.long x :: st) σ r σ') : sw_Go l E K own cc nL ret pc lv (.long e :: st) σ r σ' := h ▸ k
theorem sw_callVi {K2 : Nat} {y : MethodName} {cc2 : ByteArray} {nL2 : Nat} {ret2 : Option FieldType} {i ci index n N : Nat} {CN : String} {T : u_T} {v : Int32} {σ2 : sw_M} (As : List Value)
    (hM : sw_Ct l E K2 y cc2 nL2 ret2 (.ref i :: As) σ (some (.int v)) σ2) (hst : st0 = As.reverse ++ .ref i :: st) (hK : K2 + 1 ≤ K) (hc : sw_cl[ci]? = some (CN, T, N)) (hG : GoodIn sw_T (wsV own index CN y (.code y cc2 nL2 ret2 :: sw_T)))
    (hy : y.cls = CN ∧ y.cls ≠ "java/lang/invoke/MethodHandle" ∧ y.cls ≠ "java/lang/invoke/VarHandle" ∧ (parseMethodDescriptor y.desc).map (fun d => d.parameters.length) = some n) (hL : nL2 ≤ 40) (hi : i < 84) (hs : sw_s i = (0, ci)) (hn : As.length = n) (hroom : (st.map fun v => v.category).sum ≤ 8) (hd : decode cc pc = .ok (.invokevirtual index, 3))
    (k : sw_Go l E K own cc nL ret (pc + 3) lv (.int v :: st) σ2 r σ') : sw_Go l E K own cc nL ret pc lv st0 σ r σ' := sw_callV As hM hst hK hc hG hy hL hi hs hn hroom hd k
theorem sw_callVv {K2 : Nat} {y : MethodName} {cc2 : ByteArray} {nL2 : Nat} {ret2 : Option FieldType} {i ci index n N : Nat} {CN : String} {T : u_T} {σ2 : sw_M} (As : List Value)
    (hM : sw_Ct l E K2 y cc2 nL2 ret2 (.ref i :: As) σ none σ2) (hst : st0 = As.reverse ++ .ref i :: st) (hK : K2 + 1 ≤ K) (hc : sw_cl[ci]? = some (CN, T, N)) (hG : GoodIn sw_T (wsV own index CN y (.code y cc2 nL2 ret2 :: sw_T)))
    (hy : y.cls = CN ∧ y.cls ≠ "java/lang/invoke/MethodHandle" ∧ y.cls ≠ "java/lang/invoke/VarHandle" ∧ (parseMethodDescriptor y.desc).map (fun d => d.parameters.length) = some n) (hL : nL2 ≤ 40) (hi : i < 84) (hs : sw_s i = (0, ci)) (hn : As.length = n) (hroom : (st.map fun v => v.category).sum ≤ 8) (hd : decode cc pc = .ok (.invokevirtual index, 3))
    (k : sw_Go l E K own cc nL ret (pc + 3) lv st σ2 r σ') : sw_Go l E K own cc nL ret pc lv st0 σ r σ' := sw_callV As hM hst hK hc hG hy hL hi hs hn hroom hd k
theorem sw_callSi {K2 : Nat} {y : MethodName} {cc2 : ByteArray} {nL2 : Nat} {ret2 : Option FieldType} {index n : Nat} {v : Int32} {σ2 : sw_M} (As : List Value)
    (hM : sw_Ct l E K2 y cc2 nL2 ret2 As σ (some (.int v)) σ2) (hst : st0 = As.reverse ++ st) (hK : K2 + 1 ≤ K) (hG : GoodIn sw_T (va_wsS own index y (.code y cc2 nL2 ret2 :: sw_T)))
    (hy : y.cls ≠ "java/lang/invoke/MethodHandle" ∧ y.cls ≠ "java/lang/invoke/VarHandle" ∧ (parseMethodDescriptor y.desc).map (fun d => d.parameters.length) = some n) (hL : nL2 ≤ 40) (hn : As.length = n) (hroom : (st.map fun v => v.category).sum ≤ 8) (hd : decode cc pc = .ok (.invokestatic index, 3))
    (k : sw_Go l E K own cc nL ret (pc + 3) lv (.int v :: st) σ2 r σ') : sw_Go l E K own cc nL ret pc lv st0 σ r σ' := sw_callS As hM hst hK hG hy hL hn hroom hd k
theorem sw_callSl {K2 : Nat} {y : MethodName} {cc2 : ByteArray} {nL2 : Nat} {ret2 : Option FieldType} {index n : Nat} {v : Int64} {σ2 : sw_M} (As : List Value)
    (hM : sw_Ct l E K2 y cc2 nL2 ret2 As σ (some (.long v)) σ2) (hst : st0 = As.reverse ++ st) (hK : K2 + 1 ≤ K) (hG : GoodIn sw_T (va_wsS own index y (.code y cc2 nL2 ret2 :: sw_T)))
    (hy : y.cls ≠ "java/lang/invoke/MethodHandle" ∧ y.cls ≠ "java/lang/invoke/VarHandle" ∧ (parseMethodDescriptor y.desc).map (fun d => d.parameters.length) = some n) (hL : nL2 ≤ 40) (hn : As.length = n) (hroom : (st.map fun v => v.category).sum ≤ 8) (hd : decode cc pc = .ok (.invokestatic index, 3))
    (k : sw_Go l E K own cc nL ret (pc + 3) lv (.long v :: st) σ2 r σ') : sw_Go l E K own cc nL ret pc lv st0 σ r σ' := sw_callS As hM hst hK hG hy hL hn hroom hd k
theorem sw_callSv {K2 : Nat} {y : MethodName} {cc2 : ByteArray} {nL2 : Nat} {ret2 : Option FieldType} {index n : Nat} {σ2 : sw_M} (As : List Value)
    (hM : sw_Ct l E K2 y cc2 nL2 ret2 As σ none σ2) (hst : st0 = As.reverse ++ st) (hK : K2 + 1 ≤ K) (hG : GoodIn sw_T (va_wsS own index y (.code y cc2 nL2 ret2 :: sw_T)))
    (hy : y.cls ≠ "java/lang/invoke/MethodHandle" ∧ y.cls ≠ "java/lang/invoke/VarHandle" ∧ (parseMethodDescriptor y.desc).map (fun d => d.parameters.length) = some n) (hL : nL2 ≤ 40) (hn : As.length = n) (hroom : (st.map fun v => v.category).sum ≤ 8) (hd : decode cc pc = .ok (.invokestatic index, 3))
    (k : sw_Go l E K own cc nL ret (pc + 3) lv st σ2 r σ') : sw_Go l E K own cc nL ret pc lv st0 σ r σ' := sw_callS As hM hst hK hG hy hL hn hroom hd k
end COMB
end
section
section LINKS
variable {l : Launch} {E : sw_E} {K : Nat} {cc : ByteArray} {nL : Nat} {ret : Option FieldType} {pc i : Nat} {lv : List (Nat × Value)} {st : List Value} {σ σ' : sw_M} {r : Option Value}
theorem lk_X9_10 : Cond.fieldLink RX9 10 (TX9 0).1 (TX9 0).2.1 (TX9 0).2.2.1 ∈ sw_T := sw_T_of (i := 498) (by decide +kernel) rfl
theorem gf_X9_10 (hi : i < 84) (hs : sw_s i = (0, 9)) (hd : decode cc pc = .ok (.getfield 10, 3)) (k : sw_Go l E K RX9 cc nL ret (pc + 3) lv (.ref (i + 1) :: st) σ r σ') : sw_Go l E K RX9 cc nL ret pc lv (.ref i :: st) σ r σ' := sw_get (ci := 9) (k0 := 0) rfl sw_in9 (by decide) lk_X9_10 rfl hi hs hd k
theorem lk_X9_19 : Cond.fieldLink RX9 19 (TX9 1).1 (TX9 1).2.1 (TX9 1).2.2.1 ∈ sw_T := sw_T_of (i := 499) (by decide +kernel) rfl
theorem gf_X9_19 (hi : i < 84) (hs : sw_s i = (0, 9)) (hd : decode cc pc = .ok (.getfield 19, 3)) (k : sw_Go l E K RX9 cc nL ret (pc + 3) lv (.ref (sw_pl (σ.2.2 0)) :: st) σ r σ') : sw_Go l E K RX9 cc nL ret pc lv (.ref i :: st) σ r σ' := sw_get (ci := 9) (k0 := 1) rfl sw_in9 (by decide) lk_X9_19 rfl hi hs hd k
theorem lk_X9_26 : Cond.fieldLink RX9 26 (TX9 2).1 (TX9 2).2.1 (TX9 2).2.2.1 ∈ sw_T := sw_T_of (i := 500) (by decide +kernel) rfl
theorem gf_X9_26 (hi : i < 84) (hs : sw_s i = (0, 9)) (hd : decode cc pc = .ok (.getfield 26, 3)) (k : sw_Go l E K RX9 cc nL ret (pc + 3) lv (.ref (i + 27) :: st) σ r σ') : sw_Go l E K RX9 cc nL ret pc lv (.ref i :: st) σ r σ' := sw_get (ci := 9) (k0 := 2) rfl sw_in9 (by decide) lk_X9_26 rfl hi hs hd k
theorem lk_X9_33 : Cond.fieldLink RX9 33 (TX9 3).1 (TX9 3).2.1 (TX9 3).2.2.1 ∈ sw_T := sw_T_of (i := 501) (by decide +kernel) rfl
theorem gf_X9_33 (hi : i < 84) (hs : sw_s i = (0, 9)) (hd : decode cc pc = .ok (.getfield 33, 3)) (k : sw_Go l E K RX9 cc nL ret (pc + 3) lv (.ref (i + 29) :: st) σ r σ') : sw_Go l E K RX9 cc nL ret pc lv (.ref i :: st) σ r σ' := sw_get (ci := 9) (k0 := 3) rfl sw_in9 (by decide) lk_X9_33 rfl hi hs hd k
theorem lk_X9_40 : Cond.fieldLink RX9 40 (TX9 4).1 (TX9 4).2.1 (TX9 4).2.2.1 ∈ sw_T := sw_T_of (i := 502) (by decide +kernel) rfl
theorem gf_X9_40 (hi : i < 84) (hs : sw_s i = (0, 9)) (hd : decode cc pc = .ok (.getfield 40, 3)) (k : sw_Go l E K RX9 cc nL ret (pc + 3) lv (.ref (i + 31) :: st) σ r σ') : sw_Go l E K RX9 cc nL ret pc lv (.ref i :: st) σ r σ' := sw_get (ci := 9) (k0 := 4) rfl sw_in9 (by decide) lk_X9_40 rfl hi hs hd k
theorem lk_X9_47 : Cond.fieldLink RX9 47 (TX9 5).1 (TX9 5).2.1 (TX9 5).2.2.1 ∈ sw_T := sw_T_of (i := 503) (by decide +kernel) rfl
theorem gf_X9_47 (hi : i < 84) (hs : sw_s i = (0, 9)) (hd : decode cc pc = .ok (.getfield 47, 3)) (k : sw_Go l E K RX9 cc nL ret (pc + 3) lv (.ref (i + 34) :: st) σ r σ') : sw_Go l E K RX9 cc nL ret pc lv (.ref i :: st) σ r σ' := sw_get (ci := 9) (k0 := 5) rfl sw_in9 (by decide) lk_X9_47 rfl hi hs hd k
theorem lk_X9_54 : Cond.fieldLink RX9 54 (TX9 6).1 (TX9 6).2.1 (TX9 6).2.2.1 ∈ sw_T := sw_T_of (i := 504) (by decide +kernel) rfl
theorem gf_X9_54 (hi : i < 84) (hs : sw_s i = (0, 9)) (hd : decode cc pc = .ok (.getfield 54, 3)) (k : sw_Go l E K RX9 cc nL ret (pc + 3) lv (.ref (i + 39) :: st) σ r σ') : sw_Go l E K RX9 cc nL ret pc lv (.ref i :: st) σ r σ' := sw_get (ci := 9) (k0 := 6) rfl sw_in9 (by decide) lk_X9_54 rfl hi hs hd k
theorem lk_X9_58 : Cond.fieldLink RX9 58 (TX9 7).1 (TX9 7).2.1 (TX9 7).2.2.1 ∈ sw_T := sw_T_of (i := 505) (by decide +kernel) rfl
theorem gf_X9_58 (hi : i < 84) (hs : sw_s i = (0, 9)) (hd : decode cc pc = .ok (.getfield 58, 3)) (k : sw_Go l E K RX9 cc nL ret (pc + 3) lv (.ref (i + 48) :: st) σ r σ') : sw_Go l E K RX9 cc nL ret pc lv (.ref i :: st) σ r σ' := sw_get (ci := 9) (k0 := 7) rfl sw_in9 (by decide) lk_X9_58 rfl hi hs hd k
theorem lk_X9_62 : Cond.fieldLink RX9 62 (TX5 0).1 (TX5 0).2.1 (TX5 0).2.2.1 ∈ sw_T := sw_T_of (i := 349) (by decide +kernel) rfl
theorem gf_X9_62 (hi : i < 84) (hs : sw_s i = (0, 5)) (hd : decode cc pc = .ok (.getfield 62, 3)) (k : sw_Go l E K RX9 cc nL ret (pc + 3) lv (.ref (i + 1) :: st) σ r σ') : sw_Go l E K RX9 cc nL ret pc lv (.ref i :: st) σ r σ' := sw_get (ci := 5) (k0 := 0) rfl sw_in5 (by decide) lk_X9_62 rfl hi hs hd k
theorem lk_X9_66 : Cond.fieldLink RX9 66 (TX7 1).1 (TX7 1).2.1 (TX7 1).2.2.1 ∈ sw_T := sw_T_of (i := 199) (by decide +kernel) rfl
theorem gf_X9_66 (hi : i < 84) (hs : sw_s i = (0, 7)) (hd : decode cc pc = .ok (.getfield 66, 3)) (k : sw_Go l E K RX9 cc nL ret (pc + 3) lv (.int (σ.1 i 1) :: st) σ r σ') : sw_Go l E K RX9 cc nL ret pc lv (.ref i :: st) σ r σ' := sw_get (ci := 7) (k0 := 1) rfl sw_in7 (by decide) lk_X9_66 rfl hi hs hd k
theorem pf_X9_66 {x : Int32} (hi : i < 84) (hs : sw_s i = (0, 7)) (hd : decode cc pc = .ok (.putfield 66, 3)) (k : sw_Go l E K RX9 cc nL ret (pc + 3) lv st (sw_w σ i 1 x) r σ') : sw_Go l E K RX9 cc nL ret pc lv (.int x :: .ref i :: st) σ r σ' := sw_putI (ci := 7) (k0 := 1) tyX7 rfl sw_in7 tyX7_ok nmX7 (by decide) lk_X9_66 rfl (tyX7_ok 1 (by decide)) rfl hi hs rfl rfl hd k
theorem lk_X9_86 : Cond.fieldLink RX9 86 (TX5 1).1 (TX5 1).2.1 (TX5 1).2.2.1 ∈ sw_T := sw_T_of (i := 351) (by decide +kernel) rfl
theorem gf_X9_86 (hi : i < 84) (hs : sw_s i = (0, 5)) (hd : decode cc pc = .ok (.getfield 86, 3)) (k : sw_Go l E K RX9 cc nL ret (pc + 3) lv (.ref (sw_pl (σ.2.2 1)) :: st) σ r σ') : sw_Go l E K RX9 cc nL ret pc lv (.ref i :: st) σ r σ' := sw_get (ci := 5) (k0 := 1) rfl sw_in5 (by decide) lk_X9_86 rfl hi hs hd k
theorem lk_X9_87 : Cond.fieldLink RX9 87 (TX4 5).1 (TX4 5).2.1 (TX4 5).2.2.1 ∈ sw_T := sw_T_of (i := 290) (by decide +kernel) rfl
theorem gf_X9_87 (hi : i < 84) (hs : sw_s i = (0, 4)) (hd : decode cc pc = .ok (.getfield 87, 3)) (k : sw_Go l E K RX9 cc nL ret (pc + 3) lv (.int (σ.1 i 5) :: st) σ r σ') : sw_Go l E K RX9 cc nL ret pc lv (.ref i :: st) σ r σ' := sw_get (ci := 4) (k0 := 5) rfl sw_in4 (by decide) lk_X9_87 rfl hi hs hd k
theorem pf_X9_87 {x : Int32} (hi : i < 84) (hs : sw_s i = (0, 4)) (hd : decode cc pc = .ok (.putfield 87, 3)) (k : sw_Go l E K RX9 cc nL ret (pc + 3) lv st (sw_w σ i 5 x) r σ') : sw_Go l E K RX9 cc nL ret pc lv (.int x :: .ref i :: st) σ r σ' := sw_putI (ci := 4) (k0 := 5) tyX4 rfl sw_in4 tyX4_ok nmX4 (by decide) lk_X9_87 rfl (tyX4_ok 5 (by decide)) rfl hi hs rfl rfl hd k
theorem lk_X9_97 : Cond.fieldLink RX9 97 (TX9 8).1 (TX9 8).2.1 (TX9 8).2.2.1 ∈ sw_T := sw_T_of (i := 506) (by decide +kernel) rfl
theorem gf_X9_97 (hi : i < 84) (hs : sw_s i = (0, 9)) (hd : decode cc pc = .ok (.getfield 97, 3)) (k : sw_Go l E K RX9 cc nL ret (pc + 3) lv (.int (σ.1 i 8) :: st) σ r σ') : sw_Go l E K RX9 cc nL ret pc lv (.ref i :: st) σ r σ' := sw_get (ci := 9) (k0 := 8) rfl sw_in9 (by decide) lk_X9_97 rfl hi hs hd k
theorem pf_X9_97 {x : Int32} (hi : i < 84) (hs : sw_s i = (0, 9)) (hd : decode cc pc = .ok (.putfield 97, 3)) (k : sw_Go l E K RX9 cc nL ret (pc + 3) lv st (sw_w σ i 8 x) r σ') : sw_Go l E K RX9 cc nL ret pc lv (.int x :: .ref i :: st) σ r σ' := sw_putI (ci := 9) (k0 := 8) tyX9 rfl sw_in9 tyX9_ok nmX9 (by decide) lk_X9_97 rfl (tyX9_ok 8 (by decide)) rfl hi hs rfl rfl hd k
theorem lk_X9_100 : Cond.fieldLink RX9 100 (TX4 1).1 (TX4 1).2.1 (TX4 1).2.2.1 ∈ sw_T := sw_T_of (i := 276) (by decide +kernel) rfl
theorem gf_X9_100 (hi : i < 84) (hs : sw_s i = (0, 4)) (hd : decode cc pc = .ok (.getfield 100, 3)) (k : sw_Go l E K RX9 cc nL ret (pc + 3) lv (.int (σ.1 i 1) :: st) σ r σ') : sw_Go l E K RX9 cc nL ret pc lv (.ref i :: st) σ r σ' := sw_get (ci := 4) (k0 := 1) rfl sw_in4 (by decide) lk_X9_100 rfl hi hs hd k
theorem pf_X9_100 {x : Int32} (hi : i < 84) (hs : sw_s i = (0, 4)) (hd : decode cc pc = .ok (.putfield 100, 3)) (k : sw_Go l E K RX9 cc nL ret (pc + 3) lv st (sw_w σ i 1 x) r σ') : sw_Go l E K RX9 cc nL ret pc lv (.int x :: .ref i :: st) σ r σ' := sw_putI (ci := 4) (k0 := 1) tyX4 rfl sw_in4 tyX4_ok nmX4 (by decide) lk_X9_100 rfl (tyX4_ok 1 (by decide)) rfl hi hs rfl rfl hd k
theorem lk_X9_103 : Cond.fieldLink RX9 103 (TX5 2).1 (TX5 2).2.1 (TX5 2).2.2.1 ∈ sw_T := sw_T_of (i := 353) (by decide +kernel) rfl
theorem gf_X9_103 (hi : i < 84) (hs : sw_s i = (0, 5)) (hd : decode cc pc = .ok (.getfield 103, 3)) (k : sw_Go l E K RX9 cc nL ret (pc + 3) lv (.int (σ.1 i 2) :: st) σ r σ') : sw_Go l E K RX9 cc nL ret pc lv (.ref i :: st) σ r σ' := sw_get (ci := 5) (k0 := 2) rfl sw_in5 (by decide) lk_X9_103 rfl hi hs hd k
theorem pf_X9_103 {x : Int32} (hi : i < 84) (hs : sw_s i = (0, 5)) (hd : decode cc pc = .ok (.putfield 103, 3)) (k : sw_Go l E K RX9 cc nL ret (pc + 3) lv st (sw_w σ i 2 x) r σ') : sw_Go l E K RX9 cc nL ret pc lv (.int x :: .ref i :: st) σ r σ' := sw_putI (ci := 5) (k0 := 2) tyX5 rfl sw_in5 tyX5_ok nmX5 (by decide) lk_X9_103 rfl (tyX5_ok 2 (by decide)) rfl hi hs rfl rfl hd k
theorem lk_X9_106 : Cond.fieldLink RX9 106 (TX5 3).1 (TX5 3).2.1 (TX5 3).2.2.1 ∈ sw_T := sw_T_of (i := 355) (by decide +kernel) rfl
theorem gf_X9_106 (hi : i < 84) (hs : sw_s i = (0, 5)) (hd : decode cc pc = .ok (.getfield 106, 3)) (k : sw_Go l E K RX9 cc nL ret (pc + 3) lv (.int (σ.1 i 3) :: st) σ r σ') : sw_Go l E K RX9 cc nL ret pc lv (.ref i :: st) σ r σ' := sw_get (ci := 5) (k0 := 3) rfl sw_in5 (by decide) lk_X9_106 rfl hi hs hd k
theorem pf_X9_106 {x : Int32} (hi : i < 84) (hs : sw_s i = (0, 5)) (hd : decode cc pc = .ok (.putfield 106, 3)) (k : sw_Go l E K RX9 cc nL ret (pc + 3) lv st (sw_w σ i 3 x) r σ') : sw_Go l E K RX9 cc nL ret pc lv (.int x :: .ref i :: st) σ r σ' := sw_putI (ci := 5) (k0 := 3) tyX5 rfl sw_in5 tyX5_ok nmX5 (by decide) lk_X9_106 rfl (tyX5_ok 3 (by decide)) rfl hi hs rfl rfl hd k
theorem lk_X9_113 : Cond.fieldLink RX9 113 (TX8 0).1 (TX8 0).2.1 (TX8 0).2.2.1 ∈ sw_T := sw_T_of (i := 379) (by decide +kernel) rfl
theorem gf_X9_113 (hi : i < 84) (hs : sw_s i = (0, 8)) (hd : decode cc pc = .ok (.getfield 113, 3)) (k : sw_Go l E K RX9 cc nL ret (pc + 3) lv (.ref (i + 1) :: st) σ r σ') : sw_Go l E K RX9 cc nL ret pc lv (.ref i :: st) σ r σ' := sw_get (ci := 8) (k0 := 0) rfl sw_in8 (by decide) lk_X9_113 rfl hi hs hd k
theorem lk_X9_129 : Cond.fieldLink RX9 129 (TX4 2).1 (TX4 2).2.1 (TX4 2).2.2.1 ∈ sw_T := sw_T_of (i := 282) (by decide +kernel) rfl
theorem gf_X9_129 (hi : i < 84) (hs : sw_s i = (0, 4)) (hd : decode cc pc = .ok (.getfield 129, 3)) (k : sw_Go l E K RX9 cc nL ret (pc + 3) lv (.int (σ.1 i 2) :: st) σ r σ') : sw_Go l E K RX9 cc nL ret pc lv (.ref i :: st) σ r σ' := sw_get (ci := 4) (k0 := 2) rfl sw_in4 (by decide) lk_X9_129 rfl hi hs hd k
theorem pf_X9_129 {x : Int32} (hi : i < 84) (hs : sw_s i = (0, 4)) (hd : decode cc pc = .ok (.putfield 129, 3)) (k : sw_Go l E K RX9 cc nL ret (pc + 3) lv st (sw_w σ i 2 x) r σ') : sw_Go l E K RX9 cc nL ret pc lv (.int x :: .ref i :: st) σ r σ' := sw_putI (ci := 4) (k0 := 2) tyX4 rfl sw_in4 tyX4_ok nmX4 (by decide) lk_X9_129 rfl (tyX4_ok 2 (by decide)) rfl hi hs rfl rfl hd k
theorem lk_X9_132 : Cond.fieldLink RX9 132 (TX4 14).1 (TX4 14).2.1 (TX4 14).2.2.1 ∈ sw_T := sw_T_of (i := 310) (by decide +kernel) rfl
theorem gf_X9_132 (hi : i < 84) (hs : sw_s i = (0, 4)) (hd : decode cc pc = .ok (.getfield 132, 3)) (k : sw_Go l E K RX9 cc nL ret (pc + 3) lv (.ref (i + 6) :: st) σ r σ') : sw_Go l E K RX9 cc nL ret pc lv (.ref i :: st) σ r σ' := sw_get (ci := 4) (k0 := 14) rfl sw_in4 (by decide) lk_X9_132 rfl hi hs hd k
theorem lk_X9_150 : Cond.fieldLink RX9 150 (TX8 4).1 (TX8 4).2.1 (TX8 4).2.2.1 ∈ sw_T := sw_T_of (i := 393) (by decide +kernel) rfl
theorem gf_X9_150 (hi : i < 84) (hs : sw_s i = (0, 8)) (hd : decode cc pc = .ok (.getfield 150, 3)) (k : sw_Go l E K RX9 cc nL ret (pc + 3) lv (.int (σ.1 i 4) :: st) σ r σ') : sw_Go l E K RX9 cc nL ret pc lv (.ref i :: st) σ r σ' := sw_get (ci := 8) (k0 := 4) rfl sw_in8 (by decide) lk_X9_150 rfl hi hs hd k
theorem pf_X9_150 {x : Int32} (hi : i < 84) (hs : sw_s i = (0, 8)) (hd : decode cc pc = .ok (.putfield 150, 3)) (k : sw_Go l E K RX9 cc nL ret (pc + 3) lv st (sw_w σ i 4 x) r σ') : sw_Go l E K RX9 cc nL ret pc lv (.int x :: .ref i :: st) σ r σ' := sw_putI (ci := 8) (k0 := 4) tyX8 rfl sw_in8 tyX8_ok nmX8 (by decide) lk_X9_150 rfl (tyX8_ok 4 (by decide)) rfl hi hs rfl rfl hd k
theorem lk_X9_164 : Cond.fieldLink RX9 164 (TX4 0).1 (TX4 0).2.1 (TX4 0).2.2.1 ∈ sw_T := sw_T_of (i := 274) (by decide +kernel) rfl
theorem gf_X9_164 (hi : i < 84) (hs : sw_s i = (0, 4)) (hd : decode cc pc = .ok (.getfield 164, 3)) (k : sw_Go l E K RX9 cc nL ret (pc + 3) lv (.int (σ.1 i 0) :: st) σ r σ') : sw_Go l E K RX9 cc nL ret pc lv (.ref i :: st) σ r σ' := sw_get (ci := 4) (k0 := 0) rfl sw_in4 (by decide) lk_X9_164 rfl hi hs hd k
theorem pf_X9_164 {x : Int32} (hi : i < 84) (hs : sw_s i = (0, 4)) (hd : decode cc pc = .ok (.putfield 164, 3)) (k : sw_Go l E K RX9 cc nL ret (pc + 3) lv st (sw_w σ i 0 x) r σ') : sw_Go l E K RX9 cc nL ret pc lv (.int x :: .ref i :: st) σ r σ' := sw_putI (ci := 4) (k0 := 0) tyX4 rfl sw_in4 tyX4_ok nmX4 (by decide) lk_X9_164 rfl (tyX4_ok 0 (by decide)) rfl hi hs rfl rfl hd k
theorem lk_X9_167 : Cond.fieldLink RX9 167 (TX8 2).1 (TX8 2).2.1 (TX8 2).2.2.1 ∈ sw_T := sw_T_of (i := 386) (by decide +kernel) rfl
theorem gf_X9_167 (hi : i < 84) (hs : sw_s i = (0, 8)) (hd : decode cc pc = .ok (.getfield 167, 3)) (k : sw_Go l E K RX9 cc nL ret (pc + 3) lv (.int (σ.1 i 2) :: st) σ r σ') : sw_Go l E K RX9 cc nL ret pc lv (.ref i :: st) σ r σ' := sw_get (ci := 8) (k0 := 2) rfl sw_in8 (by decide) lk_X9_167 rfl hi hs hd k
theorem pf_X9_167 {x : Int32} (hi : i < 84) (hs : sw_s i = (0, 8)) (hd : decode cc pc = .ok (.putfield 167, 3)) (k : sw_Go l E K RX9 cc nL ret (pc + 3) lv st (sw_w σ i 2 x) r σ') : sw_Go l E K RX9 cc nL ret pc lv (.int x :: .ref i :: st) σ r σ' := sw_putI (ci := 8) (k0 := 2) tyX8 rfl sw_in8 tyX8_ok nmX8 (by decide) lk_X9_167 rfl (tyX8_ok 2 (by decide)) rfl hi hs rfl rfl hd k
theorem lk_X9_195 : Cond.fieldLink RX9 195 (TX4 3).1 (TX4 3).2.1 (TX4 3).2.2.1 ∈ sw_T := sw_T_of (i := 285) (by decide +kernel) rfl
theorem gf_X9_195 (hi : i < 84) (hs : sw_s i = (0, 4)) (hd : decode cc pc = .ok (.getfield 195, 3)) (k : sw_Go l E K RX9 cc nL ret (pc + 3) lv (.int (σ.1 i 3) :: st) σ r σ') : sw_Go l E K RX9 cc nL ret pc lv (.ref i :: st) σ r σ' := sw_get (ci := 4) (k0 := 3) rfl sw_in4 (by decide) lk_X9_195 rfl hi hs hd k
theorem pf_X9_195 {x : Int32} (hi : i < 84) (hs : sw_s i = (0, 4)) (hd : decode cc pc = .ok (.putfield 195, 3)) (k : sw_Go l E K RX9 cc nL ret (pc + 3) lv st (sw_w σ i 3 x) r σ') : sw_Go l E K RX9 cc nL ret pc lv (.int x :: .ref i :: st) σ r σ' := sw_putI (ci := 4) (k0 := 3) tyX4 rfl sw_in4 tyX4_ok nmX4 (by decide) lk_X9_195 rfl (tyX4_ok 3 (by decide)) rfl hi hs rfl rfl hd k
theorem lk_X9_256 : Cond.fieldLink RX9 256 (TX4 4).1 (TX4 4).2.1 (TX4 4).2.2.1 ∈ sw_T := sw_T_of (i := 288) (by decide +kernel) rfl
theorem gf_X9_256 (hi : i < 84) (hs : sw_s i = (0, 4)) (hd : decode cc pc = .ok (.getfield 256, 3)) (k : sw_Go l E K RX9 cc nL ret (pc + 3) lv (.int (σ.1 i 4) :: st) σ r σ') : sw_Go l E K RX9 cc nL ret pc lv (.ref i :: st) σ r σ' := sw_get (ci := 4) (k0 := 4) rfl sw_in4 (by decide) lk_X9_256 rfl hi hs hd k
theorem pf_X9_256 {x : Int32} (hi : i < 84) (hs : sw_s i = (0, 4)) (hd : decode cc pc = .ok (.putfield 256, 3)) (k : sw_Go l E K RX9 cc nL ret (pc + 3) lv st (sw_w σ i 4 x) r σ') : sw_Go l E K RX9 cc nL ret pc lv (.int x :: .ref i :: st) σ r σ' := sw_putI (ci := 4) (k0 := 4) tyX4 rfl sw_in4 tyX4_ok nmX4 (by decide) lk_X9_256 rfl (tyX4_ok 4 (by decide)) rfl hi hs rfl rfl hd k
theorem lk_X9_262 : Cond.fieldLink RX9 262 (TX9 9).1 (TX9 9).2.1 (TX9 9).2.2.1 ∈ sw_T := sw_T_of (i := 507) (by decide +kernel) rfl
theorem gf_X9_262 (hi : i < 84) (hs : sw_s i = (0, 9)) (hd : decode cc pc = .ok (.getfield 262, 3)) (k : sw_Go l E K RX9 cc nL ret (pc + 3) lv (.int (σ.1 i 9) :: st) σ r σ') : sw_Go l E K RX9 cc nL ret pc lv (.ref i :: st) σ r σ' := sw_get (ci := 9) (k0 := 9) rfl sw_in9 (by decide) lk_X9_262 rfl hi hs hd k
theorem pf_X9_262 {x : Int32} (hi : i < 84) (hs : sw_s i = (0, 9)) (hd : decode cc pc = .ok (.putfield 262, 3)) (k : sw_Go l E K RX9 cc nL ret (pc + 3) lv st (sw_w σ i 9 x) r σ') : sw_Go l E K RX9 cc nL ret pc lv (.int x :: .ref i :: st) σ r σ' := sw_putI (ci := 9) (k0 := 9) tyX9 rfl sw_in9 tyX9_ok nmX9 (by decide) lk_X9_262 rfl (tyX9_ok 9 (by decide)) rfl hi hs rfl rfl hd k
theorem lk_X9_290 : Cond.fieldLink RX9 290 (TX1 0).1 (TX1 0).2.1 (TX1 0).2.2.1 ∈ sw_T := sw_T_of (i := 434) (by decide +kernel) rfl
theorem gf_X9_290 (hi : i < 84) (hs : sw_s i = (0, 1)) (hd : decode cc pc = .ok (.getfield 290, 3)) (k : sw_Go l E K RX9 cc nL ret (pc + 3) lv (.ref (i + 1) :: st) σ r σ') : sw_Go l E K RX9 cc nL ret pc lv (.ref i :: st) σ r σ' := sw_get (ci := 1) (k0 := 0) rfl sw_in1 (by decide) lk_X9_290 rfl hi hs hd k
theorem lk_X9_297 : Cond.fieldLink RX9 297 (TX8 1).1 (TX8 1).2.1 (TX8 1).2.2.1 ∈ sw_T := sw_T_of (i := 384) (by decide +kernel) rfl
theorem gf_X9_297 (hi : i < 84) (hs : sw_s i = (0, 8)) (hd : decode cc pc = .ok (.getfield 297, 3)) (k : sw_Go l E K RX9 cc nL ret (pc + 3) lv (.int (σ.1 i 1) :: st) σ r σ') : sw_Go l E K RX9 cc nL ret pc lv (.ref i :: st) σ r σ' := sw_get (ci := 8) (k0 := 1) rfl sw_in8 (by decide) lk_X9_297 rfl hi hs hd k
theorem pf_X9_297 {x : Int32} (hi : i < 84) (hs : sw_s i = (0, 8)) (hd : decode cc pc = .ok (.putfield 297, 3)) (k : sw_Go l E K RX9 cc nL ret (pc + 3) lv st (sw_w σ i 1 x) r σ') : sw_Go l E K RX9 cc nL ret pc lv (.int x :: .ref i :: st) σ r σ' := sw_putI (ci := 8) (k0 := 1) tyX8 rfl sw_in8 tyX8_ok nmX8 (by decide) lk_X9_297 rfl (tyX8_ok 1 (by decide)) rfl hi hs rfl rfl hd k
theorem lk_X9_300 : Cond.fieldLink RX9 300 (TX8 3).1 (TX8 3).2.1 (TX8 3).2.2.1 ∈ sw_T := sw_T_of (i := 389) (by decide +kernel) rfl
theorem gf_X9_300 (hi : i < 84) (hs : sw_s i = (0, 8)) (hd : decode cc pc = .ok (.getfield 300, 3)) (k : sw_Go l E K RX9 cc nL ret (pc + 3) lv (.int (σ.1 i 3) :: st) σ r σ') : sw_Go l E K RX9 cc nL ret pc lv (.ref i :: st) σ r σ' := sw_get (ci := 8) (k0 := 3) rfl sw_in8 (by decide) lk_X9_300 rfl hi hs hd k
theorem pf_X9_300 {x : Int32} (hi : i < 84) (hs : sw_s i = (0, 8)) (hd : decode cc pc = .ok (.putfield 300, 3)) (k : sw_Go l E K RX9 cc nL ret (pc + 3) lv st (sw_w σ i 3 x) r σ') : sw_Go l E K RX9 cc nL ret pc lv (.int x :: .ref i :: st) σ r σ' := sw_putI (ci := 8) (k0 := 3) tyX8 rfl sw_in8 tyX8_ok nmX8 (by decide) lk_X9_300 rfl (tyX8_ok 3 (by decide)) rfl hi hs rfl rfl hd k
theorem lk_X9_303 : Cond.fieldLink RX9 303 (TX8 5).1 (TX8 5).2.1 (TX8 5).2.2.1 ∈ sw_T := sw_T_of (i := 397) (by decide +kernel) rfl
theorem gf_X9_303 (hi : i < 84) (hs : sw_s i = (0, 8)) (hd : decode cc pc = .ok (.getfield 303, 3)) (k : sw_Go l E K RX9 cc nL ret (pc + 3) lv (.int (σ.1 i 5) :: st) σ r σ') : sw_Go l E K RX9 cc nL ret pc lv (.ref i :: st) σ r σ' := sw_get (ci := 8) (k0 := 5) rfl sw_in8 (by decide) lk_X9_303 rfl hi hs hd k
theorem pf_X9_303 {x : Int32} (hi : i < 84) (hs : sw_s i = (0, 8)) (hd : decode cc pc = .ok (.putfield 303, 3)) (k : sw_Go l E K RX9 cc nL ret (pc + 3) lv st (sw_w σ i 5 x) r σ') : sw_Go l E K RX9 cc nL ret pc lv (.int x :: .ref i :: st) σ r σ' := sw_putI (ci := 8) (k0 := 5) tyX8 rfl sw_in8 tyX8_ok nmX8 (by decide) lk_X9_303 rfl (tyX8_ok 5 (by decide)) rfl hi hs rfl rfl hd k
theorem lk_X9_312 : Cond.fieldLink RX9 312 (TX6 0).1 (TX6 0).2.1 (TX6 0).2.2.1 ∈ sw_T := sw_T_of (i := 467) (by decide +kernel) rfl
theorem gf_X9_312 (hi : i < 84) (hs : sw_s i = (0, 6)) (hd : decode cc pc = .ok (.getfield 312, 3)) (k : sw_Go l E K RX9 cc nL ret (pc + 3) lv (.int (σ.1 i 0) :: st) σ r σ') : sw_Go l E K RX9 cc nL ret pc lv (.ref i :: st) σ r σ' := sw_get (ci := 6) (k0 := 0) rfl sw_in6 (by decide) lk_X9_312 rfl hi hs hd k
theorem pf_X9_312 {x : Int32} (hi : i < 84) (hs : sw_s i = (0, 6)) (hd : decode cc pc = .ok (.putfield 312, 3)) (k : sw_Go l E K RX9 cc nL ret (pc + 3) lv st (sw_w σ i 0 x) r σ') : sw_Go l E K RX9 cc nL ret pc lv (.int x :: .ref i :: st) σ r σ' := sw_putI (ci := 6) (k0 := 0) tyX6 rfl sw_in6 tyX6_ok nmX6 (by decide) lk_X9_312 rfl (tyX6_ok 0 (by decide)) rfl hi hs rfl rfl hd k
theorem lk_X9_315 : Cond.fieldLink RX9 315 (TX4 15).1 (TX4 15).2.1 (TX4 15).2.2.1 ∈ sw_T := sw_T_of (i := 314) (by decide +kernel) rfl
theorem gf_X9_315 (hi : i < 84) (hs : sw_s i = (0, 4)) (hd : decode cc pc = .ok (.getfield 315, 3)) (k : sw_Go l E K RX9 cc nL ret (pc + 3) lv (.ref (i + 7) :: st) σ r σ') : sw_Go l E K RX9 cc nL ret pc lv (.ref i :: st) σ r σ' := sw_get (ci := 4) (k0 := 15) rfl sw_in4 (by decide) lk_X9_315 rfl hi hs hd k
theorem lk_X9_319 : Cond.fieldLink RX9 319 (TX2 0).1 (TX2 0).2.1 (TX2 0).2.2.1 ∈ sw_T := sw_T_of (i := 251) (by decide +kernel) rfl
theorem gf_X9_319 (hi : i < 84) (hs : sw_s i = (0, 2)) (hd : decode cc pc = .ok (.getfield 319, 3)) (k : sw_Go l E K RX9 cc nL ret (pc + 3) lv (.int (σ.1 i 0) :: st) σ r σ') : sw_Go l E K RX9 cc nL ret pc lv (.ref i :: st) σ r σ' := sw_get (ci := 2) (k0 := 0) rfl sw_in2 (by decide) lk_X9_319 rfl hi hs hd k
theorem pf_X9_319 {x : Int32} (hi : i < 84) (hs : sw_s i = (0, 2)) (hd : decode cc pc = .ok (.putfield 319, 3)) (k : sw_Go l E K RX9 cc nL ret (pc + 3) lv st (sw_w σ i 0 x) r σ') : sw_Go l E K RX9 cc nL ret pc lv (.int x :: .ref i :: st) σ r σ' := sw_putI (ci := 2) (k0 := 0) tyX2 rfl sw_in2 tyX2_ok nmX2 (by decide) lk_X9_319 rfl (tyX2_ok 0 (by decide)) rfl hi hs rfl rfl hd k
theorem lk_X0_11 : Cond.fieldLink RX0 11 (TX0 0).1 (TX0 0).2.1 (TX0 0).2.2.1 ∈ sw_T := sw_T_of (i := 417) (by decide +kernel) rfl
theorem gf_X0_11 (hi : i < 84) (hs : sw_s i = (0, 0)) (hd : decode cc pc = .ok (.getfield 11, 3)) (k : sw_Go l E K RX0 cc nL ret (pc + 3) lv (.ref (i + 1) :: st) σ r σ') : sw_Go l E K RX0 cc nL ret pc lv (.ref i :: st) σ r σ' := sw_get (ci := 0) (k0 := 0) rfl sw_in0 (by decide) lk_X0_11 rfl hi hs hd k
theorem lk_X0_15 : Cond.fieldLink RX0 15 (TX0 1).1 (TX0 1).2.1 (TX0 1).2.2.1 ∈ sw_T := sw_T_of (i := 418) (by decide +kernel) rfl
theorem gf_X0_15 (hi : i < 84) (hs : sw_s i = (0, 0)) (hd : decode cc pc = .ok (.getfield 15, 3)) (k : sw_Go l E K RX0 cc nL ret (pc + 3) lv (.int (σ.1 i 1) :: st) σ r σ') : sw_Go l E K RX0 cc nL ret pc lv (.ref i :: st) σ r σ' := sw_get (ci := 0) (k0 := 1) rfl sw_in0 (by decide) lk_X0_15 rfl hi hs hd k
theorem pf_X0_15 {x : Int32} (hi : i < 84) (hs : sw_s i = (0, 0)) (hd : decode cc pc = .ok (.putfield 15, 3)) (k : sw_Go l E K RX0 cc nL ret (pc + 3) lv st (sw_w σ i 1 x) r σ') : sw_Go l E K RX0 cc nL ret pc lv (.int x :: .ref i :: st) σ r σ' := sw_putI (ci := 0) (k0 := 1) tyX0 rfl sw_in0 tyX0_ok nmX0 (by decide) lk_X0_15 rfl (tyX0_ok 1 (by decide)) rfl hi hs rfl rfl hd k
theorem lk_X0_19 : Cond.fieldLink RX0 19 (TX0 2).1 (TX0 2).2.1 (TX0 2).2.2.1 ∈ sw_T := sw_T_of (i := 419) (by decide +kernel) rfl
theorem gf_X0_19 (hi : i < 84) (hs : sw_s i = (0, 0)) (hd : decode cc pc = .ok (.getfield 19, 3)) (k : sw_Go l E K RX0 cc nL ret (pc + 3) lv (.int (σ.1 i 2) :: st) σ r σ') : sw_Go l E K RX0 cc nL ret pc lv (.ref i :: st) σ r σ' := sw_get (ci := 0) (k0 := 2) rfl sw_in0 (by decide) lk_X0_19 rfl hi hs hd k
theorem pf_X0_19 {x : Int32} (hi : i < 84) (hs : sw_s i = (0, 0)) (hd : decode cc pc = .ok (.putfield 19, 3)) (k : sw_Go l E K RX0 cc nL ret (pc + 3) lv st (sw_w σ i 2 x) r σ') : sw_Go l E K RX0 cc nL ret pc lv (.int x :: .ref i :: st) σ r σ' := sw_putI (ci := 0) (k0 := 2) tyX0 rfl sw_in0 tyX0_ok nmX0 (by decide) lk_X0_19 rfl (tyX0_ok 2 (by decide)) rfl hi hs rfl rfl hd k
theorem lk_X1_9 : Cond.fieldLink RX1 9 (TX1 0).1 (TX1 0).2.1 (TX1 0).2.2.1 ∈ sw_T := sw_T_of (i := 433) (by decide +kernel) rfl
theorem gf_X1_9 (hi : i < 84) (hs : sw_s i = (0, 1)) (hd : decode cc pc = .ok (.getfield 9, 3)) (k : sw_Go l E K RX1 cc nL ret (pc + 3) lv (.ref (i + 1) :: st) σ r σ') : sw_Go l E K RX1 cc nL ret pc lv (.ref i :: st) σ r σ' := sw_get (ci := 1) (k0 := 0) rfl sw_in1 (by decide) lk_X1_9 rfl hi hs hd k
theorem lk_X1_15 : Cond.fieldLink RX1 15 (TX1 1).1 (TX1 1).2.1 (TX1 1).2.2.1 ∈ sw_T := sw_T_of (i := 435) (by decide +kernel) rfl
theorem gf_X1_15 (hi : i < 84) (hs : sw_s i = (0, 1)) (hd : decode cc pc = .ok (.getfield 15, 3)) (k : sw_Go l E K RX1 cc nL ret (pc + 3) lv (.ref (i + 2) :: st) σ r σ') : sw_Go l E K RX1 cc nL ret pc lv (.ref i :: st) σ r σ' := sw_get (ci := 1) (k0 := 1) rfl sw_in1 (by decide) lk_X1_15 rfl hi hs hd k
theorem lk_X2_11 : Cond.fieldLink RX2 11 (TX2 3).1 (TX2 3).2.1 (TX2 3).2.2.1 ∈ sw_T := sw_T_of (i := 255) (by decide +kernel) rfl
theorem gf_X2_11 (hi : i < 84) (hs : sw_s i = (0, 2)) (hd : decode cc pc = .ok (.getfield 11, 3)) (k : sw_Go l E K RX2 cc nL ret (pc + 3) lv (.ref (i + 1) :: st) σ r σ') : sw_Go l E K RX2 cc nL ret pc lv (.ref i :: st) σ r σ' := sw_get (ci := 2) (k0 := 3) rfl sw_in2 (by decide) lk_X2_11 rfl hi hs hd k
theorem lk_X2_15 : Cond.fieldLink RX2 15 (TX2 4).1 (TX2 4).2.1 (TX2 4).2.2.1 ∈ sw_T := sw_T_of (i := 256) (by decide +kernel) rfl
theorem gf_X2_15 (hi : i < 84) (hs : sw_s i = (0, 2)) (hd : decode cc pc = .ok (.getfield 15, 3)) (k : sw_Go l E K RX2 cc nL ret (pc + 3) lv (.ref (i + 2) :: st) σ r σ') : sw_Go l E K RX2 cc nL ret pc lv (.ref i :: st) σ r σ' := sw_get (ci := 2) (k0 := 4) rfl sw_in2 (by decide) lk_X2_15 rfl hi hs hd k
theorem lk_X2_18 : Cond.fieldLink RX2 18 (TX2 5).1 (TX2 5).2.1 (TX2 5).2.2.1 ∈ sw_T := sw_T_of (i := 257) (by decide +kernel) rfl
theorem gf_X2_18 (hi : i < 84) (hs : sw_s i = (0, 2)) (hd : decode cc pc = .ok (.getfield 18, 3)) (k : sw_Go l E K RX2 cc nL ret (pc + 3) lv (.ref (i + 3) :: st) σ r σ') : sw_Go l E K RX2 cc nL ret pc lv (.ref i :: st) σ r σ' := sw_get (ci := 2) (k0 := 5) rfl sw_in2 (by decide) lk_X2_18 rfl hi hs hd k
theorem lk_X2_21 : Cond.fieldLink RX2 21 (TX2 0).1 (TX2 0).2.1 (TX2 0).2.2.1 ∈ sw_T := sw_T_of (i := 249) (by decide +kernel) rfl
theorem gf_X2_21 (hi : i < 84) (hs : sw_s i = (0, 2)) (hd : decode cc pc = .ok (.getfield 21, 3)) (k : sw_Go l E K RX2 cc nL ret (pc + 3) lv (.int (σ.1 i 0) :: st) σ r σ') : sw_Go l E K RX2 cc nL ret pc lv (.ref i :: st) σ r σ' := sw_get (ci := 2) (k0 := 0) rfl sw_in2 (by decide) lk_X2_21 rfl hi hs hd k
theorem pf_X2_21 {x : Int32} (hi : i < 84) (hs : sw_s i = (0, 2)) (hd : decode cc pc = .ok (.putfield 21, 3)) (k : sw_Go l E K RX2 cc nL ret (pc + 3) lv st (sw_w σ i 0 x) r σ') : sw_Go l E K RX2 cc nL ret pc lv (.int x :: .ref i :: st) σ r σ' := sw_putI (ci := 2) (k0 := 0) tyX2 rfl sw_in2 tyX2_ok nmX2 (by decide) lk_X2_21 rfl (tyX2_ok 0 (by decide)) rfl hi hs rfl rfl hd k
theorem lk_X2_25 : Cond.fieldLink RX2 25 (TX2 2).1 (TX2 2).2.1 (TX2 2).2.2.1 ∈ sw_T := sw_T_of (i := 254) (by decide +kernel) rfl
theorem gf_X2_25 (hi : i < 84) (hs : sw_s i = (0, 2)) (hd : decode cc pc = .ok (.getfield 25, 3)) (k : sw_Go l E K RX2 cc nL ret (pc + 3) lv (.int (σ.1 i 2) :: st) σ r σ') : sw_Go l E K RX2 cc nL ret pc lv (.ref i :: st) σ r σ' := sw_get (ci := 2) (k0 := 2) rfl sw_in2 (by decide) lk_X2_25 rfl hi hs hd k
theorem pf_X2_25 {x : Int32} (hi : i < 84) (hs : sw_s i = (0, 2)) (hd : decode cc pc = .ok (.putfield 25, 3)) (k : sw_Go l E K RX2 cc nL ret (pc + 3) lv st (sw_w σ i 2 x) r σ') : sw_Go l E K RX2 cc nL ret pc lv (.int x :: .ref i :: st) σ r σ' := sw_putI (ci := 2) (k0 := 2) tyX2 rfl sw_in2 tyX2_ok nmX2 (by decide) lk_X2_25 rfl (tyX2_ok 2 (by decide)) rfl hi hs rfl rfl hd k
theorem lk_X2_28 : Cond.fieldLink RX2 28 (TX2 1).1 (TX2 1).2.1 (TX2 1).2.2.1 ∈ sw_T := sw_T_of (i := 252) (by decide +kernel) rfl
theorem gf_X2_28 (hi : i < 84) (hs : sw_s i = (0, 2)) (hd : decode cc pc = .ok (.getfield 28, 3)) (k : sw_Go l E K RX2 cc nL ret (pc + 3) lv (.int (σ.1 i 1) :: st) σ r σ') : sw_Go l E K RX2 cc nL ret pc lv (.ref i :: st) σ r σ' := sw_get (ci := 2) (k0 := 1) rfl sw_in2 (by decide) lk_X2_28 rfl hi hs hd k
theorem pf_X2_28 {x : Int32} (hb : x = 0 ∨ x = 1) (hi : i < 84) (hs : sw_s i = (0, 2)) (hd : decode cc pc = .ok (.putfield 28, 3)) (k : sw_Go l E K RX2 cc nL ret (pc + 3) lv st (sw_w σ i 1 x) r σ') : sw_Go l E K RX2 cc nL ret pc lv (.int x :: .ref i :: st) σ r σ' := sw_putI (ci := 2) (k0 := 1) tyX2 rfl sw_in2 tyX2_ok nmX2 (by decide) lk_X2_28 rfl (tyX2_ok 1 (by decide)) rfl hi hs (sw_bo_n hb) (sw_bo_f hb) hd k
theorem lk_X2_40 : Cond.fieldLink RX2 40 (TX8 0).1 (TX8 0).2.1 (TX8 0).2.2.1 ∈ sw_T := sw_T_of (i := 378) (by decide +kernel) rfl
theorem gf_X2_40 (hi : i < 84) (hs : sw_s i = (0, 8)) (hd : decode cc pc = .ok (.getfield 40, 3)) (k : sw_Go l E K RX2 cc nL ret (pc + 3) lv (.ref (i + 1) :: st) σ r σ') : sw_Go l E K RX2 cc nL ret pc lv (.ref i :: st) σ r σ' := sw_get (ci := 8) (k0 := 0) rfl sw_in8 (by decide) lk_X2_40 rfl hi hs hd k
theorem lk_X2_54 : Cond.fieldLink RX2 54 (TX8 1).1 (TX8 1).2.1 (TX8 1).2.2.1 ∈ sw_T := sw_T_of (i := 382) (by decide +kernel) rfl
theorem gf_X2_54 (hi : i < 84) (hs : sw_s i = (0, 8)) (hd : decode cc pc = .ok (.getfield 54, 3)) (k : sw_Go l E K RX2 cc nL ret (pc + 3) lv (.int (σ.1 i 1) :: st) σ r σ') : sw_Go l E K RX2 cc nL ret pc lv (.ref i :: st) σ r σ' := sw_get (ci := 8) (k0 := 1) rfl sw_in8 (by decide) lk_X2_54 rfl hi hs hd k
theorem pf_X2_54 {x : Int32} (hi : i < 84) (hs : sw_s i = (0, 8)) (hd : decode cc pc = .ok (.putfield 54, 3)) (k : sw_Go l E K RX2 cc nL ret (pc + 3) lv st (sw_w σ i 1 x) r σ') : sw_Go l E K RX2 cc nL ret pc lv (.int x :: .ref i :: st) σ r σ' := sw_putI (ci := 8) (k0 := 1) tyX8 rfl sw_in8 tyX8_ok nmX8 (by decide) lk_X2_54 rfl (tyX8_ok 1 (by decide)) rfl hi hs rfl rfl hd k
theorem lk_X2_63 : Cond.fieldLink RX2 63 (TX8 4).1 (TX8 4).2.1 (TX8 4).2.2.1 ∈ sw_T := sw_T_of (i := 392) (by decide +kernel) rfl
theorem gf_X2_63 (hi : i < 84) (hs : sw_s i = (0, 8)) (hd : decode cc pc = .ok (.getfield 63, 3)) (k : sw_Go l E K RX2 cc nL ret (pc + 3) lv (.int (σ.1 i 4) :: st) σ r σ') : sw_Go l E K RX2 cc nL ret pc lv (.ref i :: st) σ r σ' := sw_get (ci := 8) (k0 := 4) rfl sw_in8 (by decide) lk_X2_63 rfl hi hs hd k
theorem pf_X2_63 {x : Int32} (hi : i < 84) (hs : sw_s i = (0, 8)) (hd : decode cc pc = .ok (.putfield 63, 3)) (k : sw_Go l E K RX2 cc nL ret (pc + 3) lv st (sw_w σ i 4 x) r σ') : sw_Go l E K RX2 cc nL ret pc lv (.int x :: .ref i :: st) σ r σ' := sw_putI (ci := 8) (k0 := 4) tyX8 rfl sw_in8 tyX8_ok nmX8 (by decide) lk_X2_63 rfl (tyX8_ok 4 (by decide)) rfl hi hs rfl rfl hd k
theorem lk_X3_12 : Cond.fieldLink RX3 12 (TX3 0).1 (TX3 0).2.1 (TX3 0).2.2.1 ∈ sw_T := sw_T_of (i := 450) (by decide +kernel) rfl
theorem gf_X3_12 (hi : i < 84) (hs : sw_s i = (0, 3)) (hd : decode cc pc = .ok (.getfield 12, 3)) (k : sw_Go l E K RX3 cc nL ret (pc + 3) lv (.ref (i + 1) :: st) σ r σ') : sw_Go l E K RX3 cc nL ret pc lv (.ref i :: st) σ r σ' := sw_get (ci := 3) (k0 := 0) rfl sw_in3 (by decide) lk_X3_12 rfl hi hs hd k
theorem lk_X3_18 : Cond.fieldLink RX3 18 (TX3 1).1 (TX3 1).2.1 (TX3 1).2.2.1 ∈ sw_T := sw_T_of (i := 451) (by decide +kernel) rfl
theorem gf_X3_18 (hi : i < 84) (hs : sw_s i = (0, 3)) (hd : decode cc pc = .ok (.getfield 18, 3)) (k : sw_Go l E K RX3 cc nL ret (pc + 3) lv (.ref (i + 3) :: st) σ r σ') : sw_Go l E K RX3 cc nL ret pc lv (.ref i :: st) σ r σ' := sw_get (ci := 3) (k0 := 1) rfl sw_in3 (by decide) lk_X3_18 rfl hi hs hd k
theorem lk_X3_22 : Cond.fieldLink RX3 22 (TX3 2).1 (TX3 2).2.1 (TX3 2).2.2.1 ∈ sw_T := sw_T_of (i := 452) (by decide +kernel) rfl
theorem gf_X3_22 (hi : i < 84) (hs : sw_s i = (0, 3)) (hd : decode cc pc = .ok (.getfield 22, 3)) (k : sw_Go l E K RX3 cc nL ret (pc + 3) lv (.ref (i + 4) :: st) σ r σ') : sw_Go l E K RX3 cc nL ret pc lv (.ref i :: st) σ r σ' := sw_get (ci := 3) (k0 := 2) rfl sw_in3 (by decide) lk_X3_22 rfl hi hs hd k
theorem lk_X3_35 : Cond.fieldLink RX3 35 (TX8 0).1 (TX8 0).2.1 (TX8 0).2.2.1 ∈ sw_T := sw_T_of (i := 377) (by decide +kernel) rfl
theorem gf_X3_35 (hi : i < 84) (hs : sw_s i = (0, 8)) (hd : decode cc pc = .ok (.getfield 35, 3)) (k : sw_Go l E K RX3 cc nL ret (pc + 3) lv (.ref (i + 1) :: st) σ r σ') : sw_Go l E K RX3 cc nL ret pc lv (.ref i :: st) σ r σ' := sw_get (ci := 8) (k0 := 0) rfl sw_in8 (by decide) lk_X3_35 rfl hi hs hd k
theorem lk_X3_42 : Cond.fieldLink RX3 42 (TX8 4).1 (TX8 4).2.1 (TX8 4).2.2.1 ∈ sw_T := sw_T_of (i := 391) (by decide +kernel) rfl
theorem gf_X3_42 (hi : i < 84) (hs : sw_s i = (0, 8)) (hd : decode cc pc = .ok (.getfield 42, 3)) (k : sw_Go l E K RX3 cc nL ret (pc + 3) lv (.int (σ.1 i 4) :: st) σ r σ') : sw_Go l E K RX3 cc nL ret pc lv (.ref i :: st) σ r σ' := sw_get (ci := 8) (k0 := 4) rfl sw_in8 (by decide) lk_X3_42 rfl hi hs hd k
theorem pf_X3_42 {x : Int32} (hi : i < 84) (hs : sw_s i = (0, 8)) (hd : decode cc pc = .ok (.putfield 42, 3)) (k : sw_Go l E K RX3 cc nL ret (pc + 3) lv st (sw_w σ i 4 x) r σ') : sw_Go l E K RX3 cc nL ret pc lv (.int x :: .ref i :: st) σ r σ' := sw_putI (ci := 8) (k0 := 4) tyX8 rfl sw_in8 tyX8_ok nmX8 (by decide) lk_X3_42 rfl (tyX8_ok 4 (by decide)) rfl hi hs rfl rfl hd k
theorem lk_X3_50 : Cond.fieldLink RX3 50 (TX4 15).1 (TX4 15).2.1 (TX4 15).2.2.1 ∈ sw_T := sw_T_of (i := 312) (by decide +kernel) rfl
theorem gf_X3_50 (hi : i < 84) (hs : sw_s i = (0, 4)) (hd : decode cc pc = .ok (.getfield 50, 3)) (k : sw_Go l E K RX3 cc nL ret (pc + 3) lv (.ref (i + 7) :: st) σ r σ') : sw_Go l E K RX3 cc nL ret pc lv (.ref i :: st) σ r σ' := sw_get (ci := 4) (k0 := 15) rfl sw_in4 (by decide) lk_X3_50 rfl hi hs hd k
theorem lk_X3_54 : Cond.fieldLink RX3 54 (TX2 1).1 (TX2 1).2.1 (TX2 1).2.2.1 ∈ sw_T := sw_T_of (i := 253) (by decide +kernel) rfl
theorem gf_X3_54 (hi : i < 84) (hs : sw_s i = (0, 2)) (hd : decode cc pc = .ok (.getfield 54, 3)) (k : sw_Go l E K RX3 cc nL ret (pc + 3) lv (.int (σ.1 i 1) :: st) σ r σ') : sw_Go l E K RX3 cc nL ret pc lv (.ref i :: st) σ r σ' := sw_get (ci := 2) (k0 := 1) rfl sw_in2 (by decide) lk_X3_54 rfl hi hs hd k
theorem pf_X3_54 {x : Int32} (hb : x = 0 ∨ x = 1) (hi : i < 84) (hs : sw_s i = (0, 2)) (hd : decode cc pc = .ok (.putfield 54, 3)) (k : sw_Go l E K RX3 cc nL ret (pc + 3) lv st (sw_w σ i 1 x) r σ') : sw_Go l E K RX3 cc nL ret pc lv (.int x :: .ref i :: st) σ r σ' := sw_putI (ci := 2) (k0 := 1) tyX2 rfl sw_in2 tyX2_ok nmX2 (by decide) lk_X3_54 rfl (tyX2_ok 1 (by decide)) rfl hi hs (sw_bo_n hb) (sw_bo_f hb) hd k
theorem lk_X3_68 : Cond.fieldLink RX3 68 (TX4 2).1 (TX4 2).2.1 (TX4 2).2.2.1 ∈ sw_T := sw_T_of (i := 280) (by decide +kernel) rfl
theorem gf_X3_68 (hi : i < 84) (hs : sw_s i = (0, 4)) (hd : decode cc pc = .ok (.getfield 68, 3)) (k : sw_Go l E K RX3 cc nL ret (pc + 3) lv (.int (σ.1 i 2) :: st) σ r σ') : sw_Go l E K RX3 cc nL ret pc lv (.ref i :: st) σ r σ' := sw_get (ci := 4) (k0 := 2) rfl sw_in4 (by decide) lk_X3_68 rfl hi hs hd k
theorem pf_X3_68 {x : Int32} (hi : i < 84) (hs : sw_s i = (0, 4)) (hd : decode cc pc = .ok (.putfield 68, 3)) (k : sw_Go l E K RX3 cc nL ret (pc + 3) lv st (sw_w σ i 2 x) r σ') : sw_Go l E K RX3 cc nL ret pc lv (.int x :: .ref i :: st) σ r σ' := sw_putI (ci := 4) (k0 := 2) tyX4 rfl sw_in4 tyX4_ok nmX4 (by decide) lk_X3_68 rfl (tyX4_ok 2 (by decide)) rfl hi hs rfl rfl hd k
theorem lk_X4_9 : Cond.fieldLink RX4 9 (TX4 9).1 (TX4 9).2.1 (TX4 9).2.2.1 ∈ sw_T := sw_T_of (i := 299) (by decide +kernel) rfl
theorem gf_X4_9 (hi : i < 84) (hs : sw_s i = (0, 4)) (hd : decode cc pc = .ok (.getfield 9, 3)) (k : sw_Go l E K RX4 cc nL ret (pc + 3) lv (.ref (i + 1) :: st) σ r σ') : sw_Go l E K RX4 cc nL ret pc lv (.ref i :: st) σ r σ' := sw_get (ci := 4) (k0 := 9) rfl sw_in4 (by decide) lk_X4_9 rfl hi hs hd k
theorem lk_X4_15 : Cond.fieldLink RX4 15 (TX4 10).1 (TX4 10).2.1 (TX4 10).2.2.1 ∈ sw_T := sw_T_of (i := 301) (by decide +kernel) rfl
theorem gf_X4_15 (hi : i < 84) (hs : sw_s i = (0, 4)) (hd : decode cc pc = .ok (.getfield 15, 3)) (k : sw_Go l E K RX4 cc nL ret (pc + 3) lv (.ref (i + 2) :: st) σ r σ') : sw_Go l E K RX4 cc nL ret pc lv (.ref i :: st) σ r σ' := sw_get (ci := 4) (k0 := 10) rfl sw_in4 (by decide) lk_X4_15 rfl hi hs hd k
theorem lk_X4_18 : Cond.fieldLink RX4 18 (TX4 11).1 (TX4 11).2.1 (TX4 11).2.2.1 ∈ sw_T := sw_T_of (i := 303) (by decide +kernel) rfl
theorem gf_X4_18 (hi : i < 84) (hs : sw_s i = (0, 4)) (hd : decode cc pc = .ok (.getfield 18, 3)) (k : sw_Go l E K RX4 cc nL ret (pc + 3) lv (.ref (i + 3) :: st) σ r σ') : sw_Go l E K RX4 cc nL ret pc lv (.ref i :: st) σ r σ' := sw_get (ci := 4) (k0 := 11) rfl sw_in4 (by decide) lk_X4_18 rfl hi hs hd k
theorem lk_X4_21 : Cond.fieldLink RX4 21 (TX4 12).1 (TX4 12).2.1 (TX4 12).2.2.1 ∈ sw_T := sw_T_of (i := 305) (by decide +kernel) rfl
theorem gf_X4_21 (hi : i < 84) (hs : sw_s i = (0, 4)) (hd : decode cc pc = .ok (.getfield 21, 3)) (k : sw_Go l E K RX4 cc nL ret (pc + 3) lv (.ref (i + 4) :: st) σ r σ') : sw_Go l E K RX4 cc nL ret pc lv (.ref i :: st) σ r σ' := sw_get (ci := 4) (k0 := 12) rfl sw_in4 (by decide) lk_X4_21 rfl hi hs hd k
theorem lk_X4_25 : Cond.fieldLink RX4 25 (TX4 13).1 (TX4 13).2.1 (TX4 13).2.2.1 ∈ sw_T := sw_T_of (i := 307) (by decide +kernel) rfl
theorem gf_X4_25 (hi : i < 84) (hs : sw_s i = (0, 4)) (hd : decode cc pc = .ok (.getfield 25, 3)) (k : sw_Go l E K RX4 cc nL ret (pc + 3) lv (.ref (i + 5) :: st) σ r σ') : sw_Go l E K RX4 cc nL ret pc lv (.ref i :: st) σ r σ' := sw_get (ci := 4) (k0 := 13) rfl sw_in4 (by decide) lk_X4_25 rfl hi hs hd k
theorem lk_X4_28 : Cond.fieldLink RX4 28 (TX4 14).1 (TX4 14).2.1 (TX4 14).2.2.1 ∈ sw_T := sw_T_of (i := 309) (by decide +kernel) rfl
theorem gf_X4_28 (hi : i < 84) (hs : sw_s i = (0, 4)) (hd : decode cc pc = .ok (.getfield 28, 3)) (k : sw_Go l E K RX4 cc nL ret (pc + 3) lv (.ref (i + 6) :: st) σ r σ') : sw_Go l E K RX4 cc nL ret pc lv (.ref i :: st) σ r σ' := sw_get (ci := 4) (k0 := 14) rfl sw_in4 (by decide) lk_X4_28 rfl hi hs hd k
theorem lk_X4_34 : Cond.fieldLink RX4 34 (TX4 15).1 (TX4 15).2.1 (TX4 15).2.2.1 ∈ sw_T := sw_T_of (i := 311) (by decide +kernel) rfl
theorem gf_X4_34 (hi : i < 84) (hs : sw_s i = (0, 4)) (hd : decode cc pc = .ok (.getfield 34, 3)) (k : sw_Go l E K RX4 cc nL ret (pc + 3) lv (.ref (i + 7) :: st) σ r σ') : sw_Go l E K RX4 cc nL ret pc lv (.ref i :: st) σ r σ' := sw_get (ci := 4) (k0 := 15) rfl sw_in4 (by decide) lk_X4_34 rfl hi hs hd k
theorem lk_X4_38 : Cond.fieldLink RX4 38 (TX4 0).1 (TX4 0).2.1 (TX4 0).2.2.1 ∈ sw_T := sw_T_of (i := 272) (by decide +kernel) rfl
theorem gf_X4_38 (hi : i < 84) (hs : sw_s i = (0, 4)) (hd : decode cc pc = .ok (.getfield 38, 3)) (k : sw_Go l E K RX4 cc nL ret (pc + 3) lv (.int (σ.1 i 0) :: st) σ r σ') : sw_Go l E K RX4 cc nL ret pc lv (.ref i :: st) σ r σ' := sw_get (ci := 4) (k0 := 0) rfl sw_in4 (by decide) lk_X4_38 rfl hi hs hd k
theorem pf_X4_38 {x : Int32} (hi : i < 84) (hs : sw_s i = (0, 4)) (hd : decode cc pc = .ok (.putfield 38, 3)) (k : sw_Go l E K RX4 cc nL ret (pc + 3) lv st (sw_w σ i 0 x) r σ') : sw_Go l E K RX4 cc nL ret pc lv (.int x :: .ref i :: st) σ r σ' := sw_putI (ci := 4) (k0 := 0) tyX4 rfl sw_in4 tyX4_ok nmX4 (by decide) lk_X4_38 rfl (tyX4_ok 0 (by decide)) rfl hi hs rfl rfl hd k
theorem lk_X4_42 : Cond.fieldLink RX4 42 (TX4 1).1 (TX4 1).2.1 (TX4 1).2.2.1 ∈ sw_T := sw_T_of (i := 275) (by decide +kernel) rfl
theorem gf_X4_42 (hi : i < 84) (hs : sw_s i = (0, 4)) (hd : decode cc pc = .ok (.getfield 42, 3)) (k : sw_Go l E K RX4 cc nL ret (pc + 3) lv (.int (σ.1 i 1) :: st) σ r σ') : sw_Go l E K RX4 cc nL ret pc lv (.ref i :: st) σ r σ' := sw_get (ci := 4) (k0 := 1) rfl sw_in4 (by decide) lk_X4_42 rfl hi hs hd k
theorem pf_X4_42 {x : Int32} (hi : i < 84) (hs : sw_s i = (0, 4)) (hd : decode cc pc = .ok (.putfield 42, 3)) (k : sw_Go l E K RX4 cc nL ret (pc + 3) lv st (sw_w σ i 1 x) r σ') : sw_Go l E K RX4 cc nL ret pc lv (.int x :: .ref i :: st) σ r σ' := sw_putI (ci := 4) (k0 := 1) tyX4 rfl sw_in4 tyX4_ok nmX4 (by decide) lk_X4_42 rfl (tyX4_ok 1 (by decide)) rfl hi hs rfl rfl hd k
theorem lk_X4_45 : Cond.fieldLink RX4 45 (TX4 2).1 (TX4 2).2.1 (TX4 2).2.2.1 ∈ sw_T := sw_T_of (i := 279) (by decide +kernel) rfl
theorem gf_X4_45 (hi : i < 84) (hs : sw_s i = (0, 4)) (hd : decode cc pc = .ok (.getfield 45, 3)) (k : sw_Go l E K RX4 cc nL ret (pc + 3) lv (.int (σ.1 i 2) :: st) σ r σ') : sw_Go l E K RX4 cc nL ret pc lv (.ref i :: st) σ r σ' := sw_get (ci := 4) (k0 := 2) rfl sw_in4 (by decide) lk_X4_45 rfl hi hs hd k
theorem pf_X4_45 {x : Int32} (hi : i < 84) (hs : sw_s i = (0, 4)) (hd : decode cc pc = .ok (.putfield 45, 3)) (k : sw_Go l E K RX4 cc nL ret (pc + 3) lv st (sw_w σ i 2 x) r σ') : sw_Go l E K RX4 cc nL ret pc lv (.int x :: .ref i :: st) σ r σ' := sw_putI (ci := 4) (k0 := 2) tyX4 rfl sw_in4 tyX4_ok nmX4 (by decide) lk_X4_45 rfl (tyX4_ok 2 (by decide)) rfl hi hs rfl rfl hd k
theorem lk_X4_48 : Cond.fieldLink RX4 48 (TX4 3).1 (TX4 3).2.1 (TX4 3).2.2.1 ∈ sw_T := sw_T_of (i := 283) (by decide +kernel) rfl
theorem gf_X4_48 (hi : i < 84) (hs : sw_s i = (0, 4)) (hd : decode cc pc = .ok (.getfield 48, 3)) (k : sw_Go l E K RX4 cc nL ret (pc + 3) lv (.int (σ.1 i 3) :: st) σ r σ') : sw_Go l E K RX4 cc nL ret pc lv (.ref i :: st) σ r σ' := sw_get (ci := 4) (k0 := 3) rfl sw_in4 (by decide) lk_X4_48 rfl hi hs hd k
theorem pf_X4_48 {x : Int32} (hi : i < 84) (hs : sw_s i = (0, 4)) (hd : decode cc pc = .ok (.putfield 48, 3)) (k : sw_Go l E K RX4 cc nL ret (pc + 3) lv st (sw_w σ i 3 x) r σ') : sw_Go l E K RX4 cc nL ret pc lv (.int x :: .ref i :: st) σ r σ' := sw_putI (ci := 4) (k0 := 3) tyX4 rfl sw_in4 tyX4_ok nmX4 (by decide) lk_X4_48 rfl (tyX4_ok 3 (by decide)) rfl hi hs rfl rfl hd k
theorem lk_X4_51 : Cond.fieldLink RX4 51 (TX4 4).1 (TX4 4).2.1 (TX4 4).2.2.1 ∈ sw_T := sw_T_of (i := 286) (by decide +kernel) rfl
theorem gf_X4_51 (hi : i < 84) (hs : sw_s i = (0, 4)) (hd : decode cc pc = .ok (.getfield 51, 3)) (k : sw_Go l E K RX4 cc nL ret (pc + 3) lv (.int (σ.1 i 4) :: st) σ r σ') : sw_Go l E K RX4 cc nL ret pc lv (.ref i :: st) σ r σ' := sw_get (ci := 4) (k0 := 4) rfl sw_in4 (by decide) lk_X4_51 rfl hi hs hd k
theorem pf_X4_51 {x : Int32} (hi : i < 84) (hs : sw_s i = (0, 4)) (hd : decode cc pc = .ok (.putfield 51, 3)) (k : sw_Go l E K RX4 cc nL ret (pc + 3) lv st (sw_w σ i 4 x) r σ') : sw_Go l E K RX4 cc nL ret pc lv (.int x :: .ref i :: st) σ r σ' := sw_putI (ci := 4) (k0 := 4) tyX4 rfl sw_in4 tyX4_ok nmX4 (by decide) lk_X4_51 rfl (tyX4_ok 4 (by decide)) rfl hi hs rfl rfl hd k
theorem lk_X4_54 : Cond.fieldLink RX4 54 (TX4 5).1 (TX4 5).2.1 (TX4 5).2.2.1 ∈ sw_T := sw_T_of (i := 289) (by decide +kernel) rfl
theorem gf_X4_54 (hi : i < 84) (hs : sw_s i = (0, 4)) (hd : decode cc pc = .ok (.getfield 54, 3)) (k : sw_Go l E K RX4 cc nL ret (pc + 3) lv (.int (σ.1 i 5) :: st) σ r σ') : sw_Go l E K RX4 cc nL ret pc lv (.ref i :: st) σ r σ' := sw_get (ci := 4) (k0 := 5) rfl sw_in4 (by decide) lk_X4_54 rfl hi hs hd k
theorem pf_X4_54 {x : Int32} (hi : i < 84) (hs : sw_s i = (0, 4)) (hd : decode cc pc = .ok (.putfield 54, 3)) (k : sw_Go l E K RX4 cc nL ret (pc + 3) lv st (sw_w σ i 5 x) r σ') : sw_Go l E K RX4 cc nL ret pc lv (.int x :: .ref i :: st) σ r σ' := sw_putI (ci := 4) (k0 := 5) tyX4 rfl sw_in4 tyX4_ok nmX4 (by decide) lk_X4_54 rfl (tyX4_ok 5 (by decide)) rfl hi hs rfl rfl hd k
theorem lk_X4_57 : Cond.fieldLink RX4 57 (TX4 6).1 (TX4 6).2.1 (TX4 6).2.2.1 ∈ sw_T := sw_T_of (i := 292) (by decide +kernel) rfl
theorem gf_X4_57 (hi : i < 84) (hs : sw_s i = (0, 4)) (hd : decode cc pc = .ok (.getfield 57, 3)) (k : sw_Go l E K RX4 cc nL ret (pc + 3) lv (.int (σ.1 i 6) :: st) σ r σ') : sw_Go l E K RX4 cc nL ret pc lv (.ref i :: st) σ r σ' := sw_get (ci := 4) (k0 := 6) rfl sw_in4 (by decide) lk_X4_57 rfl hi hs hd k
theorem pf_X4_57 {x : Int32} (hb : x = 0 ∨ x = 1) (hi : i < 84) (hs : sw_s i = (0, 4)) (hd : decode cc pc = .ok (.putfield 57, 3)) (k : sw_Go l E K RX4 cc nL ret (pc + 3) lv st (sw_w σ i 6 x) r σ') : sw_Go l E K RX4 cc nL ret pc lv (.int x :: .ref i :: st) σ r σ' := sw_putI (ci := 4) (k0 := 6) tyX4 rfl sw_in4 tyX4_ok nmX4 (by decide) lk_X4_57 rfl (tyX4_ok 6 (by decide)) rfl hi hs (sw_bo_n hb) (sw_bo_f hb) hd k
theorem lk_X4_61 : Cond.fieldLink RX4 61 (TX4 7).1 (TX4 7).2.1 (TX4 7).2.2.1 ∈ sw_T := sw_T_of (i := 294) (by decide +kernel) rfl
theorem gf_X4_61 (hi : i < 84) (hs : sw_s i = (0, 4)) (hd : decode cc pc = .ok (.getfield 61, 3)) (k : sw_Go l E K RX4 cc nL ret (pc + 3) lv (.int (σ.1 i 7) :: st) σ r σ') : sw_Go l E K RX4 cc nL ret pc lv (.ref i :: st) σ r σ' := sw_get (ci := 4) (k0 := 7) rfl sw_in4 (by decide) lk_X4_61 rfl hi hs hd k
theorem pf_X4_61 {x : Int32} (hb : x = 0 ∨ x = 1) (hi : i < 84) (hs : sw_s i = (0, 4)) (hd : decode cc pc = .ok (.putfield 61, 3)) (k : sw_Go l E K RX4 cc nL ret (pc + 3) lv st (sw_w σ i 7 x) r σ') : sw_Go l E K RX4 cc nL ret pc lv (.int x :: .ref i :: st) σ r σ' := sw_putI (ci := 4) (k0 := 7) tyX4 rfl sw_in4 tyX4_ok nmX4 (by decide) lk_X4_61 rfl (tyX4_ok 7 (by decide)) rfl hi hs (sw_bo_n hb) (sw_bo_f hb) hd k
theorem lk_X4_64 : Cond.fieldLink RX4 64 (TX4 8).1 (TX4 8).2.1 (TX4 8).2.2.1 ∈ sw_T := sw_T_of (i := 296) (by decide +kernel) rfl
theorem gf_X4_64 (hi : i < 84) (hs : sw_s i = (0, 4)) (hd : decode cc pc = .ok (.getfield 64, 3)) (k : sw_Go l E K RX4 cc nL ret (pc + 3) lv (.int (σ.1 i 8) :: st) σ r σ') : sw_Go l E K RX4 cc nL ret pc lv (.ref i :: st) σ r σ' := sw_get (ci := 4) (k0 := 8) rfl sw_in4 (by decide) lk_X4_64 rfl hi hs hd k
theorem pf_X4_64 {x : Int32} (hi : i < 84) (hs : sw_s i = (0, 4)) (hd : decode cc pc = .ok (.putfield 64, 3)) (k : sw_Go l E K RX4 cc nL ret (pc + 3) lv st (sw_w σ i 8 x) r σ') : sw_Go l E K RX4 cc nL ret pc lv (.int x :: .ref i :: st) σ r σ' := sw_putI (ci := 4) (k0 := 8) tyX4 rfl sw_in4 tyX4_ok nmX4 (by decide) lk_X4_64 rfl (tyX4_ok 8 (by decide)) rfl hi hs rfl rfl hd k
theorem lk_X4_80 : Cond.fieldLink RX4 80 (TX8 0).1 (TX8 0).2.1 (TX8 0).2.2.1 ∈ sw_T := sw_T_of (i := 380) (by decide +kernel) rfl
theorem gf_X4_80 (hi : i < 84) (hs : sw_s i = (0, 8)) (hd : decode cc pc = .ok (.getfield 80, 3)) (k : sw_Go l E K RX4 cc nL ret (pc + 3) lv (.ref (i + 1) :: st) σ r σ') : sw_Go l E K RX4 cc nL ret pc lv (.ref i :: st) σ r σ' := sw_get (ci := 8) (k0 := 0) rfl sw_in8 (by decide) lk_X4_80 rfl hi hs hd k
theorem lk_X4_88 : Cond.fieldLink RX4 88 (TX8 1).1 (TX8 1).2.1 (TX8 1).2.2.1 ∈ sw_T := sw_T_of (i := 383) (by decide +kernel) rfl
theorem gf_X4_88 (hi : i < 84) (hs : sw_s i = (0, 8)) (hd : decode cc pc = .ok (.getfield 88, 3)) (k : sw_Go l E K RX4 cc nL ret (pc + 3) lv (.int (σ.1 i 1) :: st) σ r σ') : sw_Go l E K RX4 cc nL ret pc lv (.ref i :: st) σ r σ' := sw_get (ci := 8) (k0 := 1) rfl sw_in8 (by decide) lk_X4_88 rfl hi hs hd k
theorem pf_X4_88 {x : Int32} (hi : i < 84) (hs : sw_s i = (0, 8)) (hd : decode cc pc = .ok (.putfield 88, 3)) (k : sw_Go l E K RX4 cc nL ret (pc + 3) lv st (sw_w σ i 1 x) r σ') : sw_Go l E K RX4 cc nL ret pc lv (.int x :: .ref i :: st) σ r σ' := sw_putI (ci := 8) (k0 := 1) tyX8 rfl sw_in8 tyX8_ok nmX8 (by decide) lk_X4_88 rfl (tyX8_ok 1 (by decide)) rfl hi hs rfl rfl hd k
theorem lk_X4_134 : Cond.fieldLink RX4 134 (TX8 4).1 (TX8 4).2.1 (TX8 4).2.2.1 ∈ sw_T := sw_T_of (i := 394) (by decide +kernel) rfl
theorem gf_X4_134 (hi : i < 84) (hs : sw_s i = (0, 8)) (hd : decode cc pc = .ok (.getfield 134, 3)) (k : sw_Go l E K RX4 cc nL ret (pc + 3) lv (.int (σ.1 i 4) :: st) σ r σ') : sw_Go l E K RX4 cc nL ret pc lv (.ref i :: st) σ r σ' := sw_get (ci := 8) (k0 := 4) rfl sw_in8 (by decide) lk_X4_134 rfl hi hs hd k
theorem pf_X4_134 {x : Int32} (hi : i < 84) (hs : sw_s i = (0, 8)) (hd : decode cc pc = .ok (.putfield 134, 3)) (k : sw_Go l E K RX4 cc nL ret (pc + 3) lv st (sw_w σ i 4 x) r σ') : sw_Go l E K RX4 cc nL ret pc lv (.int x :: .ref i :: st) σ r σ' := sw_putI (ci := 8) (k0 := 4) tyX8 rfl sw_in8 tyX8_ok nmX8 (by decide) lk_X4_134 rfl (tyX8_ok 4 (by decide)) rfl hi hs rfl rfl hd k
theorem lk_X4_141 : Cond.fieldLink RX4 141 (TX8 3).1 (TX8 3).2.1 (TX8 3).2.2.1 ∈ sw_T := sw_T_of (i := 388) (by decide +kernel) rfl
theorem gf_X4_141 (hi : i < 84) (hs : sw_s i = (0, 8)) (hd : decode cc pc = .ok (.getfield 141, 3)) (k : sw_Go l E K RX4 cc nL ret (pc + 3) lv (.int (σ.1 i 3) :: st) σ r σ') : sw_Go l E K RX4 cc nL ret pc lv (.ref i :: st) σ r σ' := sw_get (ci := 8) (k0 := 3) rfl sw_in8 (by decide) lk_X4_141 rfl hi hs hd k
theorem pf_X4_141 {x : Int32} (hi : i < 84) (hs : sw_s i = (0, 8)) (hd : decode cc pc = .ok (.putfield 141, 3)) (k : sw_Go l E K RX4 cc nL ret (pc + 3) lv st (sw_w σ i 3 x) r σ') : sw_Go l E K RX4 cc nL ret pc lv (.int x :: .ref i :: st) σ r σ' := sw_putI (ci := 8) (k0 := 3) tyX8 rfl sw_in8 tyX8_ok nmX8 (by decide) lk_X4_141 rfl (tyX8_ok 3 (by decide)) rfl hi hs rfl rfl hd k
theorem lk_X4_144 : Cond.fieldLink RX4 144 (TX8 5).1 (TX8 5).2.1 (TX8 5).2.2.1 ∈ sw_T := sw_T_of (i := 396) (by decide +kernel) rfl
theorem gf_X4_144 (hi : i < 84) (hs : sw_s i = (0, 8)) (hd : decode cc pc = .ok (.getfield 144, 3)) (k : sw_Go l E K RX4 cc nL ret (pc + 3) lv (.int (σ.1 i 5) :: st) σ r σ') : sw_Go l E K RX4 cc nL ret pc lv (.ref i :: st) σ r σ' := sw_get (ci := 8) (k0 := 5) rfl sw_in8 (by decide) lk_X4_144 rfl hi hs hd k
theorem pf_X4_144 {x : Int32} (hi : i < 84) (hs : sw_s i = (0, 8)) (hd : decode cc pc = .ok (.putfield 144, 3)) (k : sw_Go l E K RX4 cc nL ret (pc + 3) lv st (sw_w σ i 5 x) r σ') : sw_Go l E K RX4 cc nL ret pc lv (.int x :: .ref i :: st) σ r σ' := sw_putI (ci := 8) (k0 := 5) tyX8 rfl sw_in8 tyX8_ok nmX8 (by decide) lk_X4_144 rfl (tyX8_ok 5 (by decide)) rfl hi hs rfl rfl hd k
theorem lk_X5_12 : Cond.fieldLink RX5 12 (TX5 0).1 (TX5 0).2.1 (TX5 0).2.2.1 ∈ sw_T := sw_T_of (i := 348) (by decide +kernel) rfl
theorem gf_X5_12 (hi : i < 84) (hs : sw_s i = (0, 5)) (hd : decode cc pc = .ok (.getfield 12, 3)) (k : sw_Go l E K RX5 cc nL ret (pc + 3) lv (.ref (i + 1) :: st) σ r σ') : sw_Go l E K RX5 cc nL ret pc lv (.ref i :: st) σ r σ' := sw_get (ci := 5) (k0 := 0) rfl sw_in5 (by decide) lk_X5_12 rfl hi hs hd k
theorem lk_X5_21 : Cond.fieldLink RX5 21 (TX5 1).1 (TX5 1).2.1 (TX5 1).2.2.1 ∈ sw_T := sw_T_of (i := 350) (by decide +kernel) rfl
theorem gf_X5_21 (hi : i < 84) (hs : sw_s i = (0, 5)) (hd : decode cc pc = .ok (.getfield 21, 3)) (k : sw_Go l E K RX5 cc nL ret (pc + 3) lv (.ref (sw_pl (σ.2.2 1)) :: st) σ r σ') : sw_Go l E K RX5 cc nL ret pc lv (.ref i :: st) σ r σ' := sw_get (ci := 5) (k0 := 1) rfl sw_in5 (by decide) lk_X5_21 rfl hi hs hd k
theorem lk_X5_25 : Cond.fieldLink RX5 25 (TX5 3).1 (TX5 3).2.1 (TX5 3).2.2.1 ∈ sw_T := sw_T_of (i := 354) (by decide +kernel) rfl
theorem gf_X5_25 (hi : i < 84) (hs : sw_s i = (0, 5)) (hd : decode cc pc = .ok (.getfield 25, 3)) (k : sw_Go l E K RX5 cc nL ret (pc + 3) lv (.int (σ.1 i 3) :: st) σ r σ') : sw_Go l E K RX5 cc nL ret pc lv (.ref i :: st) σ r σ' := sw_get (ci := 5) (k0 := 3) rfl sw_in5 (by decide) lk_X5_25 rfl hi hs hd k
theorem pf_X5_25 {x : Int32} (hi : i < 84) (hs : sw_s i = (0, 5)) (hd : decode cc pc = .ok (.putfield 25, 3)) (k : sw_Go l E K RX5 cc nL ret (pc + 3) lv st (sw_w σ i 3 x) r σ') : sw_Go l E K RX5 cc nL ret pc lv (.int x :: .ref i :: st) σ r σ' := sw_putI (ci := 5) (k0 := 3) tyX5 rfl sw_in5 tyX5_ok nmX5 (by decide) lk_X5_25 rfl (tyX5_ok 3 (by decide)) rfl hi hs rfl rfl hd k
theorem lk_X5_29 : Cond.fieldLink RX5 29 (TX5 2).1 (TX5 2).2.1 (TX5 2).2.2.1 ∈ sw_T := sw_T_of (i := 352) (by decide +kernel) rfl
theorem gf_X5_29 (hi : i < 84) (hs : sw_s i = (0, 5)) (hd : decode cc pc = .ok (.getfield 29, 3)) (k : sw_Go l E K RX5 cc nL ret (pc + 3) lv (.int (σ.1 i 2) :: st) σ r σ') : sw_Go l E K RX5 cc nL ret pc lv (.ref i :: st) σ r σ' := sw_get (ci := 5) (k0 := 2) rfl sw_in5 (by decide) lk_X5_29 rfl hi hs hd k
theorem pf_X5_29 {x : Int32} (hi : i < 84) (hs : sw_s i = (0, 5)) (hd : decode cc pc = .ok (.putfield 29, 3)) (k : sw_Go l E K RX5 cc nL ret (pc + 3) lv st (sw_w σ i 2 x) r σ') : sw_Go l E K RX5 cc nL ret pc lv (.int x :: .ref i :: st) σ r σ' := sw_putI (ci := 5) (k0 := 2) tyX5 rfl sw_in5 tyX5_ok nmX5 (by decide) lk_X5_29 rfl (tyX5_ok 2 (by decide)) rfl hi hs rfl rfl hd k
theorem lk_X5_38 : Cond.fieldLink RX5 38 (TX7 4).1 (TX7 4).2.1 (TX7 4).2.2.1 ∈ sw_T := sw_T_of (i := 202) (by decide +kernel) rfl
theorem gf_X5_38 (hi : i < 84) (hs : sw_s i = (0, 7)) (hd : decode cc pc = .ok (.getfield 38, 3)) (k : sw_Go l E K RX5 cc nL ret (pc + 3) lv (.int (σ.1 i 4) :: st) σ r σ') : sw_Go l E K RX5 cc nL ret pc lv (.ref i :: st) σ r σ' := sw_get (ci := 7) (k0 := 4) rfl sw_in7 (by decide) lk_X5_38 rfl hi hs hd k
theorem pf_X5_38 {x : Int32} (hi : i < 84) (hs : sw_s i = (0, 7)) (hd : decode cc pc = .ok (.putfield 38, 3)) (k : sw_Go l E K RX5 cc nL ret (pc + 3) lv st (sw_w σ i 4 x) r σ') : sw_Go l E K RX5 cc nL ret pc lv (.int x :: .ref i :: st) σ r σ' := sw_putI (ci := 7) (k0 := 4) tyX7 rfl sw_in7 tyX7_ok nmX7 (by decide) lk_X5_38 rfl (tyX7_ok 4 (by decide)) rfl hi hs rfl rfl hd k
theorem lk_X5_41 : Cond.fieldLink RX5 41 (TX7 7).1 (TX7 7).2.1 (TX7 7).2.2.1 ∈ sw_T := sw_T_of (i := 209) (by decide +kernel) rfl
theorem gf_X5_41 (hi : i < 84) (hs : sw_s i = (0, 7)) (hd : decode cc pc = .ok (.getfield 41, 3)) (k : sw_Go l E K RX5 cc nL ret (pc + 3) lv (.int (σ.1 i 7) :: st) σ r σ') : sw_Go l E K RX5 cc nL ret pc lv (.ref i :: st) σ r σ' := sw_get (ci := 7) (k0 := 7) rfl sw_in7 (by decide) lk_X5_41 rfl hi hs hd k
theorem pf_X5_41 {x : Int32} (hi : i < 84) (hs : sw_s i = (0, 7)) (hd : decode cc pc = .ok (.putfield 41, 3)) (k : sw_Go l E K RX5 cc nL ret (pc + 3) lv st (sw_w σ i 7 x) r σ') : sw_Go l E K RX5 cc nL ret pc lv (.int x :: .ref i :: st) σ r σ' := sw_putI (ci := 7) (k0 := 7) tyX7 rfl sw_in7 tyX7_ok nmX7 (by decide) lk_X5_41 rfl (tyX7_ok 7 (by decide)) rfl hi hs rfl rfl hd k
theorem lk_X5_70 : Cond.fieldLink RX5 70 (TX7 5).1 (TX7 5).2.1 (TX7 5).2.2.1 ∈ sw_T := sw_T_of (i := 205) (by decide +kernel) rfl
theorem gf_X5_70 (hi : i < 84) (hs : sw_s i = (0, 7)) (hd : decode cc pc = .ok (.getfield 70, 3)) (k : sw_Go l E K RX5 cc nL ret (pc + 3) lv (.int (σ.1 i 5) :: st) σ r σ') : sw_Go l E K RX5 cc nL ret pc lv (.ref i :: st) σ r σ' := sw_get (ci := 7) (k0 := 5) rfl sw_in7 (by decide) lk_X5_70 rfl hi hs hd k
theorem pf_X5_70 {x : Int32} (hi : i < 84) (hs : sw_s i = (0, 7)) (hd : decode cc pc = .ok (.putfield 70, 3)) (k : sw_Go l E K RX5 cc nL ret (pc + 3) lv st (sw_w σ i 5 x) r σ') : sw_Go l E K RX5 cc nL ret pc lv (.int x :: .ref i :: st) σ r σ' := sw_putI (ci := 7) (k0 := 5) tyX7 rfl sw_in7 tyX7_ok nmX7 (by decide) lk_X5_70 rfl (tyX7_ok 5 (by decide)) rfl hi hs rfl rfl hd k
theorem lk_X5_73 : Cond.fieldLink RX5 73 (TX4 0).1 (TX4 0).2.1 (TX4 0).2.2.1 ∈ sw_T := sw_T_of (i := 273) (by decide +kernel) rfl
theorem gf_X5_73 (hi : i < 84) (hs : sw_s i = (0, 4)) (hd : decode cc pc = .ok (.getfield 73, 3)) (k : sw_Go l E K RX5 cc nL ret (pc + 3) lv (.int (σ.1 i 0) :: st) σ r σ') : sw_Go l E K RX5 cc nL ret pc lv (.ref i :: st) σ r σ' := sw_get (ci := 4) (k0 := 0) rfl sw_in4 (by decide) lk_X5_73 rfl hi hs hd k
theorem pf_X5_73 {x : Int32} (hi : i < 84) (hs : sw_s i = (0, 4)) (hd : decode cc pc = .ok (.putfield 73, 3)) (k : sw_Go l E K RX5 cc nL ret (pc + 3) lv st (sw_w σ i 0 x) r σ') : sw_Go l E K RX5 cc nL ret pc lv (.int x :: .ref i :: st) σ r σ' := sw_putI (ci := 4) (k0 := 0) tyX4 rfl sw_in4 tyX4_ok nmX4 (by decide) lk_X5_73 rfl (tyX4_ok 0 (by decide)) rfl hi hs rfl rfl hd k
theorem lk_X5_79 : Cond.fieldLink RX5 79 (TX4 9).1 (TX4 9).2.1 (TX4 9).2.2.1 ∈ sw_T := sw_T_of (i := 300) (by decide +kernel) rfl
theorem gf_X5_79 (hi : i < 84) (hs : sw_s i = (0, 4)) (hd : decode cc pc = .ok (.getfield 79, 3)) (k : sw_Go l E K RX5 cc nL ret (pc + 3) lv (.ref (i + 1) :: st) σ r σ') : sw_Go l E K RX5 cc nL ret pc lv (.ref i :: st) σ r σ' := sw_get (ci := 4) (k0 := 9) rfl sw_in4 (by decide) lk_X5_79 rfl hi hs hd k
theorem lk_X5_90 : Cond.fieldLink RX5 90 (TX4 1).1 (TX4 1).2.1 (TX4 1).2.2.1 ∈ sw_T := sw_T_of (i := 278) (by decide +kernel) rfl
theorem gf_X5_90 (hi : i < 84) (hs : sw_s i = (0, 4)) (hd : decode cc pc = .ok (.getfield 90, 3)) (k : sw_Go l E K RX5 cc nL ret (pc + 3) lv (.int (σ.1 i 1) :: st) σ r σ') : sw_Go l E K RX5 cc nL ret pc lv (.ref i :: st) σ r σ' := sw_get (ci := 4) (k0 := 1) rfl sw_in4 (by decide) lk_X5_90 rfl hi hs hd k
theorem pf_X5_90 {x : Int32} (hi : i < 84) (hs : sw_s i = (0, 4)) (hd : decode cc pc = .ok (.putfield 90, 3)) (k : sw_Go l E K RX5 cc nL ret (pc + 3) lv st (sw_w σ i 1 x) r σ') : sw_Go l E K RX5 cc nL ret pc lv (.int x :: .ref i :: st) σ r σ' := sw_putI (ci := 4) (k0 := 1) tyX4 rfl sw_in4 tyX4_ok nmX4 (by decide) lk_X5_90 rfl (tyX4_ok 1 (by decide)) rfl hi hs rfl rfl hd k
theorem lk_X5_93 : Cond.fieldLink RX5 93 (TX4 10).1 (TX4 10).2.1 (TX4 10).2.2.1 ∈ sw_T := sw_T_of (i := 302) (by decide +kernel) rfl
theorem gf_X5_93 (hi : i < 84) (hs : sw_s i = (0, 4)) (hd : decode cc pc = .ok (.getfield 93, 3)) (k : sw_Go l E K RX5 cc nL ret (pc + 3) lv (.ref (i + 2) :: st) σ r σ') : sw_Go l E K RX5 cc nL ret pc lv (.ref i :: st) σ r σ' := sw_get (ci := 4) (k0 := 10) rfl sw_in4 (by decide) lk_X5_93 rfl hi hs hd k
theorem lk_X5_99 : Cond.fieldLink RX5 99 (TX4 12).1 (TX4 12).2.1 (TX4 12).2.2.1 ∈ sw_T := sw_T_of (i := 306) (by decide +kernel) rfl
theorem gf_X5_99 (hi : i < 84) (hs : sw_s i = (0, 4)) (hd : decode cc pc = .ok (.getfield 99, 3)) (k : sw_Go l E K RX5 cc nL ret (pc + 3) lv (.ref (i + 4) :: st) σ r σ') : sw_Go l E K RX5 cc nL ret pc lv (.ref i :: st) σ r σ' := sw_get (ci := 4) (k0 := 12) rfl sw_in4 (by decide) lk_X5_99 rfl hi hs hd k
theorem lk_X5_107 : Cond.fieldLink RX5 107 (TX5 4).1 (TX5 4).2.1 (TX5 4).2.2.1 ∈ sw_T := sw_T_of (i := 356) (by decide +kernel) rfl
theorem gf_X5_107 (hi : i < 84) (hs : sw_s i = (0, 5)) (hd : decode cc pc = .ok (.getfield 107, 3)) (k : sw_Go l E K RX5 cc nL ret (pc + 3) lv (.int (σ.1 i 4) :: st) σ r σ') : sw_Go l E K RX5 cc nL ret pc lv (.ref i :: st) σ r σ' := sw_get (ci := 5) (k0 := 4) rfl sw_in5 (by decide) lk_X5_107 rfl hi hs hd k
theorem pf_X5_107 {x : Int32} (hi : i < 84) (hs : sw_s i = (0, 5)) (hd : decode cc pc = .ok (.putfield 107, 3)) (k : sw_Go l E K RX5 cc nL ret (pc + 3) lv st (sw_w σ i 4 x) r σ') : sw_Go l E K RX5 cc nL ret pc lv (.int x :: .ref i :: st) σ r σ' := sw_putI (ci := 5) (k0 := 4) tyX5 rfl sw_in5 tyX5_ok nmX5 (by decide) lk_X5_107 rfl (tyX5_ok 4 (by decide)) rfl hi hs rfl rfl hd k
theorem lk_X5_110 : Cond.fieldLink RX5 110 (TX4 8).1 (TX4 8).2.1 (TX4 8).2.2.1 ∈ sw_T := sw_T_of (i := 297) (by decide +kernel) rfl
theorem gf_X5_110 (hi : i < 84) (hs : sw_s i = (0, 4)) (hd : decode cc pc = .ok (.getfield 110, 3)) (k : sw_Go l E K RX5 cc nL ret (pc + 3) lv (.int (σ.1 i 8) :: st) σ r σ') : sw_Go l E K RX5 cc nL ret pc lv (.ref i :: st) σ r σ' := sw_get (ci := 4) (k0 := 8) rfl sw_in4 (by decide) lk_X5_110 rfl hi hs hd k
theorem pf_X5_110 {x : Int32} (hi : i < 84) (hs : sw_s i = (0, 4)) (hd : decode cc pc = .ok (.putfield 110, 3)) (k : sw_Go l E K RX5 cc nL ret (pc + 3) lv st (sw_w σ i 8 x) r σ') : sw_Go l E K RX5 cc nL ret pc lv (.int x :: .ref i :: st) σ r σ' := sw_putI (ci := 4) (k0 := 8) tyX4 rfl sw_in4 tyX4_ok nmX4 (by decide) lk_X5_110 rfl (tyX4_ok 8 (by decide)) rfl hi hs rfl rfl hd k
theorem lk_X5_113 : Cond.fieldLink RX5 113 (TX4 3).1 (TX4 3).2.1 (TX4 3).2.2.1 ∈ sw_T := sw_T_of (i := 284) (by decide +kernel) rfl
theorem gf_X5_113 (hi : i < 84) (hs : sw_s i = (0, 4)) (hd : decode cc pc = .ok (.getfield 113, 3)) (k : sw_Go l E K RX5 cc nL ret (pc + 3) lv (.int (σ.1 i 3) :: st) σ r σ') : sw_Go l E K RX5 cc nL ret pc lv (.ref i :: st) σ r σ' := sw_get (ci := 4) (k0 := 3) rfl sw_in4 (by decide) lk_X5_113 rfl hi hs hd k
theorem pf_X5_113 {x : Int32} (hi : i < 84) (hs : sw_s i = (0, 4)) (hd : decode cc pc = .ok (.putfield 113, 3)) (k : sw_Go l E K RX5 cc nL ret (pc + 3) lv st (sw_w σ i 3 x) r σ') : sw_Go l E K RX5 cc nL ret pc lv (.int x :: .ref i :: st) σ r σ' := sw_putI (ci := 4) (k0 := 3) tyX4 rfl sw_in4 tyX4_ok nmX4 (by decide) lk_X5_113 rfl (tyX4_ok 3 (by decide)) rfl hi hs rfl rfl hd k
theorem lk_X5_116 : Cond.fieldLink RX5 116 (TX4 11).1 (TX4 11).2.1 (TX4 11).2.2.1 ∈ sw_T := sw_T_of (i := 304) (by decide +kernel) rfl
theorem gf_X5_116 (hi : i < 84) (hs : sw_s i = (0, 4)) (hd : decode cc pc = .ok (.getfield 116, 3)) (k : sw_Go l E K RX5 cc nL ret (pc + 3) lv (.ref (i + 3) :: st) σ r σ') : sw_Go l E K RX5 cc nL ret pc lv (.ref i :: st) σ r σ' := sw_get (ci := 4) (k0 := 11) rfl sw_in4 (by decide) lk_X5_116 rfl hi hs hd k
theorem lk_X5_119 : Cond.fieldLink RX5 119 (TX4 13).1 (TX4 13).2.1 (TX4 13).2.2.1 ∈ sw_T := sw_T_of (i := 308) (by decide +kernel) rfl
theorem gf_X5_119 (hi : i < 84) (hs : sw_s i = (0, 4)) (hd : decode cc pc = .ok (.getfield 119, 3)) (k : sw_Go l E K RX5 cc nL ret (pc + 3) lv (.ref (i + 5) :: st) σ r σ') : sw_Go l E K RX5 cc nL ret pc lv (.ref i :: st) σ r σ' := sw_get (ci := 4) (k0 := 13) rfl sw_in4 (by decide) lk_X5_119 rfl hi hs hd k
theorem lk_X5_122 : Cond.fieldLink RX5 122 (TX4 2).1 (TX4 2).2.1 (TX4 2).2.2.1 ∈ sw_T := sw_T_of (i := 281) (by decide +kernel) rfl
theorem gf_X5_122 (hi : i < 84) (hs : sw_s i = (0, 4)) (hd : decode cc pc = .ok (.getfield 122, 3)) (k : sw_Go l E K RX5 cc nL ret (pc + 3) lv (.int (σ.1 i 2) :: st) σ r σ') : sw_Go l E K RX5 cc nL ret pc lv (.ref i :: st) σ r σ' := sw_get (ci := 4) (k0 := 2) rfl sw_in4 (by decide) lk_X5_122 rfl hi hs hd k
theorem pf_X5_122 {x : Int32} (hi : i < 84) (hs : sw_s i = (0, 4)) (hd : decode cc pc = .ok (.putfield 122, 3)) (k : sw_Go l E K RX5 cc nL ret (pc + 3) lv st (sw_w σ i 2 x) r σ') : sw_Go l E K RX5 cc nL ret pc lv (.int x :: .ref i :: st) σ r σ' := sw_putI (ci := 4) (k0 := 2) tyX4 rfl sw_in4 tyX4_ok nmX4 (by decide) lk_X5_122 rfl (tyX4_ok 2 (by decide)) rfl hi hs rfl rfl hd k
theorem lk_X5_137 : Cond.fieldLink RX5 137 (TX4 15).1 (TX4 15).2.1 (TX4 15).2.2.1 ∈ sw_T := sw_T_of (i := 313) (by decide +kernel) rfl
theorem gf_X5_137 (hi : i < 84) (hs : sw_s i = (0, 4)) (hd : decode cc pc = .ok (.getfield 137, 3)) (k : sw_Go l E K RX5 cc nL ret (pc + 3) lv (.ref (i + 7) :: st) σ r σ') : sw_Go l E K RX5 cc nL ret pc lv (.ref i :: st) σ r σ' := sw_get (ci := 4) (k0 := 15) rfl sw_in4 (by decide) lk_X5_137 rfl hi hs hd k
theorem lk_X5_141 : Cond.fieldLink RX5 141 (TX2 0).1 (TX2 0).2.1 (TX2 0).2.2.1 ∈ sw_T := sw_T_of (i := 250) (by decide +kernel) rfl
theorem gf_X5_141 (hi : i < 84) (hs : sw_s i = (0, 2)) (hd : decode cc pc = .ok (.getfield 141, 3)) (k : sw_Go l E K RX5 cc nL ret (pc + 3) lv (.int (σ.1 i 0) :: st) σ r σ') : sw_Go l E K RX5 cc nL ret pc lv (.ref i :: st) σ r σ' := sw_get (ci := 2) (k0 := 0) rfl sw_in2 (by decide) lk_X5_141 rfl hi hs hd k
theorem pf_X5_141 {x : Int32} (hi : i < 84) (hs : sw_s i = (0, 2)) (hd : decode cc pc = .ok (.putfield 141, 3)) (k : sw_Go l E K RX5 cc nL ret (pc + 3) lv st (sw_w σ i 0 x) r σ') : sw_Go l E K RX5 cc nL ret pc lv (.int x :: .ref i :: st) σ r σ' := sw_putI (ci := 2) (k0 := 0) tyX2 rfl sw_in2 tyX2_ok nmX2 (by decide) lk_X5_141 rfl (tyX2_ok 0 (by decide)) rfl hi hs rfl rfl hd k
theorem lk_X5_150 : Cond.fieldLink RX5 150 (TX4 6).1 (TX4 6).2.1 (TX4 6).2.2.1 ∈ sw_T := sw_T_of (i := 293) (by decide +kernel) rfl
theorem gf_X5_150 (hi : i < 84) (hs : sw_s i = (0, 4)) (hd : decode cc pc = .ok (.getfield 150, 3)) (k : sw_Go l E K RX5 cc nL ret (pc + 3) lv (.int (σ.1 i 6) :: st) σ r σ') : sw_Go l E K RX5 cc nL ret pc lv (.ref i :: st) σ r σ' := sw_get (ci := 4) (k0 := 6) rfl sw_in4 (by decide) lk_X5_150 rfl hi hs hd k
theorem pf_X5_150 {x : Int32} (hb : x = 0 ∨ x = 1) (hi : i < 84) (hs : sw_s i = (0, 4)) (hd : decode cc pc = .ok (.putfield 150, 3)) (k : sw_Go l E K RX5 cc nL ret (pc + 3) lv st (sw_w σ i 6 x) r σ') : sw_Go l E K RX5 cc nL ret pc lv (.int x :: .ref i :: st) σ r σ' := sw_putI (ci := 4) (k0 := 6) tyX4 rfl sw_in4 tyX4_ok nmX4 (by decide) lk_X5_150 rfl (tyX4_ok 6 (by decide)) rfl hi hs (sw_bo_n hb) (sw_bo_f hb) hd k
theorem lk_X5_154 : Cond.fieldLink RX5 154 (TX4 4).1 (TX4 4).2.1 (TX4 4).2.2.1 ∈ sw_T := sw_T_of (i := 287) (by decide +kernel) rfl
theorem gf_X5_154 (hi : i < 84) (hs : sw_s i = (0, 4)) (hd : decode cc pc = .ok (.getfield 154, 3)) (k : sw_Go l E K RX5 cc nL ret (pc + 3) lv (.int (σ.1 i 4) :: st) σ r σ') : sw_Go l E K RX5 cc nL ret pc lv (.ref i :: st) σ r σ' := sw_get (ci := 4) (k0 := 4) rfl sw_in4 (by decide) lk_X5_154 rfl hi hs hd k
theorem pf_X5_154 {x : Int32} (hi : i < 84) (hs : sw_s i = (0, 4)) (hd : decode cc pc = .ok (.putfield 154, 3)) (k : sw_Go l E K RX5 cc nL ret (pc + 3) lv st (sw_w σ i 4 x) r σ') : sw_Go l E K RX5 cc nL ret pc lv (.int x :: .ref i :: st) σ r σ' := sw_putI (ci := 4) (k0 := 4) tyX4 rfl sw_in4 tyX4_ok nmX4 (by decide) lk_X5_154 rfl (tyX4_ok 4 (by decide)) rfl hi hs rfl rfl hd k
theorem lk_X5_157 : Cond.fieldLink RX5 157 (TX4 7).1 (TX4 7).2.1 (TX4 7).2.2.1 ∈ sw_T := sw_T_of (i := 295) (by decide +kernel) rfl
theorem gf_X5_157 (hi : i < 84) (hs : sw_s i = (0, 4)) (hd : decode cc pc = .ok (.getfield 157, 3)) (k : sw_Go l E K RX5 cc nL ret (pc + 3) lv (.int (σ.1 i 7) :: st) σ r σ') : sw_Go l E K RX5 cc nL ret pc lv (.ref i :: st) σ r σ' := sw_get (ci := 4) (k0 := 7) rfl sw_in4 (by decide) lk_X5_157 rfl hi hs hd k
theorem pf_X5_157 {x : Int32} (hb : x = 0 ∨ x = 1) (hi : i < 84) (hs : sw_s i = (0, 4)) (hd : decode cc pc = .ok (.putfield 157, 3)) (k : sw_Go l E K RX5 cc nL ret (pc + 3) lv st (sw_w σ i 7 x) r σ') : sw_Go l E K RX5 cc nL ret pc lv (.int x :: .ref i :: st) σ r σ' := sw_putI (ci := 4) (k0 := 7) tyX4 rfl sw_in4 tyX4_ok nmX4 (by decide) lk_X5_157 rfl (tyX4_ok 7 (by decide)) rfl hi hs (sw_bo_n hb) (sw_bo_f hb) hd k
theorem lk_X5_160 : Cond.fieldLink RX5 160 (TX4 5).1 (TX4 5).2.1 (TX4 5).2.2.1 ∈ sw_T := sw_T_of (i := 291) (by decide +kernel) rfl
theorem gf_X5_160 (hi : i < 84) (hs : sw_s i = (0, 4)) (hd : decode cc pc = .ok (.getfield 160, 3)) (k : sw_Go l E K RX5 cc nL ret (pc + 3) lv (.int (σ.1 i 5) :: st) σ r σ') : sw_Go l E K RX5 cc nL ret pc lv (.ref i :: st) σ r σ' := sw_get (ci := 4) (k0 := 5) rfl sw_in4 (by decide) lk_X5_160 rfl hi hs hd k
theorem pf_X5_160 {x : Int32} (hi : i < 84) (hs : sw_s i = (0, 4)) (hd : decode cc pc = .ok (.putfield 160, 3)) (k : sw_Go l E K RX5 cc nL ret (pc + 3) lv st (sw_w σ i 5 x) r σ') : sw_Go l E K RX5 cc nL ret pc lv (.int x :: .ref i :: st) σ r σ' := sw_putI (ci := 4) (k0 := 5) tyX4 rfl sw_in4 tyX4_ok nmX4 (by decide) lk_X5_160 rfl (tyX4_ok 5 (by decide)) rfl hi hs rfl rfl hd k
theorem lk_X5_163 : Cond.fieldLink RX5 163 (TX7 9).1 (TX7 9).2.1 (TX7 9).2.2.1 ∈ sw_T := sw_T_of (i := 213) (by decide +kernel) rfl
theorem gf_X5_163 (hi : i < 84) (hs : sw_s i = (0, 7)) (hd : decode cc pc = .ok (.getfield 163, 3)) (k : sw_Go l E K RX5 cc nL ret (pc + 3) lv (.int (σ.1 i 9) :: st) σ r σ') : sw_Go l E K RX5 cc nL ret pc lv (.ref i :: st) σ r σ' := sw_get (ci := 7) (k0 := 9) rfl sw_in7 (by decide) lk_X5_163 rfl hi hs hd k
theorem pf_X5_163 {x : Int32} (hi : i < 84) (hs : sw_s i = (0, 7)) (hd : decode cc pc = .ok (.putfield 163, 3)) (k : sw_Go l E K RX5 cc nL ret (pc + 3) lv st (sw_w σ i 9 x) r σ') : sw_Go l E K RX5 cc nL ret pc lv (.int x :: .ref i :: st) σ r σ' := sw_putI (ci := 7) (k0 := 9) tyX7 rfl sw_in7 tyX7_ok nmX7 (by decide) lk_X5_163 rfl (tyX7_ok 9 (by decide)) rfl hi hs rfl rfl hd k
theorem lk_X5_172 : Cond.fieldLink RX5 172 (TX7 6).1 (TX7 6).2.1 (TX7 6).2.2.1 ∈ sw_T := sw_T_of (i := 207) (by decide +kernel) rfl
theorem gf_X5_172 (hi : i < 84) (hs : sw_s i = (0, 7)) (hd : decode cc pc = .ok (.getfield 172, 3)) (k : sw_Go l E K RX5 cc nL ret (pc + 3) lv (.long (σ.2.1 i 6) :: st) σ r σ') : sw_Go l E K RX5 cc nL ret pc lv (.ref i :: st) σ r σ' := sw_get (ci := 7) (k0 := 6) rfl sw_in7 (by decide) lk_X5_172 rfl hi hs hd k
theorem pf_X5_172 {x : Int64} (hi : i < 84) (hs : sw_s i = (0, 7)) (hd : decode cc pc = .ok (.putfield 172, 3)) (k : sw_Go l E K RX5 cc nL ret (pc + 3) lv st (sw_wL σ i 6 x) r σ') : sw_Go l E K RX5 cc nL ret pc lv (.long x :: .ref i :: st) σ r σ' := sw_putL (ci := 7) (k0 := 6) tyX7 rfl sw_in7 tyX7_ok nmX7 (by decide) lk_X5_172 rfl (tyX7_ok 6 (by decide)) rfl hi hs hd k
theorem lk_X5_180 : Cond.fieldLink RX5 180 (TX7 8).1 (TX7 8).2.1 (TX7 8).2.2.1 ∈ sw_T := sw_T_of (i := 211) (by decide +kernel) rfl
theorem gf_X5_180 (hi : i < 84) (hs : sw_s i = (0, 7)) (hd : decode cc pc = .ok (.getfield 180, 3)) (k : sw_Go l E K RX5 cc nL ret (pc + 3) lv (.int (σ.1 i 8) :: st) σ r σ') : sw_Go l E K RX5 cc nL ret pc lv (.ref i :: st) σ r σ' := sw_get (ci := 7) (k0 := 8) rfl sw_in7 (by decide) lk_X5_180 rfl hi hs hd k
theorem pf_X5_180 {x : Int32} (hi : i < 84) (hs : sw_s i = (0, 7)) (hd : decode cc pc = .ok (.putfield 180, 3)) (k : sw_Go l E K RX5 cc nL ret (pc + 3) lv st (sw_w σ i 8 x) r σ') : sw_Go l E K RX5 cc nL ret pc lv (.int x :: .ref i :: st) σ r σ' := sw_putI (ci := 7) (k0 := 8) tyX7 rfl sw_in7 tyX7_ok nmX7 (by decide) lk_X5_180 rfl (tyX7_ok 8 (by decide)) rfl hi hs rfl rfl hd k
theorem lk_X6_11 : Cond.fieldLink RX6 11 (TX6 1).1 (TX6 1).2.1 (TX6 1).2.2.1 ∈ sw_T := sw_T_of (i := 468) (by decide +kernel) rfl
theorem gf_X6_11 (hi : i < 84) (hs : sw_s i = (0, 6)) (hd : decode cc pc = .ok (.getfield 11, 3)) (k : sw_Go l E K RX6 cc nL ret (pc + 3) lv (.ref (i + 1) :: st) σ r σ') : sw_Go l E K RX6 cc nL ret pc lv (.ref i :: st) σ r σ' := sw_get (ci := 6) (k0 := 1) rfl sw_in6 (by decide) lk_X6_11 rfl hi hs hd k
theorem lk_X6_15 : Cond.fieldLink RX6 15 (TX6 2).1 (TX6 2).2.1 (TX6 2).2.2.1 ∈ sw_T := sw_T_of (i := 469) (by decide +kernel) rfl
theorem gf_X6_15 (hi : i < 84) (hs : sw_s i = (0, 6)) (hd : decode cc pc = .ok (.getfield 15, 3)) (k : sw_Go l E K RX6 cc nL ret (pc + 3) lv (.ref (i + 2) :: st) σ r σ') : sw_Go l E K RX6 cc nL ret pc lv (.ref i :: st) σ r σ' := sw_get (ci := 6) (k0 := 2) rfl sw_in6 (by decide) lk_X6_15 rfl hi hs hd k
theorem lk_X6_18 : Cond.fieldLink RX6 18 (TX6 3).1 (TX6 3).2.1 (TX6 3).2.2.1 ∈ sw_T := sw_T_of (i := 470) (by decide +kernel) rfl
theorem gf_X6_18 (hi : i < 84) (hs : sw_s i = (0, 6)) (hd : decode cc pc = .ok (.getfield 18, 3)) (k : sw_Go l E K RX6 cc nL ret (pc + 3) lv (.ref (i + 3) :: st) σ r σ') : sw_Go l E K RX6 cc nL ret pc lv (.ref i :: st) σ r σ' := sw_get (ci := 6) (k0 := 3) rfl sw_in6 (by decide) lk_X6_18 rfl hi hs hd k
theorem lk_X6_21 : Cond.fieldLink RX6 21 (TX6 4).1 (TX6 4).2.1 (TX6 4).2.2.1 ∈ sw_T := sw_T_of (i := 471) (by decide +kernel) rfl
theorem gf_X6_21 (hi : i < 84) (hs : sw_s i = (0, 6)) (hd : decode cc pc = .ok (.getfield 21, 3)) (k : sw_Go l E K RX6 cc nL ret (pc + 3) lv (.ref (i + 4) :: st) σ r σ') : sw_Go l E K RX6 cc nL ret pc lv (.ref i :: st) σ r σ' := sw_get (ci := 6) (k0 := 4) rfl sw_in6 (by decide) lk_X6_21 rfl hi hs hd k
theorem lk_X6_25 : Cond.fieldLink RX6 25 (TX6 5).1 (TX6 5).2.1 (TX6 5).2.2.1 ∈ sw_T := sw_T_of (i := 472) (by decide +kernel) rfl
theorem gf_X6_25 (hi : i < 84) (hs : sw_s i = (0, 6)) (hd : decode cc pc = .ok (.getfield 25, 3)) (k : sw_Go l E K RX6 cc nL ret (pc + 3) lv (.ref (i + 5) :: st) σ r σ') : sw_Go l E K RX6 cc nL ret pc lv (.ref i :: st) σ r σ' := sw_get (ci := 6) (k0 := 5) rfl sw_in6 (by decide) lk_X6_25 rfl hi hs hd k
theorem lk_X6_28 : Cond.fieldLink RX6 28 (TX6 6).1 (TX6 6).2.1 (TX6 6).2.2.1 ∈ sw_T := sw_T_of (i := 473) (by decide +kernel) rfl
theorem gf_X6_28 (hi : i < 84) (hs : sw_s i = (0, 6)) (hd : decode cc pc = .ok (.getfield 28, 3)) (k : sw_Go l E K RX6 cc nL ret (pc + 3) lv (.ref (i + 6) :: st) σ r σ') : sw_Go l E K RX6 cc nL ret pc lv (.ref i :: st) σ r σ' := sw_get (ci := 6) (k0 := 6) rfl sw_in6 (by decide) lk_X6_28 rfl hi hs hd k
theorem lk_X6_31 : Cond.fieldLink RX6 31 (TX6 7).1 (TX6 7).2.1 (TX6 7).2.2.1 ∈ sw_T := sw_T_of (i := 474) (by decide +kernel) rfl
theorem gf_X6_31 (hi : i < 84) (hs : sw_s i = (0, 6)) (hd : decode cc pc = .ok (.getfield 31, 3)) (k : sw_Go l E K RX6 cc nL ret (pc + 3) lv (.ref (i + 7) :: st) σ r σ') : sw_Go l E K RX6 cc nL ret pc lv (.ref i :: st) σ r σ' := sw_get (ci := 6) (k0 := 7) rfl sw_in6 (by decide) lk_X6_31 rfl hi hs hd k
theorem lk_X6_34 : Cond.fieldLink RX6 34 (TX6 8).1 (TX6 8).2.1 (TX6 8).2.2.1 ∈ sw_T := sw_T_of (i := 475) (by decide +kernel) rfl
theorem gf_X6_34 (hi : i < 84) (hs : sw_s i = (0, 6)) (hd : decode cc pc = .ok (.getfield 34, 3)) (k : sw_Go l E K RX6 cc nL ret (pc + 3) lv (.ref (i + 8) :: st) σ r σ') : sw_Go l E K RX6 cc nL ret pc lv (.ref i :: st) σ r σ' := sw_get (ci := 6) (k0 := 8) rfl sw_in6 (by decide) lk_X6_34 rfl hi hs hd k
theorem lk_X6_37 : Cond.fieldLink RX6 37 (TX6 0).1 (TX6 0).2.1 (TX6 0).2.2.1 ∈ sw_T := sw_T_of (i := 466) (by decide +kernel) rfl
theorem gf_X6_37 (hi : i < 84) (hs : sw_s i = (0, 6)) (hd : decode cc pc = .ok (.getfield 37, 3)) (k : sw_Go l E K RX6 cc nL ret (pc + 3) lv (.int (σ.1 i 0) :: st) σ r σ') : sw_Go l E K RX6 cc nL ret pc lv (.ref i :: st) σ r σ' := sw_get (ci := 6) (k0 := 0) rfl sw_in6 (by decide) lk_X6_37 rfl hi hs hd k
theorem pf_X6_37 {x : Int32} (hi : i < 84) (hs : sw_s i = (0, 6)) (hd : decode cc pc = .ok (.putfield 37, 3)) (k : sw_Go l E K RX6 cc nL ret (pc + 3) lv st (sw_w σ i 0 x) r σ') : sw_Go l E K RX6 cc nL ret pc lv (.int x :: .ref i :: st) σ r σ' := sw_putI (ci := 6) (k0 := 0) tyX6 rfl sw_in6 tyX6_ok nmX6 (by decide) lk_X6_37 rfl (tyX6_ok 0 (by decide)) rfl hi hs rfl rfl hd k
theorem lk_X6_41 : Cond.fieldLink RX6 41 (TX6 9).1 (TX6 9).2.1 (TX6 9).2.2.1 ∈ sw_T := sw_T_of (i := 476) (by decide +kernel) rfl
theorem gf_X6_41 (hi : i < 84) (hs : sw_s i = (0, 6)) (hd : decode cc pc = .ok (.getfield 41, 3)) (k : sw_Go l E K RX6 cc nL ret (pc + 3) lv (.int (σ.1 i 9) :: st) σ r σ') : sw_Go l E K RX6 cc nL ret pc lv (.ref i :: st) σ r σ' := sw_get (ci := 6) (k0 := 9) rfl sw_in6 (by decide) lk_X6_41 rfl hi hs hd k
theorem pf_X6_41 {x : Int32} (hb : x = 0 ∨ x = 1) (hi : i < 84) (hs : sw_s i = (0, 6)) (hd : decode cc pc = .ok (.putfield 41, 3)) (k : sw_Go l E K RX6 cc nL ret (pc + 3) lv st (sw_w σ i 9 x) r σ') : sw_Go l E K RX6 cc nL ret pc lv (.int x :: .ref i :: st) σ r σ' := sw_putI (ci := 6) (k0 := 9) tyX6 rfl sw_in6 tyX6_ok nmX6 (by decide) lk_X6_41 rfl (tyX6_ok 9 (by decide)) rfl hi hs (sw_bo_n hb) (sw_bo_f hb) hd k
theorem lk_X6_45 : Cond.fieldLink RX6 45 (TX4 1).1 (TX4 1).2.1 (TX4 1).2.2.1 ∈ sw_T := sw_T_of (i := 277) (by decide +kernel) rfl
theorem gf_X6_45 (hi : i < 84) (hs : sw_s i = (0, 4)) (hd : decode cc pc = .ok (.getfield 45, 3)) (k : sw_Go l E K RX6 cc nL ret (pc + 3) lv (.int (σ.1 i 1) :: st) σ r σ') : sw_Go l E K RX6 cc nL ret pc lv (.ref i :: st) σ r σ' := sw_get (ci := 4) (k0 := 1) rfl sw_in4 (by decide) lk_X6_45 rfl hi hs hd k
theorem pf_X6_45 {x : Int32} (hi : i < 84) (hs : sw_s i = (0, 4)) (hd : decode cc pc = .ok (.putfield 45, 3)) (k : sw_Go l E K RX6 cc nL ret (pc + 3) lv st (sw_w σ i 1 x) r σ') : sw_Go l E K RX6 cc nL ret pc lv (.int x :: .ref i :: st) σ r σ' := sw_putI (ci := 4) (k0 := 1) tyX4 rfl sw_in4 tyX4_ok nmX4 (by decide) lk_X6_45 rfl (tyX4_ok 1 (by decide)) rfl hi hs rfl rfl hd k
theorem lk_X6_97 : Cond.fieldLink RX6 97 (TX4 8).1 (TX4 8).2.1 (TX4 8).2.2.1 ∈ sw_T := sw_T_of (i := 298) (by decide +kernel) rfl
theorem gf_X6_97 (hi : i < 84) (hs : sw_s i = (0, 4)) (hd : decode cc pc = .ok (.getfield 97, 3)) (k : sw_Go l E K RX6 cc nL ret (pc + 3) lv (.int (σ.1 i 8) :: st) σ r σ') : sw_Go l E K RX6 cc nL ret pc lv (.ref i :: st) σ r σ' := sw_get (ci := 4) (k0 := 8) rfl sw_in4 (by decide) lk_X6_97 rfl hi hs hd k
theorem pf_X6_97 {x : Int32} (hi : i < 84) (hs : sw_s i = (0, 4)) (hd : decode cc pc = .ok (.putfield 97, 3)) (k : sw_Go l E K RX6 cc nL ret (pc + 3) lv st (sw_w σ i 8 x) r σ') : sw_Go l E K RX6 cc nL ret pc lv (.int x :: .ref i :: st) σ r σ' := sw_putI (ci := 4) (k0 := 8) tyX4 rfl sw_in4 tyX4_ok nmX4 (by decide) lk_X6_97 rfl (tyX4_ok 8 (by decide)) rfl hi hs rfl rfl hd k
theorem lk_X7_9 : Cond.fieldLink RX7 9 (TX7 0).1 (TX7 0).2.1 (TX7 0).2.2.1 ∈ sw_T := sw_T_of (i := 197) (by decide +kernel) rfl
theorem gf_X7_9 (hi : i < 84) (hs : sw_s i = (0, 7)) (hd : decode cc pc = .ok (.getfield 9, 3)) (k : sw_Go l E K RX7 cc nL ret (pc + 3) lv (.ref (i + 1) :: st) σ r σ') : sw_Go l E K RX7 cc nL ret pc lv (.ref i :: st) σ r σ' := sw_get (ci := 7) (k0 := 0) rfl sw_in7 (by decide) lk_X7_9 rfl hi hs hd k
theorem lk_X7_21 : Cond.fieldLink RX7 21 (TX7 2).1 (TX7 2).2.1 (TX7 2).2.2.1 ∈ sw_T := sw_T_of (i := 200) (by decide +kernel) rfl
theorem gf_X7_21 (hi : i < 84) (hs : sw_s i = (0, 7)) (hd : decode cc pc = .ok (.getfield 21, 3)) (k : sw_Go l E K RX7 cc nL ret (pc + 3) lv (.ref (i + 2) :: st) σ r σ') : sw_Go l E K RX7 cc nL ret pc lv (.ref i :: st) σ r σ' := sw_get (ci := 7) (k0 := 2) rfl sw_in7 (by decide) lk_X7_21 rfl hi hs hd k
theorem lk_X7_25 : Cond.fieldLink RX7 25 (TX7 1).1 (TX7 1).2.1 (TX7 1).2.2.1 ∈ sw_T := sw_T_of (i := 198) (by decide +kernel) rfl
theorem gf_X7_25 (hi : i < 84) (hs : sw_s i = (0, 7)) (hd : decode cc pc = .ok (.getfield 25, 3)) (k : sw_Go l E K RX7 cc nL ret (pc + 3) lv (.int (σ.1 i 1) :: st) σ r σ') : sw_Go l E K RX7 cc nL ret pc lv (.ref i :: st) σ r σ' := sw_get (ci := 7) (k0 := 1) rfl sw_in7 (by decide) lk_X7_25 rfl hi hs hd k
theorem pf_X7_25 {x : Int32} (hi : i < 84) (hs : sw_s i = (0, 7)) (hd : decode cc pc = .ok (.putfield 25, 3)) (k : sw_Go l E K RX7 cc nL ret (pc + 3) lv st (sw_w σ i 1 x) r σ') : sw_Go l E K RX7 cc nL ret pc lv (.int x :: .ref i :: st) σ r σ' := sw_putI (ci := 7) (k0 := 1) tyX7 rfl sw_in7 tyX7_ok nmX7 (by decide) lk_X7_25 rfl (tyX7_ok 1 (by decide)) rfl hi hs rfl rfl hd k
theorem lk_X7_29 : Cond.fieldLink RX7 29 (TX7 3).1 (TX7 3).2.1 (TX7 3).2.2.1 ∈ sw_T := sw_T_of (i := 201) (by decide +kernel) rfl
theorem gf_X7_29 (hi : i < 84) (hs : sw_s i = (0, 7)) (hd : decode cc pc = .ok (.getfield 29, 3)) (k : sw_Go l E K RX7 cc nL ret (pc + 3) lv (.int (σ.1 i 3) :: st) σ r σ') : sw_Go l E K RX7 cc nL ret pc lv (.ref i :: st) σ r σ' := sw_get (ci := 7) (k0 := 3) rfl sw_in7 (by decide) lk_X7_29 rfl hi hs hd k
theorem pf_X7_29 {x : Int32} (hi : i < 84) (hs : sw_s i = (0, 7)) (hd : decode cc pc = .ok (.putfield 29, 3)) (k : sw_Go l E K RX7 cc nL ret (pc + 3) lv st (sw_w σ i 3 x) r σ') : sw_Go l E K RX7 cc nL ret pc lv (.int x :: .ref i :: st) σ r σ' := sw_putI (ci := 7) (k0 := 3) tyX7 rfl sw_in7 tyX7_ok nmX7 (by decide) lk_X7_29 rfl (tyX7_ok 3 (by decide)) rfl hi hs rfl rfl hd k
theorem lk_X7_35 : Cond.fieldLink RX7 35 (TX7 7).1 (TX7 7).2.1 (TX7 7).2.2.1 ∈ sw_T := sw_T_of (i := 208) (by decide +kernel) rfl
theorem gf_X7_35 (hi : i < 84) (hs : sw_s i = (0, 7)) (hd : decode cc pc = .ok (.getfield 35, 3)) (k : sw_Go l E K RX7 cc nL ret (pc + 3) lv (.int (σ.1 i 7) :: st) σ r σ') : sw_Go l E K RX7 cc nL ret pc lv (.ref i :: st) σ r σ' := sw_get (ci := 7) (k0 := 7) rfl sw_in7 (by decide) lk_X7_35 rfl hi hs hd k
theorem pf_X7_35 {x : Int32} (hi : i < 84) (hs : sw_s i = (0, 7)) (hd : decode cc pc = .ok (.putfield 35, 3)) (k : sw_Go l E K RX7 cc nL ret (pc + 3) lv st (sw_w σ i 7 x) r σ') : sw_Go l E K RX7 cc nL ret pc lv (.int x :: .ref i :: st) σ r σ' := sw_putI (ci := 7) (k0 := 7) tyX7 rfl sw_in7 tyX7_ok nmX7 (by decide) lk_X7_35 rfl (tyX7_ok 7 (by decide)) rfl hi hs rfl rfl hd k
theorem lk_X7_38 : Cond.fieldLink RX7 38 (TX7 9).1 (TX7 9).2.1 (TX7 9).2.2.1 ∈ sw_T := sw_T_of (i := 212) (by decide +kernel) rfl
theorem gf_X7_38 (hi : i < 84) (hs : sw_s i = (0, 7)) (hd : decode cc pc = .ok (.getfield 38, 3)) (k : sw_Go l E K RX7 cc nL ret (pc + 3) lv (.int (σ.1 i 9) :: st) σ r σ') : sw_Go l E K RX7 cc nL ret pc lv (.ref i :: st) σ r σ' := sw_get (ci := 7) (k0 := 9) rfl sw_in7 (by decide) lk_X7_38 rfl hi hs hd k
theorem pf_X7_38 {x : Int32} (hi : i < 84) (hs : sw_s i = (0, 7)) (hd : decode cc pc = .ok (.putfield 38, 3)) (k : sw_Go l E K RX7 cc nL ret (pc + 3) lv st (sw_w σ i 9 x) r σ') : sw_Go l E K RX7 cc nL ret pc lv (.int x :: .ref i :: st) σ r σ' := sw_putI (ci := 7) (k0 := 9) tyX7 rfl sw_in7 tyX7_ok nmX7 (by decide) lk_X7_38 rfl (tyX7_ok 9 (by decide)) rfl hi hs rfl rfl hd k
theorem lk_X7_45 : Cond.fieldLink RX7 45 (TX7 5).1 (TX7 5).2.1 (TX7 5).2.2.1 ∈ sw_T := sw_T_of (i := 204) (by decide +kernel) rfl
theorem gf_X7_45 (hi : i < 84) (hs : sw_s i = (0, 7)) (hd : decode cc pc = .ok (.getfield 45, 3)) (k : sw_Go l E K RX7 cc nL ret (pc + 3) lv (.int (σ.1 i 5) :: st) σ r σ') : sw_Go l E K RX7 cc nL ret pc lv (.ref i :: st) σ r σ' := sw_get (ci := 7) (k0 := 5) rfl sw_in7 (by decide) lk_X7_45 rfl hi hs hd k
theorem pf_X7_45 {x : Int32} (hi : i < 84) (hs : sw_s i = (0, 7)) (hd : decode cc pc = .ok (.putfield 45, 3)) (k : sw_Go l E K RX7 cc nL ret (pc + 3) lv st (sw_w σ i 5 x) r σ') : sw_Go l E K RX7 cc nL ret pc lv (.int x :: .ref i :: st) σ r σ' := sw_putI (ci := 7) (k0 := 5) tyX7 rfl sw_in7 tyX7_ok nmX7 (by decide) lk_X7_45 rfl (tyX7_ok 5 (by decide)) rfl hi hs rfl rfl hd k
theorem lk_X7_48 : Cond.fieldLink RX7 48 (TX7 4).1 (TX7 4).2.1 (TX7 4).2.2.1 ∈ sw_T := sw_T_of (i := 203) (by decide +kernel) rfl
theorem gf_X7_48 (hi : i < 84) (hs : sw_s i = (0, 7)) (hd : decode cc pc = .ok (.getfield 48, 3)) (k : sw_Go l E K RX7 cc nL ret (pc + 3) lv (.int (σ.1 i 4) :: st) σ r σ') : sw_Go l E K RX7 cc nL ret pc lv (.ref i :: st) σ r σ' := sw_get (ci := 7) (k0 := 4) rfl sw_in7 (by decide) lk_X7_48 rfl hi hs hd k
theorem pf_X7_48 {x : Int32} (hi : i < 84) (hs : sw_s i = (0, 7)) (hd : decode cc pc = .ok (.putfield 48, 3)) (k : sw_Go l E K RX7 cc nL ret (pc + 3) lv st (sw_w σ i 4 x) r σ') : sw_Go l E K RX7 cc nL ret pc lv (.int x :: .ref i :: st) σ r σ' := sw_putI (ci := 7) (k0 := 4) tyX7 rfl sw_in7 tyX7_ok nmX7 (by decide) lk_X7_48 rfl (tyX7_ok 4 (by decide)) rfl hi hs rfl rfl hd k
theorem lk_X7_66 : Cond.fieldLink RX7 66 (TX7 6).1 (TX7 6).2.1 (TX7 6).2.2.1 ∈ sw_T := sw_T_of (i := 206) (by decide +kernel) rfl
theorem gf_X7_66 (hi : i < 84) (hs : sw_s i = (0, 7)) (hd : decode cc pc = .ok (.getfield 66, 3)) (k : sw_Go l E K RX7 cc nL ret (pc + 3) lv (.long (σ.2.1 i 6) :: st) σ r σ') : sw_Go l E K RX7 cc nL ret pc lv (.ref i :: st) σ r σ' := sw_get (ci := 7) (k0 := 6) rfl sw_in7 (by decide) lk_X7_66 rfl hi hs hd k
theorem pf_X7_66 {x : Int64} (hi : i < 84) (hs : sw_s i = (0, 7)) (hd : decode cc pc = .ok (.putfield 66, 3)) (k : sw_Go l E K RX7 cc nL ret (pc + 3) lv st (sw_wL σ i 6 x) r σ') : sw_Go l E K RX7 cc nL ret pc lv (.long x :: .ref i :: st) σ r σ' := sw_putL (ci := 7) (k0 := 6) tyX7 rfl sw_in7 tyX7_ok nmX7 (by decide) lk_X7_66 rfl (tyX7_ok 6 (by decide)) rfl hi hs hd k
theorem lk_X7_78 : Cond.fieldLink RX7 78 (TX7 8).1 (TX7 8).2.1 (TX7 8).2.2.1 ∈ sw_T := sw_T_of (i := 210) (by decide +kernel) rfl
theorem gf_X7_78 (hi : i < 84) (hs : sw_s i = (0, 7)) (hd : decode cc pc = .ok (.getfield 78, 3)) (k : sw_Go l E K RX7 cc nL ret (pc + 3) lv (.int (σ.1 i 8) :: st) σ r σ') : sw_Go l E K RX7 cc nL ret pc lv (.ref i :: st) σ r σ' := sw_get (ci := 7) (k0 := 8) rfl sw_in7 (by decide) lk_X7_78 rfl hi hs hd k
theorem pf_X7_78 {x : Int32} (hi : i < 84) (hs : sw_s i = (0, 7)) (hd : decode cc pc = .ok (.putfield 78, 3)) (k : sw_Go l E K RX7 cc nL ret (pc + 3) lv st (sw_w σ i 8 x) r σ') : sw_Go l E K RX7 cc nL ret pc lv (.int x :: .ref i :: st) σ r σ' := sw_putI (ci := 7) (k0 := 8) tyX7 rfl sw_in7 tyX7_ok nmX7 (by decide) lk_X7_78 rfl (tyX7_ok 8 (by decide)) rfl hi hs rfl rfl hd k
theorem lk_X8_9 : Cond.fieldLink RX8 9 (TX8 0).1 (TX8 0).2.1 (TX8 0).2.2.1 ∈ sw_T := sw_T_of (i := 376) (by decide +kernel) rfl
theorem gf_X8_9 (hi : i < 84) (hs : sw_s i = (0, 8)) (hd : decode cc pc = .ok (.getfield 9, 3)) (k : sw_Go l E K RX8 cc nL ret (pc + 3) lv (.ref (i + 1) :: st) σ r σ') : sw_Go l E K RX8 cc nL ret pc lv (.ref i :: st) σ r σ' := sw_get (ci := 8) (k0 := 0) rfl sw_in8 (by decide) lk_X8_9 rfl hi hs hd k
theorem lk_X8_21 : Cond.fieldLink RX8 21 (TX8 1).1 (TX8 1).2.1 (TX8 1).2.2.1 ∈ sw_T := sw_T_of (i := 381) (by decide +kernel) rfl
theorem gf_X8_21 (hi : i < 84) (hs : sw_s i = (0, 8)) (hd : decode cc pc = .ok (.getfield 21, 3)) (k : sw_Go l E K RX8 cc nL ret (pc + 3) lv (.int (σ.1 i 1) :: st) σ r σ') : sw_Go l E K RX8 cc nL ret pc lv (.ref i :: st) σ r σ' := sw_get (ci := 8) (k0 := 1) rfl sw_in8 (by decide) lk_X8_21 rfl hi hs hd k
theorem pf_X8_21 {x : Int32} (hi : i < 84) (hs : sw_s i = (0, 8)) (hd : decode cc pc = .ok (.putfield 21, 3)) (k : sw_Go l E K RX8 cc nL ret (pc + 3) lv st (sw_w σ i 1 x) r σ') : sw_Go l E K RX8 cc nL ret pc lv (.int x :: .ref i :: st) σ r σ' := sw_putI (ci := 8) (k0 := 1) tyX8 rfl sw_in8 tyX8_ok nmX8 (by decide) lk_X8_21 rfl (tyX8_ok 1 (by decide)) rfl hi hs rfl rfl hd k
theorem lk_X8_25 : Cond.fieldLink RX8 25 (TX8 2).1 (TX8 2).2.1 (TX8 2).2.2.1 ∈ sw_T := sw_T_of (i := 385) (by decide +kernel) rfl
theorem gf_X8_25 (hi : i < 84) (hs : sw_s i = (0, 8)) (hd : decode cc pc = .ok (.getfield 25, 3)) (k : sw_Go l E K RX8 cc nL ret (pc + 3) lv (.int (σ.1 i 2) :: st) σ r σ') : sw_Go l E K RX8 cc nL ret pc lv (.ref i :: st) σ r σ' := sw_get (ci := 8) (k0 := 2) rfl sw_in8 (by decide) lk_X8_25 rfl hi hs hd k
theorem pf_X8_25 {x : Int32} (hi : i < 84) (hs : sw_s i = (0, 8)) (hd : decode cc pc = .ok (.putfield 25, 3)) (k : sw_Go l E K RX8 cc nL ret (pc + 3) lv st (sw_w σ i 2 x) r σ') : sw_Go l E K RX8 cc nL ret pc lv (.int x :: .ref i :: st) σ r σ' := sw_putI (ci := 8) (k0 := 2) tyX8 rfl sw_in8 tyX8_ok nmX8 (by decide) lk_X8_25 rfl (tyX8_ok 2 (by decide)) rfl hi hs rfl rfl hd k
theorem lk_X8_28 : Cond.fieldLink RX8 28 (TX8 3).1 (TX8 3).2.1 (TX8 3).2.2.1 ∈ sw_T := sw_T_of (i := 387) (by decide +kernel) rfl
theorem gf_X8_28 (hi : i < 84) (hs : sw_s i = (0, 8)) (hd : decode cc pc = .ok (.getfield 28, 3)) (k : sw_Go l E K RX8 cc nL ret (pc + 3) lv (.int (σ.1 i 3) :: st) σ r σ') : sw_Go l E K RX8 cc nL ret pc lv (.ref i :: st) σ r σ' := sw_get (ci := 8) (k0 := 3) rfl sw_in8 (by decide) lk_X8_28 rfl hi hs hd k
theorem pf_X8_28 {x : Int32} (hi : i < 84) (hs : sw_s i = (0, 8)) (hd : decode cc pc = .ok (.putfield 28, 3)) (k : sw_Go l E K RX8 cc nL ret (pc + 3) lv st (sw_w σ i 3 x) r σ') : sw_Go l E K RX8 cc nL ret pc lv (.int x :: .ref i :: st) σ r σ' := sw_putI (ci := 8) (k0 := 3) tyX8 rfl sw_in8 tyX8_ok nmX8 (by decide) lk_X8_28 rfl (tyX8_ok 3 (by decide)) rfl hi hs rfl rfl hd k
theorem lk_X8_31 : Cond.fieldLink RX8 31 (TX8 4).1 (TX8 4).2.1 (TX8 4).2.2.1 ∈ sw_T := sw_T_of (i := 390) (by decide +kernel) rfl
theorem gf_X8_31 (hi : i < 84) (hs : sw_s i = (0, 8)) (hd : decode cc pc = .ok (.getfield 31, 3)) (k : sw_Go l E K RX8 cc nL ret (pc + 3) lv (.int (σ.1 i 4) :: st) σ r σ') : sw_Go l E K RX8 cc nL ret pc lv (.ref i :: st) σ r σ' := sw_get (ci := 8) (k0 := 4) rfl sw_in8 (by decide) lk_X8_31 rfl hi hs hd k
theorem pf_X8_31 {x : Int32} (hi : i < 84) (hs : sw_s i = (0, 8)) (hd : decode cc pc = .ok (.putfield 31, 3)) (k : sw_Go l E K RX8 cc nL ret (pc + 3) lv st (sw_w σ i 4 x) r σ') : sw_Go l E K RX8 cc nL ret pc lv (.int x :: .ref i :: st) σ r σ' := sw_putI (ci := 8) (k0 := 4) tyX8 rfl sw_in8 tyX8_ok nmX8 (by decide) lk_X8_31 rfl (tyX8_ok 4 (by decide)) rfl hi hs rfl rfl hd k
theorem lk_X8_34 : Cond.fieldLink RX8 34 (TX8 5).1 (TX8 5).2.1 (TX8 5).2.2.1 ∈ sw_T := sw_T_of (i := 395) (by decide +kernel) rfl
theorem gf_X8_34 (hi : i < 84) (hs : sw_s i = (0, 8)) (hd : decode cc pc = .ok (.getfield 34, 3)) (k : sw_Go l E K RX8 cc nL ret (pc + 3) lv (.int (σ.1 i 5) :: st) σ r σ') : sw_Go l E K RX8 cc nL ret pc lv (.ref i :: st) σ r σ' := sw_get (ci := 8) (k0 := 5) rfl sw_in8 (by decide) lk_X8_34 rfl hi hs hd k
theorem pf_X8_34 {x : Int32} (hi : i < 84) (hs : sw_s i = (0, 8)) (hd : decode cc pc = .ok (.putfield 34, 3)) (k : sw_Go l E K RX8 cc nL ret (pc + 3) lv st (sw_w σ i 5 x) r σ') : sw_Go l E K RX8 cc nL ret pc lv (.int x :: .ref i :: st) σ r σ' := sw_putI (ci := 8) (k0 := 5) tyX8 rfl sw_in8 tyX8_ok nmX8 (by decide) lk_X8_34 rfl (tyX8_ok 5 (by decide)) rfl hi hs rfl rfl hd k
theorem lk_X10_7 : Cond.fieldLink RX10 7 (TX10 0).1 (TX10 0).2.1 (TX10 0).2.2.1 ∈ sw_T := sw_T_of (i := 1261) (by decide +kernel) rfl
theorem gf_X10_7 (hi : i < 84) (hs : sw_s i = (0, 10)) (hd : decode cc pc = .ok (.getfield 7, 3)) (k : sw_Go l E K RX10 cc nL ret (pc + 3) lv (.ref (i + 1) :: st) σ r σ') : sw_Go l E K RX10 cc nL ret pc lv (.ref i :: st) σ r σ' := sw_get (ci := 10) (k0 := 0) rfl sw_in10 (by decide) lk_X10_7 rfl hi hs hd k
theorem lk_X10_13 : Cond.fieldLink RX10 13 (TX10 3).1 (TX10 3).2.1 (TX10 3).2.2.1 ∈ sw_T := sw_T_of (i := 1264) (by decide +kernel) rfl
theorem gf_X10_13 (hi : i < 84) (hs : sw_s i = (0, 10)) (hd : decode cc pc = .ok (.getfield 13, 3)) (k : sw_Go l E K RX10 cc nL ret (pc + 3) lv (.int (σ.1 i 3) :: st) σ r σ') : sw_Go l E K RX10 cc nL ret pc lv (.ref i :: st) σ r σ' := sw_get (ci := 10) (k0 := 3) rfl sw_in10 (by decide) lk_X10_13 rfl hi hs hd k
theorem pf_X10_13 {x : Int32} (hi : i < 84) (hs : sw_s i = (0, 10)) (hd : decode cc pc = .ok (.putfield 13, 3)) (k : sw_Go l E K RX10 cc nL ret (pc + 3) lv st (sw_w σ i 3 x) r σ') : sw_Go l E K RX10 cc nL ret pc lv (.int x :: .ref i :: st) σ r σ' := sw_putI (ci := 10) (k0 := 3) tyX10 rfl sw_in10 tyX10_ok nmX10 (by decide) lk_X10_13 rfl (tyX10_ok 3 (by decide)) rfl hi hs rfl rfl hd k
theorem lk_X10_17 : Cond.fieldLink RX10 17 (TX10 10).1 (TX10 10).2.1 (TX10 10).2.2.1 ∈ sw_T := sw_T_of (i := 1271) (by decide +kernel) rfl
theorem gf_X10_17 (hi : i < 84) (hs : sw_s i = (0, 10)) (hd : decode cc pc = .ok (.getfield 17, 3)) (k : sw_Go l E K RX10 cc nL ret (pc + 3) lv (.ref (i + 2) :: st) σ r σ') : sw_Go l E K RX10 cc nL ret pc lv (.ref i :: st) σ r σ' := sw_get (ci := 10) (k0 := 10) rfl sw_in10 (by decide) lk_X10_17 rfl hi hs hd k
theorem lk_X10_21 : Cond.fieldLink RX10 21 (TX10 11).1 (TX10 11).2.1 (TX10 11).2.2.1 ∈ sw_T := sw_T_of (i := 1272) (by decide +kernel) rfl
theorem gf_X10_21 (hi : i < 84) (hs : sw_s i = (0, 10)) (hd : decode cc pc = .ok (.getfield 21, 3)) (k : sw_Go l E K RX10 cc nL ret (pc + 3) lv (.ref (i + 3) :: st) σ r σ') : sw_Go l E K RX10 cc nL ret pc lv (.ref i :: st) σ r σ' := sw_get (ci := 10) (k0 := 11) rfl sw_in10 (by decide) lk_X10_21 rfl hi hs hd k
theorem lk_X10_24 : Cond.fieldLink RX10 24 (TX10 12).1 (TX10 12).2.1 (TX10 12).2.2.1 ∈ sw_T := sw_T_of (i := 1273) (by decide +kernel) rfl
theorem gf_X10_24 (hi : i < 84) (hs : sw_s i = (0, 10)) (hd : decode cc pc = .ok (.getfield 24, 3)) (k : sw_Go l E K RX10 cc nL ret (pc + 3) lv (.ref (i + 4) :: st) σ r σ') : sw_Go l E K RX10 cc nL ret pc lv (.ref i :: st) σ r σ' := sw_get (ci := 10) (k0 := 12) rfl sw_in10 (by decide) lk_X10_24 rfl hi hs hd k
theorem lk_X10_27 : Cond.fieldLink RX10 27 (TX10 13).1 (TX10 13).2.1 (TX10 13).2.2.1 ∈ sw_T := sw_T_of (i := 1274) (by decide +kernel) rfl
theorem gf_X10_27 (hi : i < 84) (hs : sw_s i = (0, 10)) (hd : decode cc pc = .ok (.getfield 27, 3)) (k : sw_Go l E K RX10 cc nL ret (pc + 3) lv (.ref (i + 5) :: st) σ r σ') : sw_Go l E K RX10 cc nL ret pc lv (.ref i :: st) σ r σ' := sw_get (ci := 10) (k0 := 13) rfl sw_in10 (by decide) lk_X10_27 rfl hi hs hd k
theorem lk_X10_30 : Cond.fieldLink RX10 30 (TX10 14).1 (TX10 14).2.1 (TX10 14).2.2.1 ∈ sw_T := sw_T_of (i := 1275) (by decide +kernel) rfl
theorem gf_X10_30 (hi : i < 84) (hs : sw_s i = (0, 10)) (hd : decode cc pc = .ok (.getfield 30, 3)) (k : sw_Go l E K RX10 cc nL ret (pc + 3) lv (.ref (i + 6) :: st) σ r σ') : sw_Go l E K RX10 cc nL ret pc lv (.ref i :: st) σ r σ' := sw_get (ci := 10) (k0 := 14) rfl sw_in10 (by decide) lk_X10_30 rfl hi hs hd k
theorem lk_X10_33 : Cond.fieldLink RX10 33 (TX10 15).1 (TX10 15).2.1 (TX10 15).2.2.1 ∈ sw_T := sw_T_of (i := 1276) (by decide +kernel) rfl
theorem gf_X10_33 (hi : i < 84) (hs : sw_s i = (0, 10)) (hd : decode cc pc = .ok (.getfield 33, 3)) (k : sw_Go l E K RX10 cc nL ret (pc + 3) lv (.ref (i + 7) :: st) σ r σ') : sw_Go l E K RX10 cc nL ret pc lv (.ref i :: st) σ r σ' := sw_get (ci := 10) (k0 := 15) rfl sw_in10 (by decide) lk_X10_33 rfl hi hs hd k
theorem lk_X10_36 : Cond.fieldLink RX10 36 (TX10 16).1 (TX10 16).2.1 (TX10 16).2.2.1 ∈ sw_T := sw_T_of (i := 1277) (by decide +kernel) rfl
theorem gf_X10_36 (hi : i < 84) (hs : sw_s i = (0, 10)) (hd : decode cc pc = .ok (.getfield 36, 3)) (k : sw_Go l E K RX10 cc nL ret (pc + 3) lv (.ref (i + 8) :: st) σ r σ') : sw_Go l E K RX10 cc nL ret pc lv (.ref i :: st) σ r σ' := sw_get (ci := 10) (k0 := 16) rfl sw_in10 (by decide) lk_X10_36 rfl hi hs hd k
theorem lk_X10_39 : Cond.fieldLink RX10 39 (TX10 26).1 (TX10 26).2.1 (TX10 26).2.2.1 ∈ sw_T := sw_T_of (i := 1287) (by decide +kernel) rfl
theorem gf_X10_39 (hi : i < 84) (hs : sw_s i = (0, 10)) (hd : decode cc pc = .ok (.getfield 39, 3)) (k : sw_Go l E K RX10 cc nL ret (pc + 3) lv (.ref (i + 9) :: st) σ r σ') : sw_Go l E K RX10 cc nL ret pc lv (.ref i :: st) σ r σ' := sw_get (ci := 10) (k0 := 26) rfl sw_in10 (by decide) lk_X10_39 rfl hi hs hd k
theorem lk_X10_42 : Cond.fieldLink RX10 42 (TX10 27).1 (TX10 27).2.1 (TX10 27).2.2.1 ∈ sw_T := sw_T_of (i := 1288) (by decide +kernel) rfl
theorem gf_X10_42 (hi : i < 84) (hs : sw_s i = (0, 10)) (hd : decode cc pc = .ok (.getfield 42, 3)) (k : sw_Go l E K RX10 cc nL ret (pc + 3) lv (.ref (i + 10) :: st) σ r σ') : sw_Go l E K RX10 cc nL ret pc lv (.ref i :: st) σ r σ' := sw_get (ci := 10) (k0 := 27) rfl sw_in10 (by decide) lk_X10_42 rfl hi hs hd k
theorem lk_X10_45 : Cond.fieldLink RX10 45 (TX10 28).1 (TX10 28).2.1 (TX10 28).2.2.1 ∈ sw_T := sw_T_of (i := 1289) (by decide +kernel) rfl
theorem gf_X10_45 (hi : i < 84) (hs : sw_s i = (0, 10)) (hd : decode cc pc = .ok (.getfield 45, 3)) (k : sw_Go l E K RX10 cc nL ret (pc + 3) lv (.ref (i + 11) :: st) σ r σ') : sw_Go l E K RX10 cc nL ret pc lv (.ref i :: st) σ r σ' := sw_get (ci := 10) (k0 := 28) rfl sw_in10 (by decide) lk_X10_45 rfl hi hs hd k
theorem lk_X10_48 : Cond.fieldLink RX10 48 (TX10 29).1 (TX10 29).2.1 (TX10 29).2.2.1 ∈ sw_T := sw_T_of (i := 1290) (by decide +kernel) rfl
theorem gf_X10_48 (hi : i < 84) (hs : sw_s i = (0, 10)) (hd : decode cc pc = .ok (.getfield 48, 3)) (k : sw_Go l E K RX10 cc nL ret (pc + 3) lv (.ref (i + 12) :: st) σ r σ') : sw_Go l E K RX10 cc nL ret pc lv (.ref i :: st) σ r σ' := sw_get (ci := 10) (k0 := 29) rfl sw_in10 (by decide) lk_X10_48 rfl hi hs hd k
theorem lk_X10_51 : Cond.fieldLink RX10 51 (TX10 30).1 (TX10 30).2.1 (TX10 30).2.2.1 ∈ sw_T := sw_T_of (i := 1291) (by decide +kernel) rfl
theorem gf_X10_51 (hi : i < 84) (hs : sw_s i = (0, 10)) (hd : decode cc pc = .ok (.getfield 51, 3)) (k : sw_Go l E K RX10 cc nL ret (pc + 3) lv (.ref (i + 13) :: st) σ r σ') : sw_Go l E K RX10 cc nL ret pc lv (.ref i :: st) σ r σ' := sw_get (ci := 10) (k0 := 30) rfl sw_in10 (by decide) lk_X10_51 rfl hi hs hd k
theorem lk_X10_54 : Cond.fieldLink RX10 54 (TX10 31).1 (TX10 31).2.1 (TX10 31).2.2.1 ∈ sw_T := sw_T_of (i := 1292) (by decide +kernel) rfl
theorem gf_X10_54 (hi : i < 84) (hs : sw_s i = (0, 10)) (hd : decode cc pc = .ok (.getfield 54, 3)) (k : sw_Go l E K RX10 cc nL ret (pc + 3) lv (.ref (i + 14) :: st) σ r σ') : sw_Go l E K RX10 cc nL ret pc lv (.ref i :: st) σ r σ' := sw_get (ci := 10) (k0 := 31) rfl sw_in10 (by decide) lk_X10_54 rfl hi hs hd k
theorem lk_X10_57 : Cond.fieldLink RX10 57 (TX10 32).1 (TX10 32).2.1 (TX10 32).2.2.1 ∈ sw_T := sw_T_of (i := 1293) (by decide +kernel) rfl
theorem gf_X10_57 (hi : i < 84) (hs : sw_s i = (0, 10)) (hd : decode cc pc = .ok (.getfield 57, 3)) (k : sw_Go l E K RX10 cc nL ret (pc + 3) lv (.ref (i + 15) :: st) σ r σ') : sw_Go l E K RX10 cc nL ret pc lv (.ref i :: st) σ r σ' := sw_get (ci := 10) (k0 := 32) rfl sw_in10 (by decide) lk_X10_57 rfl hi hs hd k
theorem lk_X10_60 : Cond.fieldLink RX10 60 (TX10 49).1 (TX10 49).2.1 (TX10 49).2.2.1 ∈ sw_T := sw_T_of (i := 1310) (by decide +kernel) rfl
theorem gf_X10_60 (hi : i < 84) (hs : sw_s i = (0, 10)) (hd : decode cc pc = .ok (.getfield 60, 3)) (k : sw_Go l E K RX10 cc nL ret (pc + 3) lv (.ref (i + 16) :: st) σ r σ') : sw_Go l E K RX10 cc nL ret pc lv (.ref i :: st) σ r σ' := sw_get (ci := 10) (k0 := 49) rfl sw_in10 (by decide) lk_X10_60 rfl hi hs hd k
theorem lk_X10_63 : Cond.fieldLink RX10 63 (TX10 50).1 (TX10 50).2.1 (TX10 50).2.2.1 ∈ sw_T := sw_T_of (i := 1311) (by decide +kernel) rfl
theorem gf_X10_63 (hi : i < 84) (hs : sw_s i = (0, 10)) (hd : decode cc pc = .ok (.getfield 63, 3)) (k : sw_Go l E K RX10 cc nL ret (pc + 3) lv (.ref (i + 17) :: st) σ r σ') : sw_Go l E K RX10 cc nL ret pc lv (.ref i :: st) σ r σ' := sw_get (ci := 10) (k0 := 50) rfl sw_in10 (by decide) lk_X10_63 rfl hi hs hd k
theorem lk_X10_66 : Cond.fieldLink RX10 66 (TX10 51).1 (TX10 51).2.1 (TX10 51).2.2.1 ∈ sw_T := sw_T_of (i := 1312) (by decide +kernel) rfl
theorem gf_X10_66 (hi : i < 84) (hs : sw_s i = (0, 10)) (hd : decode cc pc = .ok (.getfield 66, 3)) (k : sw_Go l E K RX10 cc nL ret (pc + 3) lv (.ref (i + 18) :: st) σ r σ') : sw_Go l E K RX10 cc nL ret pc lv (.ref i :: st) σ r σ' := sw_get (ci := 10) (k0 := 51) rfl sw_in10 (by decide) lk_X10_66 rfl hi hs hd k
theorem lk_X10_69 : Cond.fieldLink RX10 69 (TX10 54).1 (TX10 54).2.1 (TX10 54).2.2.1 ∈ sw_T := sw_T_of (i := 1315) (by decide +kernel) rfl
theorem gf_X10_69 (hi : i < 84) (hs : sw_s i = (0, 10)) (hd : decode cc pc = .ok (.getfield 69, 3)) (k : sw_Go l E K RX10 cc nL ret (pc + 3) lv (.ref (i + 19) :: st) σ r σ') : sw_Go l E K RX10 cc nL ret pc lv (.ref i :: st) σ r σ' := sw_get (ci := 10) (k0 := 54) rfl sw_in10 (by decide) lk_X10_69 rfl hi hs hd k
theorem lk_X10_72 : Cond.fieldLink RX10 72 (TX10 55).1 (TX10 55).2.1 (TX10 55).2.2.1 ∈ sw_T := sw_T_of (i := 1316) (by decide +kernel) rfl
theorem gf_X10_72 (hi : i < 84) (hs : sw_s i = (0, 10)) (hd : decode cc pc = .ok (.getfield 72, 3)) (k : sw_Go l E K RX10 cc nL ret (pc + 3) lv (.ref (i + 20) :: st) σ r σ') : sw_Go l E K RX10 cc nL ret pc lv (.ref i :: st) σ r σ' := sw_get (ci := 10) (k0 := 55) rfl sw_in10 (by decide) lk_X10_72 rfl hi hs hd k
theorem lk_X10_75 : Cond.fieldLink RX10 75 (TX10 56).1 (TX10 56).2.1 (TX10 56).2.2.1 ∈ sw_T := sw_T_of (i := 1317) (by decide +kernel) rfl
theorem gf_X10_75 (hi : i < 84) (hs : sw_s i = (0, 10)) (hd : decode cc pc = .ok (.getfield 75, 3)) (k : sw_Go l E K RX10 cc nL ret (pc + 3) lv (.ref (i + 21) :: st) σ r σ') : sw_Go l E K RX10 cc nL ret pc lv (.ref i :: st) σ r σ' := sw_get (ci := 10) (k0 := 56) rfl sw_in10 (by decide) lk_X10_75 rfl hi hs hd k
theorem lk_X10_78 : Cond.fieldLink RX10 78 (TX10 58).1 (TX10 58).2.1 (TX10 58).2.2.1 ∈ sw_T := sw_T_of (i := 1319) (by decide +kernel) rfl
theorem gf_X10_78 (hi : i < 84) (hs : sw_s i = (0, 10)) (hd : decode cc pc = .ok (.getfield 78, 3)) (k : sw_Go l E K RX10 cc nL ret (pc + 3) lv (.ref (i + 22) :: st) σ r σ') : sw_Go l E K RX10 cc nL ret pc lv (.ref i :: st) σ r σ' := sw_get (ci := 10) (k0 := 58) rfl sw_in10 (by decide) lk_X10_78 rfl hi hs hd k
theorem lk_X10_81 : Cond.fieldLink RX10 81 (TX10 59).1 (TX10 59).2.1 (TX10 59).2.2.1 ∈ sw_T := sw_T_of (i := 1320) (by decide +kernel) rfl
theorem gf_X10_81 (hi : i < 84) (hs : sw_s i = (0, 10)) (hd : decode cc pc = .ok (.getfield 81, 3)) (k : sw_Go l E K RX10 cc nL ret (pc + 3) lv (.ref (i + 23) :: st) σ r σ') : sw_Go l E K RX10 cc nL ret pc lv (.ref i :: st) σ r σ' := sw_get (ci := 10) (k0 := 59) rfl sw_in10 (by decide) lk_X10_81 rfl hi hs hd k
theorem lk_X10_84 : Cond.fieldLink RX10 84 (TX10 60).1 (TX10 60).2.1 (TX10 60).2.2.1 ∈ sw_T := sw_T_of (i := 1321) (by decide +kernel) rfl
theorem gf_X10_84 (hi : i < 84) (hs : sw_s i = (0, 10)) (hd : decode cc pc = .ok (.getfield 84, 3)) (k : sw_Go l E K RX10 cc nL ret (pc + 3) lv (.ref (i + 24) :: st) σ r σ') : sw_Go l E K RX10 cc nL ret pc lv (.ref i :: st) σ r σ' := sw_get (ci := 10) (k0 := 60) rfl sw_in10 (by decide) lk_X10_84 rfl hi hs hd k
theorem lk_X10_87 : Cond.fieldLink RX10 87 (TX10 61).1 (TX10 61).2.1 (TX10 61).2.2.1 ∈ sw_T := sw_T_of (i := 1322) (by decide +kernel) rfl
theorem gf_X10_87 (hi : i < 84) (hs : sw_s i = (0, 10)) (hd : decode cc pc = .ok (.getfield 87, 3)) (k : sw_Go l E K RX10 cc nL ret (pc + 3) lv (.ref (i + 25) :: st) σ r σ') : sw_Go l E K RX10 cc nL ret pc lv (.ref i :: st) σ r σ' := sw_get (ci := 10) (k0 := 61) rfl sw_in10 (by decide) lk_X10_87 rfl hi hs hd k
theorem lk_X10_90 : Cond.fieldLink RX10 90 (TX10 62).1 (TX10 62).2.1 (TX10 62).2.2.1 ∈ sw_T := sw_T_of (i := 1323) (by decide +kernel) rfl
theorem gf_X10_90 (hi : i < 84) (hs : sw_s i = (0, 10)) (hd : decode cc pc = .ok (.getfield 90, 3)) (k : sw_Go l E K RX10 cc nL ret (pc + 3) lv (.ref (i + 26) :: st) σ r σ') : sw_Go l E K RX10 cc nL ret pc lv (.ref i :: st) σ r σ' := sw_get (ci := 10) (k0 := 62) rfl sw_in10 (by decide) lk_X10_90 rfl hi hs hd k
theorem lk_X10_93 : Cond.fieldLink RX10 93 (TX10 63).1 (TX10 63).2.1 (TX10 63).2.2.1 ∈ sw_T := sw_T_of (i := 1324) (by decide +kernel) rfl
theorem gf_X10_93 (hi : i < 84) (hs : sw_s i = (0, 10)) (hd : decode cc pc = .ok (.getfield 93, 3)) (k : sw_Go l E K RX10 cc nL ret (pc + 3) lv (.ref (i + 27) :: st) σ r σ') : sw_Go l E K RX10 cc nL ret pc lv (.ref i :: st) σ r σ' := sw_get (ci := 10) (k0 := 63) rfl sw_in10 (by decide) lk_X10_93 rfl hi hs hd k
theorem lk_X10_96 : Cond.fieldLink RX10 96 (TX10 64).1 (TX10 64).2.1 (TX10 64).2.2.1 ∈ sw_T := sw_T_of (i := 1325) (by decide +kernel) rfl
theorem gf_X10_96 (hi : i < 84) (hs : sw_s i = (0, 10)) (hd : decode cc pc = .ok (.getfield 96, 3)) (k : sw_Go l E K RX10 cc nL ret (pc + 3) lv (.ref (i + 28) :: st) σ r σ') : sw_Go l E K RX10 cc nL ret pc lv (.ref i :: st) σ r σ' := sw_get (ci := 10) (k0 := 64) rfl sw_in10 (by decide) lk_X10_96 rfl hi hs hd k
theorem lk_X10_99 : Cond.fieldLink RX10 99 (TX10 65).1 (TX10 65).2.1 (TX10 65).2.2.1 ∈ sw_T := sw_T_of (i := 1326) (by decide +kernel) rfl
theorem gf_X10_99 (hi : i < 84) (hs : sw_s i = (0, 10)) (hd : decode cc pc = .ok (.getfield 99, 3)) (k : sw_Go l E K RX10 cc nL ret (pc + 3) lv (.ref (i + 29) :: st) σ r σ') : sw_Go l E K RX10 cc nL ret pc lv (.ref i :: st) σ r σ' := sw_get (ci := 10) (k0 := 65) rfl sw_in10 (by decide) lk_X10_99 rfl hi hs hd k
theorem lk_X10_103 : Cond.fieldLink RX10 103 (TX10 68).1 (TX10 68).2.1 (TX10 68).2.2.1 ∈ sw_T := sw_T_of (i := 1329) (by decide +kernel) rfl
theorem gf_X10_103 (hi : i < 84) (hs : sw_s i = (0, 10)) (hd : decode cc pc = .ok (.getfield 103, 3)) (k : sw_Go l E K RX10 cc nL ret (pc + 3) lv (.ref (i + 30) :: st) σ r σ') : sw_Go l E K RX10 cc nL ret pc lv (.ref i :: st) σ r σ' := sw_get (ci := 10) (k0 := 68) rfl sw_in10 (by decide) lk_X10_103 rfl hi hs hd k
theorem lk_X10_106 : Cond.fieldLink RX10 106 (TX10 69).1 (TX10 69).2.1 (TX10 69).2.2.1 ∈ sw_T := sw_T_of (i := 1330) (by decide +kernel) rfl
theorem gf_X10_106 (hi : i < 84) (hs : sw_s i = (0, 10)) (hd : decode cc pc = .ok (.getfield 106, 3)) (k : sw_Go l E K RX10 cc nL ret (pc + 3) lv (.ref (i + 31) :: st) σ r σ') : sw_Go l E K RX10 cc nL ret pc lv (.ref i :: st) σ r σ' := sw_get (ci := 10) (k0 := 69) rfl sw_in10 (by decide) lk_X10_106 rfl hi hs hd k
theorem lk_X10_109 : Cond.fieldLink RX10 109 (TX10 70).1 (TX10 70).2.1 (TX10 70).2.2.1 ∈ sw_T := sw_T_of (i := 1331) (by decide +kernel) rfl
theorem gf_X10_109 (hi : i < 84) (hs : sw_s i = (0, 10)) (hd : decode cc pc = .ok (.getfield 109, 3)) (k : sw_Go l E K RX10 cc nL ret (pc + 3) lv (.ref (i + 32) :: st) σ r σ') : sw_Go l E K RX10 cc nL ret pc lv (.ref i :: st) σ r σ' := sw_get (ci := 10) (k0 := 70) rfl sw_in10 (by decide) lk_X10_109 rfl hi hs hd k
theorem lk_X10_112 : Cond.fieldLink RX10 112 (TX10 71).1 (TX10 71).2.1 (TX10 71).2.2.1 ∈ sw_T := sw_T_of (i := 1332) (by decide +kernel) rfl
theorem gf_X10_112 (hi : i < 84) (hs : sw_s i = (0, 10)) (hd : decode cc pc = .ok (.getfield 112, 3)) (k : sw_Go l E K RX10 cc nL ret (pc + 3) lv (.ref (i + 33) :: st) σ r σ') : sw_Go l E K RX10 cc nL ret pc lv (.ref i :: st) σ r σ' := sw_get (ci := 10) (k0 := 71) rfl sw_in10 (by decide) lk_X10_112 rfl hi hs hd k
theorem lk_X10_115 : Cond.fieldLink RX10 115 (TX10 72).1 (TX10 72).2.1 (TX10 72).2.2.1 ∈ sw_T := sw_T_of (i := 1333) (by decide +kernel) rfl
theorem gf_X10_115 (hi : i < 84) (hs : sw_s i = (0, 10)) (hd : decode cc pc = .ok (.getfield 115, 3)) (k : sw_Go l E K RX10 cc nL ret (pc + 3) lv (.ref (i + 34) :: st) σ r σ') : sw_Go l E K RX10 cc nL ret pc lv (.ref i :: st) σ r σ' := sw_get (ci := 10) (k0 := 72) rfl sw_in10 (by decide) lk_X10_115 rfl hi hs hd k
theorem lk_X10_118 : Cond.fieldLink RX10 118 (TX10 1).1 (TX10 1).2.1 (TX10 1).2.2.1 ∈ sw_T := sw_T_of (i := 1262) (by decide +kernel) rfl
theorem gf_X10_118 (hi : i < 84) (hs : sw_s i = (0, 10)) (hd : decode cc pc = .ok (.getfield 118, 3)) (k : sw_Go l E K RX10 cc nL ret (pc + 3) lv (.int (σ.1 i 1) :: st) σ r σ') : sw_Go l E K RX10 cc nL ret pc lv (.ref i :: st) σ r σ' := sw_get (ci := 10) (k0 := 1) rfl sw_in10 (by decide) lk_X10_118 rfl hi hs hd k
theorem pf_X10_118 {x : Int32} (hi : i < 84) (hs : sw_s i = (0, 10)) (hd : decode cc pc = .ok (.putfield 118, 3)) (k : sw_Go l E K RX10 cc nL ret (pc + 3) lv st (sw_w σ i 1 x) r σ') : sw_Go l E K RX10 cc nL ret pc lv (.int x :: .ref i :: st) σ r σ' := sw_putI (ci := 10) (k0 := 1) tyX10 rfl sw_in10 tyX10_ok nmX10 (by decide) lk_X10_118 rfl (tyX10_ok 1 (by decide)) rfl hi hs rfl rfl hd k
theorem lk_X10_125 : Cond.fieldLink RX10 125 (TX10 4).1 (TX10 4).2.1 (TX10 4).2.2.1 ∈ sw_T := sw_T_of (i := 1265) (by decide +kernel) rfl
theorem gf_X10_125 (hi : i < 84) (hs : sw_s i = (0, 10)) (hd : decode cc pc = .ok (.getfield 125, 3)) (k : sw_Go l E K RX10 cc nL ret (pc + 3) lv (.int (σ.1 i 4) :: st) σ r σ') : sw_Go l E K RX10 cc nL ret pc lv (.ref i :: st) σ r σ' := sw_get (ci := 10) (k0 := 4) rfl sw_in10 (by decide) lk_X10_125 rfl hi hs hd k
theorem pf_X10_125 {x : Int32} (hi : i < 84) (hs : sw_s i = (0, 10)) (hd : decode cc pc = .ok (.putfield 125, 3)) (k : sw_Go l E K RX10 cc nL ret (pc + 3) lv st (sw_w σ i 4 x) r σ') : sw_Go l E K RX10 cc nL ret pc lv (.int x :: .ref i :: st) σ r σ' := sw_putI (ci := 10) (k0 := 4) tyX10 rfl sw_in10 tyX10_ok nmX10 (by decide) lk_X10_125 rfl (tyX10_ok 4 (by decide)) rfl hi hs rfl rfl hd k
theorem lk_X10_128 : Cond.fieldLink RX10 128 (TX10 5).1 (TX10 5).2.1 (TX10 5).2.2.1 ∈ sw_T := sw_T_of (i := 1266) (by decide +kernel) rfl
theorem gf_X10_128 (hi : i < 84) (hs : sw_s i = (0, 10)) (hd : decode cc pc = .ok (.getfield 128, 3)) (k : sw_Go l E K RX10 cc nL ret (pc + 3) lv (.int (σ.1 i 5) :: st) σ r σ') : sw_Go l E K RX10 cc nL ret pc lv (.ref i :: st) σ r σ' := sw_get (ci := 10) (k0 := 5) rfl sw_in10 (by decide) lk_X10_128 rfl hi hs hd k
theorem pf_X10_128 {x : Int32} (hi : i < 84) (hs : sw_s i = (0, 10)) (hd : decode cc pc = .ok (.putfield 128, 3)) (k : sw_Go l E K RX10 cc nL ret (pc + 3) lv st (sw_w σ i 5 x) r σ') : sw_Go l E K RX10 cc nL ret pc lv (.int x :: .ref i :: st) σ r σ' := sw_putI (ci := 10) (k0 := 5) tyX10 rfl sw_in10 tyX10_ok nmX10 (by decide) lk_X10_128 rfl (tyX10_ok 5 (by decide)) rfl hi hs rfl rfl hd k
theorem lk_X10_135 : Cond.fieldLink RX10 135 (TX10 7).1 (TX10 7).2.1 (TX10 7).2.2.1 ∈ sw_T := sw_T_of (i := 1268) (by decide +kernel) rfl
theorem gf_X10_135 (hi : i < 84) (hs : sw_s i = (0, 10)) (hd : decode cc pc = .ok (.getfield 135, 3)) (k : sw_Go l E K RX10 cc nL ret (pc + 3) lv (.int (σ.1 i 7) :: st) σ r σ') : sw_Go l E K RX10 cc nL ret pc lv (.ref i :: st) σ r σ' := sw_get (ci := 10) (k0 := 7) rfl sw_in10 (by decide) lk_X10_135 rfl hi hs hd k
theorem pf_X10_135 {x : Int32} (hi : i < 84) (hs : sw_s i = (0, 10)) (hd : decode cc pc = .ok (.putfield 135, 3)) (k : sw_Go l E K RX10 cc nL ret (pc + 3) lv st (sw_w σ i 7 x) r σ') : sw_Go l E K RX10 cc nL ret pc lv (.int x :: .ref i :: st) σ r σ' := sw_putI (ci := 10) (k0 := 7) tyX10 rfl sw_in10 tyX10_ok nmX10 (by decide) lk_X10_135 rfl (tyX10_ok 7 (by decide)) rfl hi hs rfl rfl hd k
theorem lk_X10_138 : Cond.fieldLink RX10 138 (TX10 9).1 (TX10 9).2.1 (TX10 9).2.2.1 ∈ sw_T := sw_T_of (i := 1270) (by decide +kernel) rfl
theorem gf_X10_138 (hi : i < 84) (hs : sw_s i = (0, 10)) (hd : decode cc pc = .ok (.getfield 138, 3)) (k : sw_Go l E K RX10 cc nL ret (pc + 3) lv (.long (σ.2.1 i 9) :: st) σ r σ') : sw_Go l E K RX10 cc nL ret pc lv (.ref i :: st) σ r σ' := sw_get (ci := 10) (k0 := 9) rfl sw_in10 (by decide) lk_X10_138 rfl hi hs hd k
theorem pf_X10_138 {x : Int64} (hi : i < 84) (hs : sw_s i = (0, 10)) (hd : decode cc pc = .ok (.putfield 138, 3)) (k : sw_Go l E K RX10 cc nL ret (pc + 3) lv st (sw_wL σ i 9 x) r σ') : sw_Go l E K RX10 cc nL ret pc lv (.long x :: .ref i :: st) σ r σ' := sw_putL (ci := 10) (k0 := 9) tyX10 rfl sw_in10 tyX10_ok nmX10 (by decide) lk_X10_138 rfl (tyX10_ok 9 (by decide)) rfl hi hs hd k
theorem lk_X10_142 : Cond.fieldLink RX10 142 (TX10 8).1 (TX10 8).2.1 (TX10 8).2.2.1 ∈ sw_T := sw_T_of (i := 1269) (by decide +kernel) rfl
theorem gf_X10_142 (hi : i < 84) (hs : sw_s i = (0, 10)) (hd : decode cc pc = .ok (.getfield 142, 3)) (k : sw_Go l E K RX10 cc nL ret (pc + 3) lv (.int (σ.1 i 8) :: st) σ r σ') : sw_Go l E K RX10 cc nL ret pc lv (.ref i :: st) σ r σ' := sw_get (ci := 10) (k0 := 8) rfl sw_in10 (by decide) lk_X10_142 rfl hi hs hd k
theorem pf_X10_142 {x : Int32} (hi : i < 84) (hs : sw_s i = (0, 10)) (hd : decode cc pc = .ok (.putfield 142, 3)) (k : sw_Go l E K RX10 cc nL ret (pc + 3) lv st (sw_w σ i 8 x) r σ') : sw_Go l E K RX10 cc nL ret pc lv (.int x :: .ref i :: st) σ r σ' := sw_putI (ci := 10) (k0 := 8) tyX10 rfl sw_in10 tyX10_ok nmX10 (by decide) lk_X10_142 rfl (tyX10_ok 8 (by decide)) rfl hi hs rfl rfl hd k
theorem lk_X10_145 : Cond.fieldLink RX10 145 (TX10 6).1 (TX10 6).2.1 (TX10 6).2.2.1 ∈ sw_T := sw_T_of (i := 1267) (by decide +kernel) rfl
theorem gf_X10_145 (hi : i < 84) (hs : sw_s i = (0, 10)) (hd : decode cc pc = .ok (.getfield 145, 3)) (k : sw_Go l E K RX10 cc nL ret (pc + 3) lv (.int (σ.1 i 6) :: st) σ r σ') : sw_Go l E K RX10 cc nL ret pc lv (.ref i :: st) σ r σ' := sw_get (ci := 10) (k0 := 6) rfl sw_in10 (by decide) lk_X10_145 rfl hi hs hd k
theorem pf_X10_145 {x : Int32} (hi : i < 84) (hs : sw_s i = (0, 10)) (hd : decode cc pc = .ok (.putfield 145, 3)) (k : sw_Go l E K RX10 cc nL ret (pc + 3) lv st (sw_w σ i 6 x) r σ') : sw_Go l E K RX10 cc nL ret pc lv (.int x :: .ref i :: st) σ r σ' := sw_putI (ci := 10) (k0 := 6) tyX10 rfl sw_in10 tyX10_ok nmX10 (by decide) lk_X10_145 rfl (tyX10_ok 6 (by decide)) rfl hi hs rfl rfl hd k
theorem lk_X10_158 : Cond.fieldLink RX10 158 (TX10 2).1 (TX10 2).2.1 (TX10 2).2.2.1 ∈ sw_T := sw_T_of (i := 1263) (by decide +kernel) rfl
theorem gf_X10_158 (hi : i < 84) (hs : sw_s i = (0, 10)) (hd : decode cc pc = .ok (.getfield 158, 3)) (k : sw_Go l E K RX10 cc nL ret (pc + 3) lv (.int (σ.1 i 2) :: st) σ r σ') : sw_Go l E K RX10 cc nL ret pc lv (.ref i :: st) σ r σ' := sw_get (ci := 10) (k0 := 2) rfl sw_in10 (by decide) lk_X10_158 rfl hi hs hd k
theorem pf_X10_158 {x : Int32} (hi : i < 84) (hs : sw_s i = (0, 10)) (hd : decode cc pc = .ok (.putfield 158, 3)) (k : sw_Go l E K RX10 cc nL ret (pc + 3) lv st (sw_w σ i 2 x) r σ') : sw_Go l E K RX10 cc nL ret pc lv (.int x :: .ref i :: st) σ r σ' := sw_putI (ci := 10) (k0 := 2) tyX10 rfl sw_in10 tyX10_ok nmX10 (by decide) lk_X10_158 rfl (tyX10_ok 2 (by decide)) rfl hi hs rfl rfl hd k
theorem lk_X10_227 : Cond.fieldLink RX10 227 (TX10 33).1 (TX10 33).2.1 (TX10 33).2.2.1 ∈ sw_T := sw_T_of (i := 1294) (by decide +kernel) rfl
theorem gf_X10_227 (hi : i < 84) (hs : sw_s i = (0, 10)) (hd : decode cc pc = .ok (.getfield 227, 3)) (k : sw_Go l E K RX10 cc nL ret (pc + 3) lv (.int (σ.1 i 33) :: st) σ r σ') : sw_Go l E K RX10 cc nL ret pc lv (.ref i :: st) σ r σ' := sw_get (ci := 10) (k0 := 33) rfl sw_in10 (by decide) lk_X10_227 rfl hi hs hd k
theorem pf_X10_227 {x : Int32} (hi : i < 84) (hs : sw_s i = (0, 10)) (hd : decode cc pc = .ok (.putfield 227, 3)) (k : sw_Go l E K RX10 cc nL ret (pc + 3) lv st (sw_w σ i 33 x) r σ') : sw_Go l E K RX10 cc nL ret pc lv (.int x :: .ref i :: st) σ r σ' := sw_putI (ci := 10) (k0 := 33) tyX10 rfl sw_in10 tyX10_ok nmX10 (by decide) lk_X10_227 rfl (tyX10_ok 33 (by decide)) rfl hi hs rfl rfl hd k
theorem lk_X10_230 : Cond.fieldLink RX10 230 (TX10 17).1 (TX10 17).2.1 (TX10 17).2.2.1 ∈ sw_T := sw_T_of (i := 1278) (by decide +kernel) rfl
theorem gf_X10_230 (hi : i < 84) (hs : sw_s i = (0, 10)) (hd : decode cc pc = .ok (.getfield 230, 3)) (k : sw_Go l E K RX10 cc nL ret (pc + 3) lv (.int (σ.1 i 17) :: st) σ r σ') : sw_Go l E K RX10 cc nL ret pc lv (.ref i :: st) σ r σ' := sw_get (ci := 10) (k0 := 17) rfl sw_in10 (by decide) lk_X10_230 rfl hi hs hd k
theorem pf_X10_230 {x : Int32} (hi : i < 84) (hs : sw_s i = (0, 10)) (hd : decode cc pc = .ok (.putfield 230, 3)) (k : sw_Go l E K RX10 cc nL ret (pc + 3) lv st (sw_w σ i 17 x) r σ') : sw_Go l E K RX10 cc nL ret pc lv (.int x :: .ref i :: st) σ r σ' := sw_putI (ci := 10) (k0 := 17) tyX10 rfl sw_in10 tyX10_ok nmX10 (by decide) lk_X10_230 rfl (tyX10_ok 17 (by decide)) rfl hi hs rfl rfl hd k
theorem lk_X10_233 : Cond.fieldLink RX10 233 (TX10 19).1 (TX10 19).2.1 (TX10 19).2.2.1 ∈ sw_T := sw_T_of (i := 1280) (by decide +kernel) rfl
theorem gf_X10_233 (hi : i < 84) (hs : sw_s i = (0, 10)) (hd : decode cc pc = .ok (.getfield 233, 3)) (k : sw_Go l E K RX10 cc nL ret (pc + 3) lv (.int (σ.1 i 19) :: st) σ r σ') : sw_Go l E K RX10 cc nL ret pc lv (.ref i :: st) σ r σ' := sw_get (ci := 10) (k0 := 19) rfl sw_in10 (by decide) lk_X10_233 rfl hi hs hd k
theorem pf_X10_233 {x : Int32} (hi : i < 84) (hs : sw_s i = (0, 10)) (hd : decode cc pc = .ok (.putfield 233, 3)) (k : sw_Go l E K RX10 cc nL ret (pc + 3) lv st (sw_w σ i 19 x) r σ') : sw_Go l E K RX10 cc nL ret pc lv (.int x :: .ref i :: st) σ r σ' := sw_putI (ci := 10) (k0 := 19) tyX10 rfl sw_in10 tyX10_ok nmX10 (by decide) lk_X10_233 rfl (tyX10_ok 19 (by decide)) rfl hi hs rfl rfl hd k
theorem lk_X10_243 : Cond.fieldLink RX10 243 (TX10 23).1 (TX10 23).2.1 (TX10 23).2.2.1 ∈ sw_T := sw_T_of (i := 1284) (by decide +kernel) rfl
theorem gf_X10_243 (hi : i < 84) (hs : sw_s i = (0, 10)) (hd : decode cc pc = .ok (.getfield 243, 3)) (k : sw_Go l E K RX10 cc nL ret (pc + 3) lv (.int (σ.1 i 23) :: st) σ r σ') : sw_Go l E K RX10 cc nL ret pc lv (.ref i :: st) σ r σ' := sw_get (ci := 10) (k0 := 23) rfl sw_in10 (by decide) lk_X10_243 rfl hi hs hd k
theorem pf_X10_243 {x : Int32} (hi : i < 84) (hs : sw_s i = (0, 10)) (hd : decode cc pc = .ok (.putfield 243, 3)) (k : sw_Go l E K RX10 cc nL ret (pc + 3) lv st (sw_w σ i 23 x) r σ') : sw_Go l E K RX10 cc nL ret pc lv (.int x :: .ref i :: st) σ r σ' := sw_putI (ci := 10) (k0 := 23) tyX10 rfl sw_in10 tyX10_ok nmX10 (by decide) lk_X10_243 rfl (tyX10_ok 23 (by decide)) rfl hi hs rfl rfl hd k
theorem lk_X10_246 : Cond.fieldLink RX10 246 (TX10 20).1 (TX10 20).2.1 (TX10 20).2.2.1 ∈ sw_T := sw_T_of (i := 1281) (by decide +kernel) rfl
theorem gf_X10_246 (hi : i < 84) (hs : sw_s i = (0, 10)) (hd : decode cc pc = .ok (.getfield 246, 3)) (k : sw_Go l E K RX10 cc nL ret (pc + 3) lv (.int (σ.1 i 20) :: st) σ r σ') : sw_Go l E K RX10 cc nL ret pc lv (.ref i :: st) σ r σ' := sw_get (ci := 10) (k0 := 20) rfl sw_in10 (by decide) lk_X10_246 rfl hi hs hd k
theorem pf_X10_246 {x : Int32} (hi : i < 84) (hs : sw_s i = (0, 10)) (hd : decode cc pc = .ok (.putfield 246, 3)) (k : sw_Go l E K RX10 cc nL ret (pc + 3) lv st (sw_w σ i 20 x) r σ') : sw_Go l E K RX10 cc nL ret pc lv (.int x :: .ref i :: st) σ r σ' := sw_putI (ci := 10) (k0 := 20) tyX10 rfl sw_in10 tyX10_ok nmX10 (by decide) lk_X10_246 rfl (tyX10_ok 20 (by decide)) rfl hi hs rfl rfl hd k
theorem lk_X10_249 : Cond.fieldLink RX10 249 (TX10 22).1 (TX10 22).2.1 (TX10 22).2.2.1 ∈ sw_T := sw_T_of (i := 1283) (by decide +kernel) rfl
theorem gf_X10_249 (hi : i < 84) (hs : sw_s i = (0, 10)) (hd : decode cc pc = .ok (.getfield 249, 3)) (k : sw_Go l E K RX10 cc nL ret (pc + 3) lv (.int (σ.1 i 22) :: st) σ r σ') : sw_Go l E K RX10 cc nL ret pc lv (.ref i :: st) σ r σ' := sw_get (ci := 10) (k0 := 22) rfl sw_in10 (by decide) lk_X10_249 rfl hi hs hd k
theorem pf_X10_249 {x : Int32} (hi : i < 84) (hs : sw_s i = (0, 10)) (hd : decode cc pc = .ok (.putfield 249, 3)) (k : sw_Go l E K RX10 cc nL ret (pc + 3) lv st (sw_w σ i 22 x) r σ') : sw_Go l E K RX10 cc nL ret pc lv (.int x :: .ref i :: st) σ r σ' := sw_putI (ci := 10) (k0 := 22) tyX10 rfl sw_in10 tyX10_ok nmX10 (by decide) lk_X10_249 rfl (tyX10_ok 22 (by decide)) rfl hi hs rfl rfl hd k
theorem lk_X10_268 : Cond.fieldLink RX10 268 (TX10 24).1 (TX10 24).2.1 (TX10 24).2.2.1 ∈ sw_T := sw_T_of (i := 1285) (by decide +kernel) rfl
theorem gf_X10_268 (hi : i < 84) (hs : sw_s i = (0, 10)) (hd : decode cc pc = .ok (.getfield 268, 3)) (k : sw_Go l E K RX10 cc nL ret (pc + 3) lv (.int (σ.1 i 24) :: st) σ r σ') : sw_Go l E K RX10 cc nL ret pc lv (.ref i :: st) σ r σ' := sw_get (ci := 10) (k0 := 24) rfl sw_in10 (by decide) lk_X10_268 rfl hi hs hd k
theorem pf_X10_268 {x : Int32} (hb : x = 0 ∨ x = 1) (hi : i < 84) (hs : sw_s i = (0, 10)) (hd : decode cc pc = .ok (.putfield 268, 3)) (k : sw_Go l E K RX10 cc nL ret (pc + 3) lv st (sw_w σ i 24 x) r σ') : sw_Go l E K RX10 cc nL ret pc lv (.int x :: .ref i :: st) σ r σ' := sw_putI (ci := 10) (k0 := 24) tyX10 rfl sw_in10 tyX10_ok nmX10 (by decide) lk_X10_268 rfl (tyX10_ok 24 (by decide)) rfl hi hs (sw_bo_n hb) (sw_bo_f hb) hd k
theorem lk_X10_291 : Cond.fieldLink RX10 291 (TX10 40).1 (TX10 40).2.1 (TX10 40).2.2.1 ∈ sw_T := sw_T_of (i := 1301) (by decide +kernel) rfl
theorem gf_X10_291 (hi : i < 84) (hs : sw_s i = (0, 10)) (hd : decode cc pc = .ok (.getfield 291, 3)) (k : sw_Go l E K RX10 cc nL ret (pc + 3) lv (.int (σ.1 i 40) :: st) σ r σ') : sw_Go l E K RX10 cc nL ret pc lv (.ref i :: st) σ r σ' := sw_get (ci := 10) (k0 := 40) rfl sw_in10 (by decide) lk_X10_291 rfl hi hs hd k
theorem pf_X10_291 {x : Int32} (hi : i < 84) (hs : sw_s i = (0, 10)) (hd : decode cc pc = .ok (.putfield 291, 3)) (k : sw_Go l E K RX10 cc nL ret (pc + 3) lv st (sw_w σ i 40 x) r σ') : sw_Go l E K RX10 cc nL ret pc lv (.int x :: .ref i :: st) σ r σ' := sw_putI (ci := 10) (k0 := 40) tyX10 rfl sw_in10 tyX10_ok nmX10 (by decide) lk_X10_291 rfl (tyX10_ok 40 (by decide)) rfl hi hs rfl rfl hd k
theorem lk_X10_306 : Cond.fieldLink RX10 306 (TX10 25).1 (TX10 25).2.1 (TX10 25).2.2.1 ∈ sw_T := sw_T_of (i := 1286) (by decide +kernel) rfl
theorem gf_X10_306 (hi : i < 84) (hs : sw_s i = (0, 10)) (hd : decode cc pc = .ok (.getfield 306, 3)) (k : sw_Go l E K RX10 cc nL ret (pc + 3) lv (.int (σ.1 i 25) :: st) σ r σ') : sw_Go l E K RX10 cc nL ret pc lv (.ref i :: st) σ r σ' := sw_get (ci := 10) (k0 := 25) rfl sw_in10 (by decide) lk_X10_306 rfl hi hs hd k
theorem pf_X10_306 {x : Int32} (hb : x = 0 ∨ x = 1) (hi : i < 84) (hs : sw_s i = (0, 10)) (hd : decode cc pc = .ok (.putfield 306, 3)) (k : sw_Go l E K RX10 cc nL ret (pc + 3) lv st (sw_w σ i 25 x) r σ') : sw_Go l E K RX10 cc nL ret pc lv (.int x :: .ref i :: st) σ r σ' := sw_putI (ci := 10) (k0 := 25) tyX10 rfl sw_in10 tyX10_ok nmX10 (by decide) lk_X10_306 rfl (tyX10_ok 25 (by decide)) rfl hi hs (sw_bo_n hb) (sw_bo_f hb) hd k
theorem lk_X10_309 : Cond.fieldLink RX10 309 (TX10 18).1 (TX10 18).2.1 (TX10 18).2.2.1 ∈ sw_T := sw_T_of (i := 1279) (by decide +kernel) rfl
theorem gf_X10_309 (hi : i < 84) (hs : sw_s i = (0, 10)) (hd : decode cc pc = .ok (.getfield 309, 3)) (k : sw_Go l E K RX10 cc nL ret (pc + 3) lv (.int (σ.1 i 18) :: st) σ r σ') : sw_Go l E K RX10 cc nL ret pc lv (.ref i :: st) σ r σ' := sw_get (ci := 10) (k0 := 18) rfl sw_in10 (by decide) lk_X10_309 rfl hi hs hd k
theorem pf_X10_309 {x : Int32} (hi : i < 84) (hs : sw_s i = (0, 10)) (hd : decode cc pc = .ok (.putfield 309, 3)) (k : sw_Go l E K RX10 cc nL ret (pc + 3) lv st (sw_w σ i 18 x) r σ') : sw_Go l E K RX10 cc nL ret pc lv (.int x :: .ref i :: st) σ r σ' := sw_putI (ci := 10) (k0 := 18) tyX10 rfl sw_in10 tyX10_ok nmX10 (by decide) lk_X10_309 rfl (tyX10_ok 18 (by decide)) rfl hi hs rfl rfl hd k
theorem lk_X10_322 : Cond.fieldLink RX10 322 (TX10 48).1 (TX10 48).2.1 (TX10 48).2.2.1 ∈ sw_T := sw_T_of (i := 1309) (by decide +kernel) rfl
theorem gf_X10_322 (hi : i < 84) (hs : sw_s i = (0, 10)) (hd : decode cc pc = .ok (.getfield 322, 3)) (k : sw_Go l E K RX10 cc nL ret (pc + 3) lv (.int (σ.1 i 48) :: st) σ r σ') : sw_Go l E K RX10 cc nL ret pc lv (.ref i :: st) σ r σ' := sw_get (ci := 10) (k0 := 48) rfl sw_in10 (by decide) lk_X10_322 rfl hi hs hd k
theorem pf_X10_322 {x : Int32} (hi : i < 84) (hs : sw_s i = (0, 10)) (hd : decode cc pc = .ok (.putfield 322, 3)) (k : sw_Go l E K RX10 cc nL ret (pc + 3) lv st (sw_w σ i 48 x) r σ') : sw_Go l E K RX10 cc nL ret pc lv (.int x :: .ref i :: st) σ r σ' := sw_putI (ci := 10) (k0 := 48) tyX10 rfl sw_in10 tyX10_ok nmX10 (by decide) lk_X10_322 rfl (tyX10_ok 48 (by decide)) rfl hi hs rfl rfl hd k
theorem lk_X10_329 : Cond.fieldLink RX10 329 (TX10 34).1 (TX10 34).2.1 (TX10 34).2.2.1 ∈ sw_T := sw_T_of (i := 1295) (by decide +kernel) rfl
theorem gf_X10_329 (hi : i < 84) (hs : sw_s i = (0, 10)) (hd : decode cc pc = .ok (.getfield 329, 3)) (k : sw_Go l E K RX10 cc nL ret (pc + 3) lv (.int (σ.1 i 34) :: st) σ r σ') : sw_Go l E K RX10 cc nL ret pc lv (.ref i :: st) σ r σ' := sw_get (ci := 10) (k0 := 34) rfl sw_in10 (by decide) lk_X10_329 rfl hi hs hd k
theorem pf_X10_329 {x : Int32} (hi : i < 84) (hs : sw_s i = (0, 10)) (hd : decode cc pc = .ok (.putfield 329, 3)) (k : sw_Go l E K RX10 cc nL ret (pc + 3) lv st (sw_w σ i 34 x) r σ') : sw_Go l E K RX10 cc nL ret pc lv (.int x :: .ref i :: st) σ r σ' := sw_putI (ci := 10) (k0 := 34) tyX10 rfl sw_in10 tyX10_ok nmX10 (by decide) lk_X10_329 rfl (tyX10_ok 34 (by decide)) rfl hi hs rfl rfl hd k
theorem lk_X10_335 : Cond.fieldLink RX10 335 (TX10 37).1 (TX10 37).2.1 (TX10 37).2.2.1 ∈ sw_T := sw_T_of (i := 1298) (by decide +kernel) rfl
theorem gf_X10_335 (hi : i < 84) (hs : sw_s i = (0, 10)) (hd : decode cc pc = .ok (.getfield 335, 3)) (k : sw_Go l E K RX10 cc nL ret (pc + 3) lv (.int (σ.1 i 37) :: st) σ r σ') : sw_Go l E K RX10 cc nL ret pc lv (.ref i :: st) σ r σ' := sw_get (ci := 10) (k0 := 37) rfl sw_in10 (by decide) lk_X10_335 rfl hi hs hd k
theorem pf_X10_335 {x : Int32} (hi : i < 84) (hs : sw_s i = (0, 10)) (hd : decode cc pc = .ok (.putfield 335, 3)) (k : sw_Go l E K RX10 cc nL ret (pc + 3) lv st (sw_w σ i 37 x) r σ') : sw_Go l E K RX10 cc nL ret pc lv (.int x :: .ref i :: st) σ r σ' := sw_putI (ci := 10) (k0 := 37) tyX10 rfl sw_in10 tyX10_ok nmX10 (by decide) lk_X10_335 rfl (tyX10_ok 37 (by decide)) rfl hi hs rfl rfl hd k
theorem lk_X10_338 : Cond.fieldLink RX10 338 (TX10 35).1 (TX10 35).2.1 (TX10 35).2.2.1 ∈ sw_T := sw_T_of (i := 1296) (by decide +kernel) rfl
theorem gf_X10_338 (hi : i < 84) (hs : sw_s i = (0, 10)) (hd : decode cc pc = .ok (.getfield 338, 3)) (k : sw_Go l E K RX10 cc nL ret (pc + 3) lv (.int (σ.1 i 35) :: st) σ r σ') : sw_Go l E K RX10 cc nL ret pc lv (.ref i :: st) σ r σ' := sw_get (ci := 10) (k0 := 35) rfl sw_in10 (by decide) lk_X10_338 rfl hi hs hd k
theorem pf_X10_338 {x : Int32} (hi : i < 84) (hs : sw_s i = (0, 10)) (hd : decode cc pc = .ok (.putfield 338, 3)) (k : sw_Go l E K RX10 cc nL ret (pc + 3) lv st (sw_w σ i 35 x) r σ') : sw_Go l E K RX10 cc nL ret pc lv (.int x :: .ref i :: st) σ r σ' := sw_putI (ci := 10) (k0 := 35) tyX10 rfl sw_in10 tyX10_ok nmX10 (by decide) lk_X10_338 rfl (tyX10_ok 35 (by decide)) rfl hi hs rfl rfl hd k
theorem lk_X10_341 : Cond.fieldLink RX10 341 (TX10 36).1 (TX10 36).2.1 (TX10 36).2.2.1 ∈ sw_T := sw_T_of (i := 1297) (by decide +kernel) rfl
theorem gf_X10_341 (hi : i < 84) (hs : sw_s i = (0, 10)) (hd : decode cc pc = .ok (.getfield 341, 3)) (k : sw_Go l E K RX10 cc nL ret (pc + 3) lv (.int (σ.1 i 36) :: st) σ r σ') : sw_Go l E K RX10 cc nL ret pc lv (.ref i :: st) σ r σ' := sw_get (ci := 10) (k0 := 36) rfl sw_in10 (by decide) lk_X10_341 rfl hi hs hd k
theorem pf_X10_341 {x : Int32} (hi : i < 84) (hs : sw_s i = (0, 10)) (hd : decode cc pc = .ok (.putfield 341, 3)) (k : sw_Go l E K RX10 cc nL ret (pc + 3) lv st (sw_w σ i 36 x) r σ') : sw_Go l E K RX10 cc nL ret pc lv (.int x :: .ref i :: st) σ r σ' := sw_putI (ci := 10) (k0 := 36) tyX10 rfl sw_in10 tyX10_ok nmX10 (by decide) lk_X10_341 rfl (tyX10_ok 36 (by decide)) rfl hi hs rfl rfl hd k
theorem lk_X10_359 : Cond.fieldLink RX10 359 (TX10 46).1 (TX10 46).2.1 (TX10 46).2.2.1 ∈ sw_T := sw_T_of (i := 1307) (by decide +kernel) rfl
theorem gf_X10_359 (hi : i < 84) (hs : sw_s i = (0, 10)) (hd : decode cc pc = .ok (.getfield 359, 3)) (k : sw_Go l E K RX10 cc nL ret (pc + 3) lv (.int (σ.1 i 46) :: st) σ r σ') : sw_Go l E K RX10 cc nL ret pc lv (.ref i :: st) σ r σ' := sw_get (ci := 10) (k0 := 46) rfl sw_in10 (by decide) lk_X10_359 rfl hi hs hd k
theorem pf_X10_359 {x : Int32} (hb : x = 0 ∨ x = 1) (hi : i < 84) (hs : sw_s i = (0, 10)) (hd : decode cc pc = .ok (.putfield 359, 3)) (k : sw_Go l E K RX10 cc nL ret (pc + 3) lv st (sw_w σ i 46 x) r σ') : sw_Go l E K RX10 cc nL ret pc lv (.int x :: .ref i :: st) σ r σ' := sw_putI (ci := 10) (k0 := 46) tyX10 rfl sw_in10 tyX10_ok nmX10 (by decide) lk_X10_359 rfl (tyX10_ok 46 (by decide)) rfl hi hs (sw_bo_n hb) (sw_bo_f hb) hd k
theorem lk_X10_366 : Cond.fieldLink RX10 366 (TX10 38).1 (TX10 38).2.1 (TX10 38).2.2.1 ∈ sw_T := sw_T_of (i := 1299) (by decide +kernel) rfl
theorem gf_X10_366 (hi : i < 84) (hs : sw_s i = (0, 10)) (hd : decode cc pc = .ok (.getfield 366, 3)) (k : sw_Go l E K RX10 cc nL ret (pc + 3) lv (.int (σ.1 i 38) :: st) σ r σ') : sw_Go l E K RX10 cc nL ret pc lv (.ref i :: st) σ r σ' := sw_get (ci := 10) (k0 := 38) rfl sw_in10 (by decide) lk_X10_366 rfl hi hs hd k
theorem pf_X10_366 {x : Int32} (hi : i < 84) (hs : sw_s i = (0, 10)) (hd : decode cc pc = .ok (.putfield 366, 3)) (k : sw_Go l E K RX10 cc nL ret (pc + 3) lv st (sw_w σ i 38 x) r σ') : sw_Go l E K RX10 cc nL ret pc lv (.int x :: .ref i :: st) σ r σ' := sw_putI (ci := 10) (k0 := 38) tyX10 rfl sw_in10 tyX10_ok nmX10 (by decide) lk_X10_366 rfl (tyX10_ok 38 (by decide)) rfl hi hs rfl rfl hd k
theorem lk_X10_369 : Cond.fieldLink RX10 369 (TX10 47).1 (TX10 47).2.1 (TX10 47).2.2.1 ∈ sw_T := sw_T_of (i := 1308) (by decide +kernel) rfl
theorem gf_X10_369 (hi : i < 84) (hs : sw_s i = (0, 10)) (hd : decode cc pc = .ok (.getfield 369, 3)) (k : sw_Go l E K RX10 cc nL ret (pc + 3) lv (.int (σ.1 i 47) :: st) σ r σ') : sw_Go l E K RX10 cc nL ret pc lv (.ref i :: st) σ r σ' := sw_get (ci := 10) (k0 := 47) rfl sw_in10 (by decide) lk_X10_369 rfl hi hs hd k
theorem pf_X10_369 {x : Int32} (hb : x = 0 ∨ x = 1) (hi : i < 84) (hs : sw_s i = (0, 10)) (hd : decode cc pc = .ok (.putfield 369, 3)) (k : sw_Go l E K RX10 cc nL ret (pc + 3) lv st (sw_w σ i 47 x) r σ') : sw_Go l E K RX10 cc nL ret pc lv (.int x :: .ref i :: st) σ r σ' := sw_putI (ci := 10) (k0 := 47) tyX10 rfl sw_in10 tyX10_ok nmX10 (by decide) lk_X10_369 rfl (tyX10_ok 47 (by decide)) rfl hi hs (sw_bo_n hb) (sw_bo_f hb) hd k
theorem lk_X10_372 : Cond.fieldLink RX10 372 (TX10 39).1 (TX10 39).2.1 (TX10 39).2.2.1 ∈ sw_T := sw_T_of (i := 1300) (by decide +kernel) rfl
theorem gf_X10_372 (hi : i < 84) (hs : sw_s i = (0, 10)) (hd : decode cc pc = .ok (.getfield 372, 3)) (k : sw_Go l E K RX10 cc nL ret (pc + 3) lv (.int (σ.1 i 39) :: st) σ r σ') : sw_Go l E K RX10 cc nL ret pc lv (.ref i :: st) σ r σ' := sw_get (ci := 10) (k0 := 39) rfl sw_in10 (by decide) lk_X10_372 rfl hi hs hd k
theorem pf_X10_372 {x : Int32} (hi : i < 84) (hs : sw_s i = (0, 10)) (hd : decode cc pc = .ok (.putfield 372, 3)) (k : sw_Go l E K RX10 cc nL ret (pc + 3) lv st (sw_w σ i 39 x) r σ') : sw_Go l E K RX10 cc nL ret pc lv (.int x :: .ref i :: st) σ r σ' := sw_putI (ci := 10) (k0 := 39) tyX10 rfl sw_in10 tyX10_ok nmX10 (by decide) lk_X10_372 rfl (tyX10_ok 39 (by decide)) rfl hi hs rfl rfl hd k
theorem lk_X10_381 : Cond.fieldLink RX10 381 (TX10 41).1 (TX10 41).2.1 (TX10 41).2.2.1 ∈ sw_T := sw_T_of (i := 1302) (by decide +kernel) rfl
theorem gf_X10_381 (hi : i < 84) (hs : sw_s i = (0, 10)) (hd : decode cc pc = .ok (.getfield 381, 3)) (k : sw_Go l E K RX10 cc nL ret (pc + 3) lv (.int (σ.1 i 41) :: st) σ r σ') : sw_Go l E K RX10 cc nL ret pc lv (.ref i :: st) σ r σ' := sw_get (ci := 10) (k0 := 41) rfl sw_in10 (by decide) lk_X10_381 rfl hi hs hd k
theorem pf_X10_381 {x : Int32} (hi : i < 84) (hs : sw_s i = (0, 10)) (hd : decode cc pc = .ok (.putfield 381, 3)) (k : sw_Go l E K RX10 cc nL ret (pc + 3) lv st (sw_w σ i 41 x) r σ') : sw_Go l E K RX10 cc nL ret pc lv (.int x :: .ref i :: st) σ r σ' := sw_putI (ci := 10) (k0 := 41) tyX10 rfl sw_in10 tyX10_ok nmX10 (by decide) lk_X10_381 rfl (tyX10_ok 41 (by decide)) rfl hi hs rfl rfl hd k
theorem lk_X10_384 : Cond.fieldLink RX10 384 (TX10 42).1 (TX10 42).2.1 (TX10 42).2.2.1 ∈ sw_T := sw_T_of (i := 1303) (by decide +kernel) rfl
theorem gf_X10_384 (hi : i < 84) (hs : sw_s i = (0, 10)) (hd : decode cc pc = .ok (.getfield 384, 3)) (k : sw_Go l E K RX10 cc nL ret (pc + 3) lv (.int (σ.1 i 42) :: st) σ r σ') : sw_Go l E K RX10 cc nL ret pc lv (.ref i :: st) σ r σ' := sw_get (ci := 10) (k0 := 42) rfl sw_in10 (by decide) lk_X10_384 rfl hi hs hd k
theorem pf_X10_384 {x : Int32} (hi : i < 84) (hs : sw_s i = (0, 10)) (hd : decode cc pc = .ok (.putfield 384, 3)) (k : sw_Go l E K RX10 cc nL ret (pc + 3) lv st (sw_w σ i 42 x) r σ') : sw_Go l E K RX10 cc nL ret pc lv (.int x :: .ref i :: st) σ r σ' := sw_putI (ci := 10) (k0 := 42) tyX10 rfl sw_in10 tyX10_ok nmX10 (by decide) lk_X10_384 rfl (tyX10_ok 42 (by decide)) rfl hi hs rfl rfl hd k
theorem lk_X10_387 : Cond.fieldLink RX10 387 (TX10 43).1 (TX10 43).2.1 (TX10 43).2.2.1 ∈ sw_T := sw_T_of (i := 1304) (by decide +kernel) rfl
theorem gf_X10_387 (hi : i < 84) (hs : sw_s i = (0, 10)) (hd : decode cc pc = .ok (.getfield 387, 3)) (k : sw_Go l E K RX10 cc nL ret (pc + 3) lv (.int (σ.1 i 43) :: st) σ r σ') : sw_Go l E K RX10 cc nL ret pc lv (.ref i :: st) σ r σ' := sw_get (ci := 10) (k0 := 43) rfl sw_in10 (by decide) lk_X10_387 rfl hi hs hd k
theorem pf_X10_387 {x : Int32} (hi : i < 84) (hs : sw_s i = (0, 10)) (hd : decode cc pc = .ok (.putfield 387, 3)) (k : sw_Go l E K RX10 cc nL ret (pc + 3) lv st (sw_w σ i 43 x) r σ') : sw_Go l E K RX10 cc nL ret pc lv (.int x :: .ref i :: st) σ r σ' := sw_putI (ci := 10) (k0 := 43) tyX10 rfl sw_in10 tyX10_ok nmX10 (by decide) lk_X10_387 rfl (tyX10_ok 43 (by decide)) rfl hi hs rfl rfl hd k
theorem lk_X10_390 : Cond.fieldLink RX10 390 (TX10 44).1 (TX10 44).2.1 (TX10 44).2.2.1 ∈ sw_T := sw_T_of (i := 1305) (by decide +kernel) rfl
theorem gf_X10_390 (hi : i < 84) (hs : sw_s i = (0, 10)) (hd : decode cc pc = .ok (.getfield 390, 3)) (k : sw_Go l E K RX10 cc nL ret (pc + 3) lv (.int (σ.1 i 44) :: st) σ r σ') : sw_Go l E K RX10 cc nL ret pc lv (.ref i :: st) σ r σ' := sw_get (ci := 10) (k0 := 44) rfl sw_in10 (by decide) lk_X10_390 rfl hi hs hd k
theorem pf_X10_390 {x : Int32} (hi : i < 84) (hs : sw_s i = (0, 10)) (hd : decode cc pc = .ok (.putfield 390, 3)) (k : sw_Go l E K RX10 cc nL ret (pc + 3) lv st (sw_w σ i 44 x) r σ') : sw_Go l E K RX10 cc nL ret pc lv (.int x :: .ref i :: st) σ r σ' := sw_putI (ci := 10) (k0 := 44) tyX10 rfl sw_in10 tyX10_ok nmX10 (by decide) lk_X10_390 rfl (tyX10_ok 44 (by decide)) rfl hi hs rfl rfl hd k
theorem lk_X10_393 : Cond.fieldLink RX10 393 (TX10 45).1 (TX10 45).2.1 (TX10 45).2.2.1 ∈ sw_T := sw_T_of (i := 1306) (by decide +kernel) rfl
theorem gf_X10_393 (hi : i < 84) (hs : sw_s i = (0, 10)) (hd : decode cc pc = .ok (.getfield 393, 3)) (k : sw_Go l E K RX10 cc nL ret (pc + 3) lv (.int (σ.1 i 45) :: st) σ r σ') : sw_Go l E K RX10 cc nL ret pc lv (.ref i :: st) σ r σ' := sw_get (ci := 10) (k0 := 45) rfl sw_in10 (by decide) lk_X10_393 rfl hi hs hd k
theorem pf_X10_393 {x : Int32} (hi : i < 84) (hs : sw_s i = (0, 10)) (hd : decode cc pc = .ok (.putfield 393, 3)) (k : sw_Go l E K RX10 cc nL ret (pc + 3) lv st (sw_w σ i 45 x) r σ') : sw_Go l E K RX10 cc nL ret pc lv (.int x :: .ref i :: st) σ r σ' := sw_putI (ci := 10) (k0 := 45) tyX10 rfl sw_in10 tyX10_ok nmX10 (by decide) lk_X10_393 rfl (tyX10_ok 45 (by decide)) rfl hi hs rfl rfl hd k
theorem lk_X10_396 : Cond.fieldLink RX10 396 (TX10 21).1 (TX10 21).2.1 (TX10 21).2.2.1 ∈ sw_T := sw_T_of (i := 1282) (by decide +kernel) rfl
theorem gf_X10_396 (hi : i < 84) (hs : sw_s i = (0, 10)) (hd : decode cc pc = .ok (.getfield 396, 3)) (k : sw_Go l E K RX10 cc nL ret (pc + 3) lv (.int (σ.1 i 21) :: st) σ r σ') : sw_Go l E K RX10 cc nL ret pc lv (.ref i :: st) σ r σ' := sw_get (ci := 10) (k0 := 21) rfl sw_in10 (by decide) lk_X10_396 rfl hi hs hd k
theorem pf_X10_396 {x : Int32} (hi : i < 84) (hs : sw_s i = (0, 10)) (hd : decode cc pc = .ok (.putfield 396, 3)) (k : sw_Go l E K RX10 cc nL ret (pc + 3) lv st (sw_w σ i 21 x) r σ') : sw_Go l E K RX10 cc nL ret pc lv (.int x :: .ref i :: st) σ r σ' := sw_putI (ci := 10) (k0 := 21) tyX10 rfl sw_in10 tyX10_ok nmX10 (by decide) lk_X10_396 rfl (tyX10_ok 21 (by decide)) rfl hi hs rfl rfl hd k
theorem lk_X10_399 : Cond.fieldLink RX10 399 (TX10 52).1 (TX10 52).2.1 (TX10 52).2.2.1 ∈ sw_T := sw_T_of (i := 1313) (by decide +kernel) rfl
theorem gf_X10_399 (hi : i < 84) (hs : sw_s i = (0, 10)) (hd : decode cc pc = .ok (.getfield 399, 3)) (k : sw_Go l E K RX10 cc nL ret (pc + 3) lv (.int (σ.1 i 52) :: st) σ r σ') : sw_Go l E K RX10 cc nL ret pc lv (.ref i :: st) σ r σ' := sw_get (ci := 10) (k0 := 52) rfl sw_in10 (by decide) lk_X10_399 rfl hi hs hd k
theorem pf_X10_399 {x : Int32} (hi : i < 84) (hs : sw_s i = (0, 10)) (hd : decode cc pc = .ok (.putfield 399, 3)) (k : sw_Go l E K RX10 cc nL ret (pc + 3) lv st (sw_w σ i 52 x) r σ') : sw_Go l E K RX10 cc nL ret pc lv (.int x :: .ref i :: st) σ r σ' := sw_putI (ci := 10) (k0 := 52) tyX10 rfl sw_in10 tyX10_ok nmX10 (by decide) lk_X10_399 rfl (tyX10_ok 52 (by decide)) rfl hi hs rfl rfl hd k
theorem lk_X10_402 : Cond.fieldLink RX10 402 (TX10 53).1 (TX10 53).2.1 (TX10 53).2.2.1 ∈ sw_T := sw_T_of (i := 1314) (by decide +kernel) rfl
theorem gf_X10_402 (hi : i < 84) (hs : sw_s i = (0, 10)) (hd : decode cc pc = .ok (.getfield 402, 3)) (k : sw_Go l E K RX10 cc nL ret (pc + 3) lv (.int (σ.1 i 53) :: st) σ r σ') : sw_Go l E K RX10 cc nL ret pc lv (.ref i :: st) σ r σ' := sw_get (ci := 10) (k0 := 53) rfl sw_in10 (by decide) lk_X10_402 rfl hi hs hd k
theorem pf_X10_402 {x : Int32} (hi : i < 84) (hs : sw_s i = (0, 10)) (hd : decode cc pc = .ok (.putfield 402, 3)) (k : sw_Go l E K RX10 cc nL ret (pc + 3) lv st (sw_w σ i 53 x) r σ') : sw_Go l E K RX10 cc nL ret pc lv (.int x :: .ref i :: st) σ r σ' := sw_putI (ci := 10) (k0 := 53) tyX10 rfl sw_in10 tyX10_ok nmX10 (by decide) lk_X10_402 rfl (tyX10_ok 53 (by decide)) rfl hi hs rfl rfl hd k
theorem lk_X10_405 : Cond.fieldLink RX10 405 (TX10 66).1 (TX10 66).2.1 (TX10 66).2.2.1 ∈ sw_T := sw_T_of (i := 1327) (by decide +kernel) rfl
theorem gf_X10_405 (hi : i < 84) (hs : sw_s i = (0, 10)) (hd : decode cc pc = .ok (.getfield 405, 3)) (k : sw_Go l E K RX10 cc nL ret (pc + 3) lv (.int (σ.1 i 66) :: st) σ r σ') : sw_Go l E K RX10 cc nL ret pc lv (.ref i :: st) σ r σ' := sw_get (ci := 10) (k0 := 66) rfl sw_in10 (by decide) lk_X10_405 rfl hi hs hd k
theorem pf_X10_405 {x : Int32} (hi : i < 84) (hs : sw_s i = (0, 10)) (hd : decode cc pc = .ok (.putfield 405, 3)) (k : sw_Go l E K RX10 cc nL ret (pc + 3) lv st (sw_w σ i 66 x) r σ') : sw_Go l E K RX10 cc nL ret pc lv (.int x :: .ref i :: st) σ r σ' := sw_putI (ci := 10) (k0 := 66) tyX10 rfl sw_in10 tyX10_ok nmX10 (by decide) lk_X10_405 rfl (tyX10_ok 66 (by decide)) rfl hi hs rfl rfl hd k
theorem lk_X10_408 : Cond.fieldLink RX10 408 (TX10 57).1 (TX10 57).2.1 (TX10 57).2.2.1 ∈ sw_T := sw_T_of (i := 1318) (by decide +kernel) rfl
theorem gf_X10_408 (hi : i < 84) (hs : sw_s i = (0, 10)) (hd : decode cc pc = .ok (.getfield 408, 3)) (k : sw_Go l E K RX10 cc nL ret (pc + 3) lv (.int (σ.1 i 57) :: st) σ r σ') : sw_Go l E K RX10 cc nL ret pc lv (.ref i :: st) σ r σ' := sw_get (ci := 10) (k0 := 57) rfl sw_in10 (by decide) lk_X10_408 rfl hi hs hd k
theorem pf_X10_408 {x : Int32} (hi : i < 84) (hs : sw_s i = (0, 10)) (hd : decode cc pc = .ok (.putfield 408, 3)) (k : sw_Go l E K RX10 cc nL ret (pc + 3) lv st (sw_w σ i 57 x) r σ') : sw_Go l E K RX10 cc nL ret pc lv (.int x :: .ref i :: st) σ r σ' := sw_putI (ci := 10) (k0 := 57) tyX10 rfl sw_in10 tyX10_ok nmX10 (by decide) lk_X10_408 rfl (tyX10_ok 57 (by decide)) rfl hi hs rfl rfl hd k
theorem lk_X10_503 : Cond.fieldLink RX10 503 (TX10 67).1 (TX10 67).2.1 (TX10 67).2.2.1 ∈ sw_T := sw_T_of (i := 1328) (by decide +kernel) rfl
theorem gf_X10_503 (hi : i < 84) (hs : sw_s i = (0, 10)) (hd : decode cc pc = .ok (.getfield 503, 3)) (k : sw_Go l E K RX10 cc nL ret (pc + 3) lv (.int (σ.1 i 67) :: st) σ r σ') : sw_Go l E K RX10 cc nL ret pc lv (.ref i :: st) σ r σ' := sw_get (ci := 10) (k0 := 67) rfl sw_in10 (by decide) lk_X10_503 rfl hi hs hd k
theorem pf_X10_503 {x : Int32} (hi : i < 84) (hs : sw_s i = (0, 10)) (hd : decode cc pc = .ok (.putfield 503, 3)) (k : sw_Go l E K RX10 cc nL ret (pc + 3) lv st (sw_w σ i 67 x) r σ') : sw_Go l E K RX10 cc nL ret pc lv (.int x :: .ref i :: st) σ r σ' := sw_putI (ci := 10) (k0 := 67) tyX10 rfl sw_in10 tyX10_ok nmX10 (by decide) lk_X10_503 rfl (tyX10_ok 67 (by decide)) rfl hi hs rfl rfl hd k
theorem cd_X9_init : Cond.code yX9_init cX9_init 1 none ∈ sw_T := sw_T_of (i := 124) (by decide +kernel) rfl
theorem cd_X5_init : Cond.code yX5_init cX5_init 1 none ∈ sw_T := sw_T_of (i := 132) (by decide +kernel) rfl
theorem cd_X7_init : Cond.code yX7_init cX7_init 1 none ∈ sw_T := sw_T_of (i := 138) (by decide +kernel) rfl
theorem cd_J0_length_8abf5 : Cond.code yJ0_length_8abf5 cJ0_length_8abf5 1 (some .int) ∈ sw_T := sw_T_of (i := 147) (by decide +kernel) rfl
theorem cd_J0_coder_7d493 : Cond.code yJ0_coder_7d493 cJ0_coder_7d493 1 (some .byte) ∈ sw_T := sw_T_of (i := 151) (by decide +kernel) rfl
theorem cd_J0_charAt_5068e : Cond.code yJ0_charAt_5068e cJ0_charAt_5068e 2 (some .char) ∈ sw_T := sw_T_of (i := 157) (by decide +kernel) rfl
theorem cd_J0_isLatin1_aae02 : Cond.code yJ0_isLatin1_aae02 cJ0_isLatin1_aae02 1 (some .boolean) ∈ sw_T := sw_T_of (i := 161) (by decide +kernel) rfl
theorem cd_J1_charAt_3b067 : Cond.code yJ1_charAt_3b067 cJ1_charAt_3b067 2 (some .char) ∈ sw_T := sw_T_of (i := 164) (by decide +kernel) rfl
theorem cd_J0_checkIndex_df160 : Cond.code yJ0_checkIndex_df160 cJ0_checkIndex_df160 2 none ∈ sw_T := sw_T_of (i := 167) (by decide +kernel) rfl
theorem cd_J3_checkIndex_8e157 : Cond.code yJ3_checkIndex_8e157 cJ3_checkIndex_8e157 3 (some .int) ∈ sw_T := sw_T_of (i := 172) (by decide +kernel) rfl
theorem cd_J2_charAt_3b067 : Cond.code yJ2_charAt_3b067 cJ2_charAt_3b067 2 (some .char) ∈ sw_T := sw_T_of (i := 175) (by decide +kernel) rfl
theorem cd_J2_checkIndex_2214a : Cond.code yJ2_checkIndex_2214a cJ2_checkIndex_2214a 2 none ∈ sw_T := sw_T_of (i := 178) (by decide +kernel) rfl
theorem cd_J2_length_9d52b : Cond.code yJ2_length_9d52b cJ2_length_9d52b 1 (some .int) ∈ sw_T := sw_T_of (i := 181) (by decide +kernel) rfl
theorem cd_J2_getChar_3b067 : Cond.code yJ2_getChar_3b067 cJ2_getChar_3b067 2 (some .char) ∈ sw_T := sw_T_of (i := 185) (by decide +kernel) rfl
theorem cd_X7_spelled : Cond.code yX7_spelled cX7_spelled 3 (some .long) ∈ sw_T := sw_T_of (i := 194) (by decide +kernel) rfl
theorem cd_X4_init : Cond.code yX4_init cX4_init 1 none ∈ sw_T := sw_T_of (i := 241) (by decide +kernel) rfl
theorem cd_X2_init : Cond.code yX2_init cX2_init 1 none ∈ sw_T := sw_T_of (i := 247) (by decide +kernel) rfl
theorem cd_X8_init : Cond.code yX8_init cX8_init 1 none ∈ sw_T := sw_T_of (i := 374) (by decide +kernel) rfl
theorem cd_X0_init : Cond.code yX0_init cX0_init 1 none ∈ sw_T := sw_T_of (i := 415) (by decide +kernel) rfl
theorem cd_X1_init : Cond.code yX1_init cX1_init 1 none ∈ sw_T := sw_T_of (i := 431) (by decide +kernel) rfl
theorem cd_X3_init : Cond.code yX3_init cX3_init 1 none ∈ sw_T := sw_T_of (i := 446) (by decide +kernel) rfl
theorem cd_X6_init : Cond.code yX6_init cX6_init 1 none ∈ sw_T := sw_T_of (i := 464) (by decide +kernel) rfl
theorem cd_X9_feed : Cond.code yX9_feed cX9_feed 7 (some .int) ∈ sw_T := sw_T_of (i := 532) (by decide +kernel) rfl
theorem cd_X7_append : Cond.code yX7_append cX7_append 3 none ∈ sw_T := sw_T_of (i := 536) (by decide +kernel) rfl
theorem cd_X9_end : Cond.code yX9_end cX9_end 2 (some .int) ∈ sw_T := sw_T_of (i := 540) (by decide +kernel) rfl
theorem cd_X9_works : Cond.code yX9_works cX9_works 3 (some .int) ∈ sw_T := sw_T_of (i := 544) (by decide +kernel) rfl
theorem cd_X5_begin : Cond.code yX5_begin cX5_begin 1 none ∈ sw_T := sw_T_of (i := 548) (by decide +kernel) rfl
theorem cd_X4_clear : Cond.code yX4_clear cX4_clear 1 none ∈ sw_T := sw_T_of (i := 552) (by decide +kernel) rfl
theorem cd_J7_fill_53178 : Cond.code yJ7_fill_53178 cJ7_fill_53178 4 none ∈ sw_T := sw_T_of (i := 555) (by decide +kernel) rfl
theorem cd_X2_clear : Cond.code yX2_clear cX2_clear 1 none ∈ sw_T := sw_T_of (i := 559) (by decide +kernel) rfl
theorem cd_X7_readFirst : Cond.code yX7_readFirst cX7_readFirst 1 none ∈ sw_T := sw_T_of (i := 563) (by decide +kernel) rfl
theorem cd_X7_readNext : Cond.code yX7_readNext cX7_readNext 1 none ∈ sw_T := sw_T_of (i := 567) (by decide +kernel) rfl
theorem cd_X7_isBlank : Cond.code yX7_isBlank cX7_isBlank 1 (some .boolean) ∈ sw_T := sw_T_of (i := 570) (by decide +kernel) rfl
theorem cd_X7_isLetter : Cond.code yX7_isLetter cX7_isLetter 1 (some .boolean) ∈ sw_T := sw_T_of (i := 573) (by decide +kernel) rfl
theorem cd_X7_readWord : Cond.code yX7_readWord cX7_readWord 1 none ∈ sw_T := sw_T_of (i := 577) (by decide +kernel) rfl
theorem cd_X7_find : Cond.code yX7_find cX7_find 5 (some .int) ∈ sw_T := sw_T_of (i := 580) (by decide +kernel) rfl
theorem cd_X7_isDigit : Cond.code yX7_isDigit cX7_isDigit 1 (some .boolean) ∈ sw_T := sw_T_of (i := 583) (by decide +kernel) rfl
theorem cd_X7_readNumber : Cond.code yX7_readNumber cX7_readNumber 2 none ∈ sw_T := sw_T_of (i := 587) (by decide +kernel) rfl
theorem cd_X7_readSign : Cond.code yX7_readSign cX7_readSign 2 none ∈ sw_T := sw_T_of (i := 591) (by decide +kernel) rfl
theorem cd_J0_indexOf_0f7a4 : Cond.code yJ0_indexOf_0f7a4 cJ0_indexOf_0f7a4 2 (some .int) ∈ sw_T := sw_T_of (i := 596) (by decide +kernel) rfl
theorem cd_J0_indexOf_7cf53 : Cond.code yJ0_indexOf_7cf53 cJ0_indexOf_7cf53 3 (some .int) ∈ sw_T := sw_T_of (i := 600) (by decide +kernel) rfl
theorem cd_J1_indexOf_4cfef : Cond.code yJ1_indexOf_4cfef cJ1_indexOf_4cfef 4 (some .int) ∈ sw_T := sw_T_of (i := 604) (by decide +kernel) rfl
theorem cd_J1_canEncode_9a6ad : Cond.code yJ1_canEncode_9a6ad cJ1_canEncode_9a6ad 1 (some .boolean) ∈ sw_T := sw_T_of (i := 607) (by decide +kernel) rfl
theorem cd_J9_max_7cf53 : Cond.code yJ9_max_7cf53 cJ9_max_7cf53 2 (some .int) ∈ sw_T := sw_T_of (i := 610) (by decide +kernel) rfl
theorem cd_J9_min_7cf53 : Cond.code yJ9_min_7cf53 cJ9_min_7cf53 2 (some .int) ∈ sw_T := sw_T_of (i := 613) (by decide +kernel) rfl
theorem cd_J1_indexOfChar_4cfef : Cond.code yJ1_indexOfChar_4cfef cJ1_indexOfChar_4cfef 6 (some .int) ∈ sw_T := sw_T_of (i := 616) (by decide +kernel) rfl
theorem cd_J2_indexOf_4cfef : Cond.code yJ2_indexOf_4cfef cJ2_indexOf_4cfef 4 (some .int) ∈ sw_T := sw_T_of (i := 619) (by decide +kernel) rfl
theorem cd_J2_indexOfChar_4cfef : Cond.code yJ2_indexOfChar_4cfef cJ2_indexOfChar_4cfef 4 (some .int) ∈ sw_T := sw_T_of (i := 625) (by decide +kernel) rfl
theorem cd_J2_checkBoundsBeginEnd_d044e : Cond.code yJ2_checkBoundsBeginEnd_d044e cJ2_checkBoundsBeginEnd_d044e 3 none ∈ sw_T := sw_T_of (i := 628) (by decide +kernel) rfl
theorem cd_J0_checkBoundsBeginEnd_23922 : Cond.code yJ0_checkBoundsBeginEnd_23922 cJ0_checkBoundsBeginEnd_23922 3 none ∈ sw_T := sw_T_of (i := 631) (by decide +kernel) rfl
theorem cd_J3_checkFromToIndex_8c36e : Cond.code yJ3_checkFromToIndex_8c36e cJ3_checkFromToIndex_8c36e 4 (some .int) ∈ sw_T := sw_T_of (i := 634) (by decide +kernel) rfl
theorem cd_J2_indexOfCharUnsafe_4cfef : Cond.code yJ2_indexOfCharUnsafe_4cfef cJ2_indexOfCharUnsafe_4cfef 5 (some .int) ∈ sw_T := sw_T_of (i := 637) (by decide +kernel) rfl
theorem cd_J2_indexOfSupplementary_4cfef : Cond.code yJ2_indexOfSupplementary_4cfef cJ2_indexOfSupplementary_4cfef 7 (some .int) ∈ sw_T := sw_T_of (i := 640) (by decide +kernel) rfl
theorem cd_J11_isValidCodePoint_9a6ad : Cond.code yJ11_isValidCodePoint_9a6ad cJ11_isValidCodePoint_9a6ad 2 (some .boolean) ∈ sw_T := sw_T_of (i := 643) (by decide +kernel) rfl
theorem cd_J11_highSurrogate_5068e : Cond.code yJ11_highSurrogate_5068e cJ11_highSurrogate_5068e 1 (some .char) ∈ sw_T := sw_T_of (i := 646) (by decide +kernel) rfl
theorem cd_J11_lowSurrogate_5068e : Cond.code yJ11_lowSurrogate_5068e cJ11_lowSurrogate_5068e 1 (some .char) ∈ sw_T := sw_T_of (i := 650) (by decide +kernel) rfl
theorem cd_X5_isAtEnd : Cond.code yX5_isAtEnd cX5_isAtEnd 1 (some .boolean) ∈ sw_T := sw_T_of (i := 655) (by decide +kernel) rfl
theorem cd_X5_readLine : Cond.code yX5_readLine cX5_readLine 1 (some .boolean) ∈ sw_T := sw_T_of (i := 659) (by decide +kernel) rfl
theorem cd_X5_readKind : Cond.code yX5_readKind cX5_readKind 1 (some .boolean) ∈ sw_T := sw_T_of (i := 663) (by decide +kernel) rfl
theorem cd_X5_refuse : Cond.code yX5_refuse cX5_refuse 2 (some .boolean) ∈ sw_T := sw_T_of (i := 667) (by decide +kernel) rfl
theorem cd_X5_readNewName : Cond.code yX5_readNewName cX5_readNewName 3 (some .boolean) ∈ sw_T := sw_T_of (i := 672) (by decide +kernel) rfl
theorem cd_X7_isName : Cond.code yX7_isName cX7_isName 1 (some .boolean) ∈ sw_T := sw_T_of (i := 676) (by decide +kernel) rfl
theorem cd_X5_readSign : Cond.code yX5_readSign cX5_readSign 2 (some .boolean) ∈ sw_T := sw_T_of (i := 681) (by decide +kernel) rfl
theorem cd_X5_readPerson : Cond.code yX5_readPerson cX5_readPerson 1 (some .boolean) ∈ sw_T := sw_T_of (i := 685) (by decide +kernel) rfl
theorem cd_X5_readKey : Cond.code yX5_readKey cX5_readKey 2 (some .boolean) ∈ sw_T := sw_T_of (i := 689) (by decide +kernel) rfl
theorem cd_X5_readPortions : Cond.code yX5_readPortions cX5_readPortions 7 (some .boolean) ∈ sw_T := sw_T_of (i := 693) (by decide +kernel) rfl
theorem cd_X5_knownKind : Cond.code yX5_knownKind cX5_knownKind 2 (some .int) ∈ sw_T := sw_T_of (i := 697) (by decide +kernel) rfl
theorem cd_X5_readNumber : Cond.code yX5_readNumber cX5_readNumber 4 (some .int) ∈ sw_T := sw_T_of (i := 701) (by decide +kernel) rfl
theorem cd_X5_readRule : Cond.code yX5_readRule cX5_readRule 5 (some .boolean) ∈ sw_T := sw_T_of (i := 705) (by decide +kernel) rfl
theorem cd_X5_readKnownKind : Cond.code yX5_readKnownKind cX5_readKnownKind 2 (some .int) ∈ sw_T := sw_T_of (i := 709) (by decide +kernel) rfl
theorem cd_X4_addRule : Cond.code yX4_addRule cX4_addRule 6 none ∈ sw_T := sw_T_of (i := 713) (by decide +kernel) rfl
theorem cd_X5_readBasin : Cond.code yX5_readBasin cX5_readBasin 1 (some .boolean) ∈ sw_T := sw_T_of (i := 717) (by decide +kernel) rfl
theorem cd_X5_readRises : Cond.code yX5_readRises cX5_readRises 1 (some .boolean) ∈ sw_T := sw_T_of (i := 721) (by decide +kernel) rfl
theorem cd_X5_readFormula : Cond.code yX5_readFormula cX5_readFormula 5 (some .boolean) ∈ sw_T := sw_T_of (i := 725) (by decide +kernel) rfl
theorem cd_X5_readUnit : Cond.code yX5_readUnit cX5_readUnit 3 (some .boolean) ∈ sw_T := sw_T_of (i := 729) (by decide +kernel) rfl
theorem cd_X2_add : Cond.code yX2_add cX2_add 2 none ∈ sw_T := sw_T_of (i := 733) (by decide +kernel) rfl
theorem cd_X5_readNot : Cond.code yX5_readNot cX5_readNot 2 (some .boolean) ∈ sw_T := sw_T_of (i := 737) (by decide +kernel) rfl
theorem cd_X5_signOfLevel : Cond.code yX5_signOfLevel cX5_signOfLevel 3 (some .int) ∈ sw_T := sw_T_of (i := 741) (by decide +kernel) rfl
theorem cd_X5_readScum : Cond.code yX5_readScum cX5_readScum 2 (some .boolean) ∈ sw_T := sw_T_of (i := 745) (by decide +kernel) rfl
theorem cd_X5_readDraw : Cond.code yX5_readDraw cX5_readDraw 2 (some .boolean) ∈ sw_T := sw_T_of (i := 749) (by decide +kernel) rfl
theorem cd_X8_begin : Cond.code yX8_begin cX8_begin 2 none ∈ sw_T := sw_T_of (i := 753) (by decide +kernel) rfl
theorem cd_X0_forget : Cond.code yX0_forget cX0_forget 1 none ∈ sw_T := sw_T_of (i := 758) (by decide +kernel) rfl
theorem cd_X1_forget : Cond.code yX1_forget cX1_forget 2 none ∈ sw_T := sw_T_of (i := 762) (by decide +kernel) rfl
theorem cd_X6_forget : Cond.code yX6_forget cX6_forget 1 none ∈ sw_T := sw_T_of (i := 766) (by decide +kernel) rfl
theorem cd_X9_fault : Cond.code yX9_fault cX9_fault 2 (some .int) ∈ sw_T := sw_T_of (i := 770) (by decide +kernel) rfl
theorem cd_X9_vat : Cond.code yX9_vat cX9_vat 2 (some .int) ∈ sw_T := sw_T_of (i := 774) (by decide +kernel) rfl
theorem cd_X4_isKind : Cond.code yX4_isKind cX4_isKind 2 (some .boolean) ∈ sw_T := sw_T_of (i := 778) (by decide +kernel) rfl
theorem cd_X9_mind : Cond.code yX9_mind cX9_mind 3 (some .int) ∈ sw_T := sw_T_of (i := 782) (by decide +kernel) rfl
theorem cd_X4_isPerson : Cond.code yX4_isPerson cX4_isPerson 2 (some .boolean) ∈ sw_T := sw_T_of (i := 786) (by decide +kernel) rfl
theorem cd_X4_has : Cond.code yX4_has cX4_has 3 (some .int) ∈ sw_T := sw_T_of (i := 790) (by decide +kernel) rfl
theorem cd_X9_wants : Cond.code yX9_wants cX9_wants 3 (some .int) ∈ sw_T := sw_T_of (i := 794) (by decide +kernel) rfl
theorem cd_X4_isBasin : Cond.code yX4_isBasin cX4_isBasin 2 (some .boolean) ∈ sw_T := sw_T_of (i := 798) (by decide +kernel) rfl
theorem cd_X4_needs : Cond.code yX4_needs cX4_needs 3 (some .int) ∈ sw_T := sw_T_of (i := 802) (by decide +kernel) rfl
theorem cd_X9_rule : Cond.code yX9_rule cX9_rule 3 (some .int) ∈ sw_T := sw_T_of (i := 806) (by decide +kernel) rfl
theorem cd_X9_confess : Cond.code yX9_confess cX9_confess 2 (some .int) ∈ sw_T := sw_T_of (i := 810) (by decide +kernel) rfl
theorem cd_X9_isSilent : Cond.code yX9_isSilent cX9_isSilent 2 (some .boolean) ∈ sw_T := sw_T_of (i := 814) (by decide +kernel) rfl
theorem cd_X0_keep : Cond.code yX0_keep cX0_keep 2 none ∈ sw_T := sw_T_of (i := 818) (by decide +kernel) rfl
theorem cd_X8_save : Cond.code yX8_save cX8_save 4 none ∈ sw_T := sw_T_of (i := 825) (by decide +kernel) rfl
theorem cd_X4_tell : Cond.code yX4_tell cX4_tell 4 none ∈ sw_T := sw_T_of (i := 830) (by decide +kernel) rfl
theorem cd_X4_pour : Cond.code yX4_pour cX4_pour 4 none ∈ sw_T := sw_T_of (i := 834) (by decide +kernel) rfl
theorem cd_X8_all : Cond.code yX8_all cX8_all 3 (some .int) ∈ sw_T := sw_T_of (i := 840) (by decide +kernel) rfl
theorem cd_X9_boil : Cond.code yX9_boil cX9_boil 1 (some .int) ∈ sw_T := sw_T_of (i := 844) (by decide +kernel) rfl
theorem cd_X4_boilInEarnest : Cond.code yX4_boilInEarnest cX4_boilInEarnest 3 (some .boolean) ∈ sw_T := sw_T_of (i := 848) (by decide +kernel) rfl
theorem cd_X4_boilRules : Cond.code yX4_boilRules cX4_boilRules 4 (some .boolean) ∈ sw_T := sw_T_of (i := 852) (by decide +kernel) rfl
theorem cd_X4_limit : Cond.code yX4_limit cX4_limit 2 (some .int) ∈ sw_T := sw_T_of (i := 856) (by decide +kernel) rfl
theorem cd_X4_turn : Cond.code yX4_turn cX4_turn 6 (some .int) ∈ sw_T := sw_T_of (i := 860) (by decide +kernel) rfl
theorem cd_X4_turning : Cond.code yX4_turning cX4_turning 7 (some .int) ∈ sw_T := sw_T_of (i := 864) (by decide +kernel) rfl
theorem cd_X4_first : Cond.code yX4_first cX4_first 2 (some .int) ∈ sw_T := sw_T_of (i := 868) (by decide +kernel) rfl
theorem cd_X4_second : Cond.code yX4_second cX4_second 2 (some .int) ∈ sw_T := sw_T_of (i := 872) (by decide +kernel) rfl
theorem cd_X4_third : Cond.code yX4_third cX4_third 2 (some .int) ∈ sw_T := sw_T_of (i := 876) (by decide +kernel) rfl
theorem cd_X4_drawScum : Cond.code yX4_drawScum cX4_drawScum 3 none ∈ sw_T := sw_T_of (i := 880) (by decide +kernel) rfl
theorem cd_X4_isRisen : Cond.code yX4_isRisen cX4_isRisen 2 (some .boolean) ∈ sw_T := sw_T_of (i := 885) (by decide +kernel) rfl
theorem cd_X2_worth : Cond.code yX2_worth cX2_worth 6 (some .int) ∈ sw_T := sw_T_of (i := 889) (by decide +kernel) rfl
theorem cd_X2_measure : Cond.code yX2_measure cX2_measure 9 none ∈ sw_T := sw_T_of (i := 893) (by decide +kernel) rfl
theorem cd_J6_bitCount_0f7a4 : Cond.code yJ6_bitCount_0f7a4 cJ6_bitCount_0f7a4 1 (some .int) ∈ sw_T := sw_T_of (i := 898) (by decide +kernel) rfl
theorem cd_X2_joined : Cond.code yX2_joined cX2_joined 3 (some .int) ∈ sw_T := sw_T_of (i := 904) (by decide +kernel) rfl
theorem cd_X9_wash : Cond.code yX9_wash cX9_wash 3 (some .int) ∈ sw_T := sw_T_of (i := 908) (by decide +kernel) rfl
theorem cd_X9_isEased : Cond.code yX9_isEased cX9_isEased 2 (some .boolean) ∈ sw_T := sw_T_of (i := 912) (by decide +kernel) rfl
theorem cd_X4_lacking : Cond.code yX4_lacking cX4_lacking 5 (some .int) ∈ sw_T := sw_T_of (i := 916) (by decide +kernel) rfl
theorem cd_X9_sweep : Cond.code yX9_sweep cX9_sweep 3 (some .int) ∈ sw_T := sw_T_of (i := 921) (by decide +kernel) rfl
theorem cd_X9_undo : Cond.code yX9_undo cX9_undo 1 (some .boolean) ∈ sw_T := sw_T_of (i := 925) (by decide +kernel) rfl
theorem cd_X0_takeBack : Cond.code yX0_takeBack cX0_takeBack 2 (some .boolean) ∈ sw_T := sw_T_of (i := 929) (by decide +kernel) rfl
theorem cd_X8_load : Cond.code yX8_load cX8_load 4 none ∈ sw_T := sw_T_of (i := 933) (by decide +kernel) rfl
theorem cd_X9_redo : Cond.code yX9_redo cX9_redo 1 (some .boolean) ∈ sw_T := sw_T_of (i := 937) (by decide +kernel) rfl
theorem cd_X0_doAgain : Cond.code yX0_doAgain cX0_doAgain 2 (some .boolean) ∈ sw_T := sw_T_of (i := 941) (by decide +kernel) rfl
theorem cd_X9_will : Cond.code yX9_will cX9_will 4 (some .int) ∈ sw_T := sw_T_of (i := 945) (by decide +kernel) rfl
theorem cd_X3_muchBehind : Cond.code yX3_muchBehind cX3_muchBehind 7 (some .int) ∈ sw_T := sw_T_of (i := 949) (by decide +kernel) rfl
theorem cd_X8_copy : Cond.code yX8_copy cX8_copy 2 none ∈ sw_T := sw_T_of (i := 953) (by decide +kernel) rfl
theorem cd_X9_rise : Cond.code yX9_rise cX9_rise 1 (some .int) ∈ sw_T := sw_T_of (i := 958) (by decide +kernel) rfl
theorem cd_X3_riseIf : Cond.code yX3_riseIf cX3_riseIf 7 (some .int) ∈ sw_T := sw_T_of (i := 962) (by decide +kernel) rfl
theorem cd_X9_rouser : Cond.code yX9_rouser cX9_rouser 6 (some .int) ∈ sw_T := sw_T_of (i := 969) (by decide +kernel) rfl
theorem cd_X9_choir : Cond.code yX9_choir cX9_choir 6 (some .int) ∈ sw_T := sw_T_of (i := 973) (by decide +kernel) rfl
theorem cd_X9_silentOnes : Cond.code yX9_silentOnes cX9_silentOnes 1 (some .int) ∈ sw_T := sw_T_of (i := 977) (by decide +kernel) rfl
theorem cd_X9_isFewer : Cond.code yX9_isFewer cX9_isFewer 2 (some .boolean) ∈ sw_T := sw_T_of (i := 980) (by decide +kernel) rfl
theorem cd_X9_countOrBits : Cond.code yX9_countOrBits cX9_countOrBits 2 (some .int) ∈ sw_T := sw_T_of (i := 984) (by decide +kernel) rfl
theorem cd_X9_power : Cond.code yX9_power cX9_power 6 (some .int) ∈ sw_T := sw_T_of (i := 988) (by decide +kernel) rfl
theorem cd_X9_serve : Cond.code yX9_serve cX9_serve 4 (some .int) ∈ sw_T := sw_T_of (i := 992) (by decide +kernel) rfl
theorem cd_X4_canServe : Cond.code yX4_canServe cX4_canServe 6 (some .boolean) ∈ sw_T := sw_T_of (i := 996) (by decide +kernel) rfl
theorem cd_X9_balm : Cond.code yX9_balm cX9_balm 6 (some .int) ∈ sw_T := sw_T_of (i := 1000) (by decide +kernel) rfl
theorem cd_X3_wouldHold : Cond.code yX3_wouldHold cX3_wouldHold 5 (some .boolean) ∈ sw_T := sw_T_of (i := 1004) (by decide +kernel) rfl
theorem cd_X9_cook : Cond.code yX9_cook cX9_cook 2 (some .int) ∈ sw_T := sw_T_of (i := 1009) (by decide +kernel) rfl
theorem cd_X3_boilingsTill : Cond.code yX3_boilingsTill cX3_boilingsTill 5 (some .int) ∈ sw_T := sw_T_of (i := 1013) (by decide +kernel) rfl
theorem cd_X9_lacks : Cond.code yX9_lacks cX9_lacks 2 (some .int) ∈ sw_T := sw_T_of (i := 1017) (by decide +kernel) rfl
theorem cd_X9_rest : Cond.code yX9_rest cX9_rest 1 (some .int) ∈ sw_T := sw_T_of (i := 1021) (by decide +kernel) rfl
theorem cd_X3_boilingsToRest : Cond.code yX3_boilingsToRest cX3_boilingsToRest 4 (some .int) ∈ sw_T := sw_T_of (i := 1025) (by decide +kernel) rfl
theorem cd_X9_order : Cond.code yX9_order cX9_order 2 (some .int) ∈ sw_T := sw_T_of (i := 1029) (by decide +kernel) rfl
theorem cd_X3_mostByOrder : Cond.code yX3_mostByOrder cX3_mostByOrder 8 (some .int) ∈ sw_T := sw_T_of (i := 1033) (by decide +kernel) rfl
theorem cd_X3_muchByOrder : Cond.code yX3_muchByOrder cX3_muchByOrder 5 (some .int) ∈ sw_T := sw_T_of (i := 1037) (by decide +kernel) rfl
theorem cd_X3_toNextOrder : Cond.code yX3_toNextOrder cX3_toNextOrder 6 (some .boolean) ∈ sw_T := sw_T_of (i := 1044) (by decide +kernel) rfl
theorem cd_X3_exchange : Cond.code yX3_exchange cX3_exchange 4 none ∈ sw_T := sw_T_of (i := 1048) (by decide +kernel) rfl
theorem cd_X9_comes : Cond.code yX9_comes cX9_comes 4 (some .int) ∈ sw_T := sw_T_of (i := 1052) (by decide +kernel) rfl
theorem cd_X4_madeOf : Cond.code yX4_madeOf cX4_madeOf 4 (some .int) ∈ sw_T := sw_T_of (i := 1056) (by decide +kernel) rfl
theorem cd_X9_steps : Cond.code yX9_steps cX9_steps 5 (some .int) ∈ sw_T := sw_T_of (i := 1060) (by decide +kernel) rfl
theorem cd_X9_duel : Cond.code yX9_duel cX9_duel 5 (some .int) ∈ sw_T := sw_T_of (i := 1064) (by decide +kernel) rfl
theorem cd_X3_duelRests : Cond.code yX3_duelRests cX3_duelRests 10 (some .int) ∈ sw_T := sw_T_of (i := 1068) (by decide +kernel) rfl
theorem cd_X4_burden : Cond.code yX4_burden cX4_burden 4 (some .int) ∈ sw_T := sw_T_of (i := 1073) (by decide +kernel) rfl
theorem cd_X3_gain : Cond.code yX3_gain cX3_gain 4 (some .int) ∈ sw_T := sw_T_of (i := 1076) (by decide +kernel) rfl
theorem cd_J6_numberOfTrailingZeros_0f7a4 : Cond.code yJ6_numberOfTrailingZeros_0f7a4 cJ6_numberOfTrailingZeros_0f7a4 2 (some .int) ∈ sw_T := sw_T_of (i := 1079) (by decide +kernel) rfl
theorem cd_X9_nearest : Cond.code yX9_nearest cX9_nearest 5 (some .int) ∈ sw_T := sw_T_of (i := 1084) (by decide +kernel) rfl
theorem cd_X9_wanted : Cond.code yX9_wanted cX9_wanted 4 (some .int) ∈ sw_T := sw_T_of (i := 1089) (by decide +kernel) rfl
theorem cd_X9_sinners : Cond.code yX9_sinners cX9_sinners 4 (some .int) ∈ sw_T := sw_T_of (i := 1093) (by decide +kernel) rfl
theorem cd_X9_inert : Cond.code yX9_inert cX9_inert 3 (some .int) ∈ sw_T := sw_T_of (i := 1097) (by decide +kernel) rfl
theorem cd_X9_alive : Cond.code yX9_alive cX9_alive 3 (some .int) ∈ sw_T := sw_T_of (i := 1104) (by decide +kernel) rfl
theorem cd_X9_thickest : Cond.code yX9_thickest cX9_thickest 3 (some .int) ∈ sw_T := sw_T_of (i := 1110) (by decide +kernel) rfl
theorem cd_X9_thinnest : Cond.code yX9_thinnest cX9_thinnest 3 (some .int) ∈ sw_T := sw_T_of (i := 1114) (by decide +kernel) rfl
theorem cd_X9_makers : Cond.code yX9_makers cX9_makers 4 (some .int) ∈ sw_T := sw_T_of (i := 1118) (by decide +kernel) rfl
theorem cd_X9_heaviest : Cond.code yX9_heaviest cX9_heaviest 3 (some .int) ∈ sw_T := sw_T_of (i := 1122) (by decide +kernel) rfl
theorem cd_X9_law : Cond.code yX9_law cX9_law 2 (some .int) ∈ sw_T := sw_T_of (i := 1127) (by decide +kernel) rfl
theorem cd_X3_allUnderLaw : Cond.code yX3_allUnderLaw cX3_allUnderLaw 5 (some .int) ∈ sw_T := sw_T_of (i := 1131) (by decide +kernel) rfl
theorem cd_X9_mission : Cond.code yX9_mission cX9_mission 3 (some .int) ∈ sw_T := sw_T_of (i := 1136) (by decide +kernel) rfl
theorem cd_X9_odds : Cond.code yX9_odds cX9_odds 6 (some .int) ∈ sw_T := sw_T_of (i := 1140) (by decide +kernel) rfl
theorem cd_X9_commonDivisor : Cond.code yX9_commonDivisor cX9_commonDivisor 6 (some .int) ∈ sw_T := sw_T_of (i := 1143) (by decide +kernel) rfl
theorem cd_X9_lies : Cond.code yX9_lies cX9_lies 2 (some .int) ∈ sw_T := sw_T_of (i := 1147) (by decide +kernel) rfl
theorem cd_X9_seen : Cond.code yX9_seen cX9_seen 5 (some .int) ∈ sw_T := sw_T_of (i := 1151) (by decide +kernel) rfl
theorem cd_X6_add : Cond.code yX6_add cX6_add 6 (some .int) ∈ sw_T := sw_T_of (i := 1155) (by decide +kernel) rfl
theorem cd_X9_untell : Cond.code yX9_untell cX9_untell 2 (some .boolean) ∈ sw_T := sw_T_of (i := 1159) (by decide +kernel) rfl
theorem cd_X6_takeBack : Cond.code yX6_takeBack cX6_takeBack 3 (some .boolean) ∈ sw_T := sw_T_of (i := 1163) (by decide +kernel) rfl
theorem cd_X9_later : Cond.code yX9_later cX9_later 2 (some .int) ∈ sw_T := sw_T_of (i := 1167) (by decide +kernel) rfl
theorem cd_X9_fits : Cond.code yX9_fits cX9_fits 2 (some .int) ∈ sw_T := sw_T_of (i := 1172) (by decide +kernel) rfl
theorem cd_X6_fitting : Cond.code yX6_fitting cX6_fitting 5 (some .int) ∈ sw_T := sw_T_of (i := 1176) (by decide +kernel) rfl
theorem cd_X6_followCourses : Cond.code yX6_followCourses cX6_followCourses 4 none ∈ sw_T := sw_T_of (i := 1180) (by decide +kernel) rfl
theorem cd_X6_tellAll : Cond.code yX6_tellAll cX6_tellAll 4 none ∈ sw_T := sw_T_of (i := 1184) (by decide +kernel) rfl
theorem cd_X6_cell : Cond.code yX6_cell cX6_cell 2 (some .int) ∈ sw_T := sw_T_of (i := 1190) (by decide +kernel) rfl
theorem cd_X6_isBorneOut : Cond.code yX6_isBorneOut cX6_isBorneOut 5 (some .boolean) ∈ sw_T := sw_T_of (i := 1196) (by decide +kernel) rfl
theorem cd_X6_counts : Cond.code yX6_counts cX6_counts 3 (some .boolean) ∈ sw_T := sw_T_of (i := 1200) (by decide +kernel) rfl
theorem cd_X9_sure : Cond.code yX9_sure cX9_sure 4 (some .int) ∈ sw_T := sw_T_of (i := 1204) (by decide +kernel) rfl
theorem cd_J6_numberOfLeadingZeros_0f7a4 : Cond.code yJ6_numberOfLeadingZeros_0f7a4 cJ6_numberOfLeadingZeros_0f7a4 2 (some .int) ∈ sw_T := sw_T_of (i := 1207) (by decide +kernel) rfl
theorem cd_X9_ask : Cond.code yX9_ask cX9_ask 9 (some .int) ∈ sw_T := sw_T_of (i := 1211) (by decide +kernel) rfl
theorem cd_X6_leftAtMost : Cond.code yX6_leftAtMost cX6_leftAtMost 6 (some .int) ∈ sw_T := sw_T_of (i := 1215) (by decide +kernel) rfl
theorem cd_X6_alike : Cond.code yX6_alike cX6_alike 8 (some .int) ∈ sw_T := sw_T_of (i := 1219) (by decide +kernel) rfl
theorem cd_X9_image : Cond.code yX9_image cX9_image 2 (some .int) ∈ sw_T := sw_T_of (i := 1224) (by decide +kernel) rfl
theorem cd_X1_isBox : Cond.code yX1_isBox cX1_isBox 2 (some .boolean) ∈ sw_T := sw_T_of (i := 1228) (by decide +kernel) rfl
theorem cd_X1_put : Cond.code yX1_put cX1_put 3 none ∈ sw_T := sw_T_of (i := 1232) (by decide +kernel) rfl
theorem cd_X9_back : Cond.code yX9_back cX9_back 2 (some .int) ∈ sw_T := sw_T_of (i := 1237) (by decide +kernel) rfl
theorem cd_X1_take : Cond.code yX1_take cX1_take 3 none ∈ sw_T := sw_T_of (i := 1241) (by decide +kernel) rfl
theorem cd_X9_about : Cond.code yX9_about cX9_about 2 (some .int) ∈ sw_T := sw_T_of (i := 1246) (by decide +kernel) rfl
theorem cd_X0_undoable : Cond.code yX0_undoable cX0_undoable 1 (some .int) ∈ sw_T := sw_T_of (i := 1250) (by decide +kernel) rfl
theorem cd_X0_redoable : Cond.code yX0_redoable cX0_redoable 1 (some .int) ∈ sw_T := sw_T_of (i := 1254) (by decide +kernel) rfl
theorem cd_X10_init : Cond.code yX10_init cX10_init 1 none ∈ sw_T := sw_T_of (i := 1259) (by decide +kernel) rfl
theorem cd_X10_feed : Cond.code yX10_feed cX10_feed 6 (some .int) ∈ sw_T := sw_T_of (i := 1484) (by decide +kernel) rfl
theorem cd_X10_four : Cond.code yX10_four cX10_four 3 none ∈ sw_T := sw_T_of (i := 1488) (by decide +kernel) rfl
theorem cd_X10_end : Cond.code yX10_end cX10_end 2 (some .int) ∈ sw_T := sw_T_of (i := 1492) (by decide +kernel) rfl
theorem cd_X10_works : Cond.code yX10_works cX10_works 2 (some .int) ∈ sw_T := sw_T_of (i := 1496) (by decide +kernel) rfl
theorem cd_X10_readAll : Cond.code yX10_readAll cX10_readAll 1 none ∈ sw_T := sw_T_of (i := 1500) (by decide +kernel) rfl
theorem cd_X10_token : Cond.code yX10_token cX10_token 3 none ∈ sw_T := sw_T_of (i := 1504) (by decide +kernel) rfl
theorem cd_X10_here : Cond.code yX10_here cX10_here 2 (some .int) ∈ sw_T := sw_T_of (i := 1508) (by decide +kernel) rfl
theorem cd_X10_isLetter : Cond.code yX10_isLetter cX10_isLetter 1 (some .boolean) ∈ sw_T := sw_T_of (i := 1511) (by decide +kernel) rfl
theorem cd_X10_isDigit : Cond.code yX10_isDigit cX10_isDigit 1 (some .boolean) ∈ sw_T := sw_T_of (i := 1514) (by decide +kernel) rfl
theorem cd_X10_isSign : Cond.code yX10_isSign cX10_isSign 1 (some .boolean) ∈ sw_T := sw_T_of (i := 1517) (by decide +kernel) rfl
theorem cd_X10_readLine : Cond.code yX10_readLine cX10_readLine 1 none ∈ sw_T := sw_T_of (i := 1521) (by decide +kernel) rfl
theorem cd_X10_isWord : Cond.code yX10_isWord cX10_isWord 3 (some .boolean) ∈ sw_T := sw_T_of (i := 1526) (by decide +kernel) rfl
theorem cd_X10_readKind : Cond.code yX10_readKind cX10_readKind 1 none ∈ sw_T := sw_T_of (i := 1530) (by decide +kernel) rfl
theorem cd_X10_newName : Cond.code yX10_newName cX10_newName 3 none ∈ sw_T := sw_T_of (i := 1534) (by decide +kernel) rfl
theorem cd_X10_isName : Cond.code yX10_isName cX10_isName 1 (some .boolean) ∈ sw_T := sw_T_of (i := 1538) (by decide +kernel) rfl
theorem cd_X10_isOwn : Cond.code yX10_isOwn cX10_isOwn 1 (some .boolean) ∈ sw_T := sw_T_of (i := 1542) (by decide +kernel) rfl
theorem cd_X10_wrong : Cond.code yX10_wrong cX10_wrong 2 none ∈ sw_T := sw_T_of (i := 1564) (by decide +kernel) rfl
theorem cd_X10_find : Cond.code yX10_find cX10_find 5 (some .int) ∈ sw_T := sw_T_of (i := 1568) (by decide +kernel) rfl
theorem cd_X10_readPerson : Cond.code yX10_readPerson cX10_readPerson 1 none ∈ sw_T := sw_T_of (i := 1572) (by decide +kernel) rfl
theorem cd_X10_want : Cond.code yX10_want cX10_want 3 none ∈ sw_T := sw_T_of (i := 1576) (by decide +kernel) rfl
theorem cd_X10_readAllOf : Cond.code yX10_readAllOf cX10_readAllOf 4 none ∈ sw_T := sw_T_of (i := 1580) (by decide +kernel) rfl
theorem cd_X10_readSome : Cond.code yX10_readSome cX10_readSome 5 none ∈ sw_T := sw_T_of (i := 1584) (by decide +kernel) rfl
theorem cd_X10_oldKind : Cond.code yX10_oldKind cX10_oldKind 1 (some .int) ∈ sw_T := sw_T_of (i := 1588) (by decide +kernel) rfl
theorem cd_X10_toldNumber : Cond.code yX10_toldNumber cX10_toldNumber 4 (some .int) ∈ sw_T := sw_T_of (i := 1592) (by decide +kernel) rfl
theorem cd_X10_readRule : Cond.code yX10_readRule cX10_readRule 1 none ∈ sw_T := sw_T_of (i := 1596) (by decide +kernel) rfl
theorem cd_X10_readBasin : Cond.code yX10_readBasin cX10_readBasin 1 none ∈ sw_T := sw_T_of (i := 1600) (by decide +kernel) rfl
theorem cd_X10_formula : Cond.code yX10_formula cX10_formula 3 none ∈ sw_T := sw_T_of (i := 1604) (by decide +kernel) rfl
theorem cd_X10_unit : Cond.code yX10_unit cX10_unit 3 none ∈ sw_T := sw_T_of (i := 1608) (by decide +kernel) rfl
theorem cd_X10_mayNot : Cond.code yX10_mayNot cX10_mayNot 1 (some .boolean) ∈ sw_T := sw_T_of (i := 1612) (by decide +kernel) rfl
theorem cd_X10_tight : Cond.code yX10_tight cX10_tight 1 (some .int) ∈ sw_T := sw_T_of (i := 1615) (by decide +kernel) rfl
theorem cd_X10_openUp : Cond.code yX10_openUp cX10_openUp 2 none ∈ sw_T := sw_T_of (i := 1619) (by decide +kernel) rfl
theorem cd_X10_isFull : Cond.code yX10_isFull cX10_isFull 1 (some .boolean) ∈ sw_T := sw_T_of (i := 1623) (by decide +kernel) rfl
theorem cd_X10_countUnit : Cond.code yX10_countUnit cX10_countUnit 1 none ∈ sw_T := sw_T_of (i := 1627) (by decide +kernel) rfl
theorem cd_X10_asked : Cond.code yX10_asked cX10_asked 1 (some .int) ∈ sw_T := sw_T_of (i := 1631) (by decide +kernel) rfl
theorem cd_X10_add : Cond.code yX10_add cX10_add 3 none ∈ sw_T := sw_T_of (i := 1635) (by decide +kernel) rfl
theorem cd_X10_sign : Cond.code yX10_sign cX10_sign 1 (some .int) ∈ sw_T := sw_T_of (i := 1639) (by decide +kernel) rfl
theorem cd_X10_hasBracket : Cond.code yX10_hasBracket cX10_hasBracket 3 (some .boolean) ∈ sw_T := sw_T_of (i := 1643) (by decide +kernel) rfl
theorem cd_X10_close : Cond.code yX10_close cX10_close 2 none ∈ sw_T := sw_T_of (i := 1647) (by decide +kernel) rfl
theorem cd_X10_hasRelation : Cond.code yX10_hasRelation cX10_hasRelation 2 (some .boolean) ∈ sw_T := sw_T_of (i := 1651) (by decide +kernel) rfl
theorem cd_X10_told : Cond.code yX10_told cX10_told 5 (some .int) ∈ sw_T := sw_T_of (i := 1655) (by decide +kernel) rfl
theorem cd_X10_fault : Cond.code yX10_fault cX10_fault 2 (some .int) ∈ sw_T := sw_T_of (i := 1659) (by decide +kernel) rfl
theorem cd_X10_vat : Cond.code yX10_vat cX10_vat 2 (some .int) ∈ sw_T := sw_T_of (i := 1663) (by decide +kernel) rfl
theorem cd_X10_isKind : Cond.code yX10_isKind cX10_isKind 2 (some .boolean) ∈ sw_T := sw_T_of (i := 1667) (by decide +kernel) rfl
theorem cd_X10_isIn : Cond.code yX10_isIn cX10_isIn 3 (some .boolean) ∈ sw_T := sw_T_of (i := 1670) (by decide +kernel) rfl
theorem cd_X10_mind : Cond.code yX10_mind cX10_mind 3 (some .int) ∈ sw_T := sw_T_of (i := 1674) (by decide +kernel) rfl
theorem cd_X10_isPerson : Cond.code yX10_isPerson cX10_isPerson 2 (some .boolean) ∈ sw_T := sw_T_of (i := 1678) (by decide +kernel) rfl
theorem cd_X10_wants : Cond.code yX10_wants cX10_wants 3 (some .int) ∈ sw_T := sw_T_of (i := 1682) (by decide +kernel) rfl
theorem cd_X10_isBasin : Cond.code yX10_isBasin cX10_isBasin 2 (some .boolean) ∈ sw_T := sw_T_of (i := 1686) (by decide +kernel) rfl
theorem cd_X10_rule : Cond.code yX10_rule cX10_rule 3 (some .int) ∈ sw_T := sw_T_of (i := 1690) (by decide +kernel) rfl
theorem cd_X10_isRule : Cond.code yX10_isRule cX10_isRule 2 (some .boolean) ∈ sw_T := sw_T_of (i := 1694) (by decide +kernel) rfl
theorem cd_X10_confess : Cond.code yX10_confess cX10_confess 2 (some .int) ∈ sw_T := sw_T_of (i := 1698) (by decide +kernel) rfl
theorem cd_X10_hasTold : Cond.code yX10_hasTold cX10_hasTold 2 (some .boolean) ∈ sw_T := sw_T_of (i := 1702) (by decide +kernel) rfl
theorem cd_X10_act : Cond.code yX10_act cX10_act 2 none ∈ sw_T := sw_T_of (i := 1706) (by decide +kernel) rfl
theorem cd_X10_fill : Cond.code yX10_fill cX10_fill 2 none ∈ sw_T := sw_T_of (i := 1710) (by decide +kernel) rfl
theorem cd_X10_tells : Cond.code yX10_tells cX10_tells 3 none ∈ sw_T := sw_T_of (i := 1714) (by decide +kernel) rfl
theorem cd_X10_lesser : Cond.code yX10_lesser cX10_lesser 2 (some .int) ∈ sw_T := sw_T_of (i := 1717) (by decide +kernel) rfl
theorem cd_X10_keepAir : Cond.code yX10_keepAir cX10_keepAir 2 none ∈ sw_T := sw_T_of (i := 1721) (by decide +kernel) rfl
theorem cd_X10_allOf : Cond.code yX10_allOf cX10_allOf 3 (some .int) ∈ sw_T := sw_T_of (i := 1725) (by decide +kernel) rfl
theorem cd_X10_boil : Cond.code yX10_boil cX10_boil 2 (some .int) ∈ sw_T := sw_T_of (i := 1729) (by decide +kernel) rfl
theorem cd_X10_goBoiling : Cond.code yX10_goBoiling cX10_goBoiling 4 (some .boolean) ∈ sw_T := sw_T_of (i := 1733) (by decide +kernel) rfl
theorem cd_X10_boilAll : Cond.code yX10_boilAll cX10_boilAll 2 none ∈ sw_T := sw_T_of (i := 1737) (by decide +kernel) rfl
theorem cd_X10_boilBy : Cond.code yX10_boilBy cX10_boilBy 5 none ∈ sw_T := sw_T_of (i := 1741) (by decide +kernel) rfl
theorem cd_X10_makes : Cond.code yX10_makes cX10_makes 5 (some .int) ∈ sw_T := sw_T_of (i := 1745) (by decide +kernel) rfl
theorem cd_X10_skims : Cond.code yX10_skims cX10_skims 2 none ∈ sw_T := sw_T_of (i := 1749) (by decide +kernel) rfl
theorem cd_X10_greater : Cond.code yX10_greater cX10_greater 2 (some .int) ∈ sw_T := sw_T_of (i := 1752) (by decide +kernel) rfl
theorem cd_X10_isRisen : Cond.code yX10_isRisen cX10_isRisen 3 (some .boolean) ∈ sw_T := sw_T_of (i := 1756) (by decide +kernel) rfl
theorem cd_X10_truth : Cond.code yX10_truth cX10_truth 1 (some .int) ∈ sw_T := sw_T_of (i := 1759) (by decide +kernel) rfl
theorem cd_X10_members : Cond.code yX10_members cX10_members 3 (some .int) ∈ sw_T := sw_T_of (i := 1762) (by decide +kernel) rfl
theorem cd_X10_done : Cond.code yX10_done cX10_done 3 (some .int) ∈ sw_T := sw_T_of (i := 1765) (by decide +kernel) rfl
theorem cd_X10_wash : Cond.code yX10_wash cX10_wash 3 (some .int) ∈ sw_T := sw_T_of (i := 1769) (by decide +kernel) rfl
theorem cd_X10_isEased : Cond.code yX10_isEased cX10_isEased 2 (some .boolean) ∈ sw_T := sw_T_of (i := 1773) (by decide +kernel) rfl
theorem cd_X10_holds : Cond.code yX10_holds cX10_holds 4 (some .boolean) ∈ sw_T := sw_T_of (i := 1777) (by decide +kernel) rfl
theorem cd_X10_sweep : Cond.code yX10_sweep cX10_sweep 3 (some .int) ∈ sw_T := sw_T_of (i := 1781) (by decide +kernel) rfl
theorem cd_X10_undo : Cond.code yX10_undo cX10_undo 1 (some .boolean) ∈ sw_T := sw_T_of (i := 1785) (by decide +kernel) rfl
theorem cd_X10_exchange : Cond.code yX10_exchange cX10_exchange 4 none ∈ sw_T := sw_T_of (i := 1789) (by decide +kernel) rfl
theorem cd_X10_redo : Cond.code yX10_redo cX10_redo 1 (some .boolean) ∈ sw_T := sw_T_of (i := 1793) (by decide +kernel) rfl
theorem cd_X10_will : Cond.code yX10_will cX10_will 5 (some .int) ∈ sw_T := sw_T_of (i := 1797) (by decide +kernel) rfl
theorem cd_X10_rise : Cond.code yX10_rise cX10_rise 1 (some .int) ∈ sw_T := sw_T_of (i := 1801) (by decide +kernel) rfl
theorem cd_X10_risesIn : Cond.code yX10_risesIn cX10_risesIn 3 (some .int) ∈ sw_T := sw_T_of (i := 1805) (by decide +kernel) rfl
theorem cd_X10_rouser : Cond.code yX10_rouser cX10_rouser 6 (some .int) ∈ sw_T := sw_T_of (i := 1809) (by decide +kernel) rfl
theorem cd_X10_choir : Cond.code yX10_choir cX10_choir 6 (some .int) ∈ sw_T := sw_T_of (i := 1813) (by decide +kernel) rfl
theorem cd_X10_silent : Cond.code yX10_silent cX10_silent 1 (some .int) ∈ sw_T := sw_T_of (i := 1817) (by decide +kernel) rfl
theorem cd_X10_tellAll : Cond.code yX10_tellAll cX10_tellAll 3 none ∈ sw_T := sw_T_of (i := 1821) (by decide +kernel) rfl
theorem cd_X10_power : Cond.code yX10_power cX10_power 5 (some .int) ∈ sw_T := sw_T_of (i := 1825) (by decide +kernel) rfl
theorem cd_X10_risesWith : Cond.code yX10_risesWith cX10_risesWith 2 (some .boolean) ∈ sw_T := sw_T_of (i := 1829) (by decide +kernel) rfl
theorem cd_X10_serve : Cond.code yX10_serve cX10_serve 9 (some .int) ∈ sw_T := sw_T_of (i := 1833) (by decide +kernel) rfl
theorem cd_X10_balm : Cond.code yX10_balm cX10_balm 6 (some .int) ∈ sw_T := sw_T_of (i := 1837) (by decide +kernel) rfl
theorem cd_X10_cook : Cond.code yX10_cook cX10_cook 3 (some .int) ∈ sw_T := sw_T_of (i := 1841) (by decide +kernel) rfl
theorem cd_X10_lacks : Cond.code yX10_lacks cX10_lacks 2 (some .int) ∈ sw_T := sw_T_of (i := 1845) (by decide +kernel) rfl
theorem cd_X10_lackOf : Cond.code yX10_lackOf cX10_lackOf 4 (some .int) ∈ sw_T := sw_T_of (i := 1849) (by decide +kernel) rfl
theorem cd_X10_rest : Cond.code yX10_rest cX10_rest 4 (some .int) ∈ sw_T := sw_T_of (i := 1853) (by decide +kernel) rfl
theorem cd_X10_order : Cond.code yX10_order cX10_order 5 (some .int) ∈ sw_T := sw_T_of (i := 1857) (by decide +kernel) rfl
theorem cd_X10_nextRow : Cond.code yX10_nextRow cX10_nextRow 5 (some .boolean) ∈ sw_T := sw_T_of (i := 1861) (by decide +kernel) rfl
theorem cd_X10_swap : Cond.code yX10_swap cX10_swap 4 none ∈ sw_T := sw_T_of (i := 1865) (by decide +kernel) rfl
theorem cd_X10_comes : Cond.code yX10_comes cX10_comes 4 (some .int) ∈ sw_T := sw_T_of (i := 1869) (by decide +kernel) rfl
theorem cd_X10_comesOf : Cond.code yX10_comesOf cX10_comesOf 4 (some .int) ∈ sw_T := sw_T_of (i := 1873) (by decide +kernel) rfl
theorem cd_X10_steps : Cond.code yX10_steps cX10_steps 5 (some .int) ∈ sw_T := sw_T_of (i := 1877) (by decide +kernel) rfl
theorem cd_X10_duel : Cond.code yX10_duel cX10_duel 5 (some .int) ∈ sw_T := sw_T_of (i := 1881) (by decide +kernel) rfl
theorem cd_X10_mindOf : Cond.code yX10_mindOf cX10_mindOf 4 (some .int) ∈ sw_T := sw_T_of (i := 1885) (by decide +kernel) rfl
theorem cd_X10_nearest : Cond.code yX10_nearest cX10_nearest 3 (some .int) ∈ sw_T := sw_T_of (i := 1889) (by decide +kernel) rfl
theorem cd_X10_wanted : Cond.code yX10_wanted cX10_wanted 4 (some .int) ∈ sw_T := sw_T_of (i := 1893) (by decide +kernel) rfl
theorem cd_X10_sinners : Cond.code yX10_sinners cX10_sinners 4 (some .int) ∈ sw_T := sw_T_of (i := 1897) (by decide +kernel) rfl
theorem cd_X10_inert : Cond.code yX10_inert cX10_inert 3 (some .int) ∈ sw_T := sw_T_of (i := 1901) (by decide +kernel) rfl
theorem cd_X10_alive : Cond.code yX10_alive cX10_alive 3 (some .int) ∈ sw_T := sw_T_of (i := 1905) (by decide +kernel) rfl
theorem cd_X10_thickest : Cond.code yX10_thickest cX10_thickest 3 (some .int) ∈ sw_T := sw_T_of (i := 1909) (by decide +kernel) rfl
theorem cd_X10_thinnest : Cond.code yX10_thinnest cX10_thinnest 3 (some .int) ∈ sw_T := sw_T_of (i := 1913) (by decide +kernel) rfl
theorem cd_X10_makers : Cond.code yX10_makers cX10_makers 4 (some .int) ∈ sw_T := sw_T_of (i := 1917) (by decide +kernel) rfl
theorem cd_X10_heaviest : Cond.code yX10_heaviest cX10_heaviest 3 (some .int) ∈ sw_T := sw_T_of (i := 1921) (by decide +kernel) rfl
theorem cd_X10_law : Cond.code yX10_law cX10_law 3 (some .int) ∈ sw_T := sw_T_of (i := 1925) (by decide +kernel) rfl
theorem cd_X10_mission : Cond.code yX10_mission cX10_mission 1 (some .int) ∈ sw_T := sw_T_of (i := 1929) (by decide +kernel) rfl
theorem cd_X10_odds : Cond.code yX10_odds cX10_odds 6 (some .int) ∈ sw_T := sw_T_of (i := 1933) (by decide +kernel) rfl
theorem cd_X10_raised : Cond.code yX10_raised cX10_raised 4 (some .int) ∈ sw_T := sw_T_of (i := 1936) (by decide +kernel) rfl
theorem cd_X10_divisor : Cond.code yX10_divisor cX10_divisor 5 (some .int) ∈ sw_T := sw_T_of (i := 1939) (by decide +kernel) rfl
theorem cd_X10_lies : Cond.code yX10_lies cX10_lies 2 (some .int) ∈ sw_T := sw_T_of (i := 1943) (by decide +kernel) rfl
theorem cd_X10_seen : Cond.code yX10_seen cX10_seen 5 (some .int) ∈ sw_T := sw_T_of (i := 1947) (by decide +kernel) rfl
theorem cd_X10_untell : Cond.code yX10_untell cX10_untell 2 (some .boolean) ∈ sw_T := sw_T_of (i := 1951) (by decide +kernel) rfl
theorem cd_X10_later : Cond.code yX10_later cX10_later 2 (some .int) ∈ sw_T := sw_T_of (i := 1955) (by decide +kernel) rfl
theorem cd_X10_fits : Cond.code yX10_fits cX10_fits 2 (some .int) ∈ sw_T := sw_T_of (i := 1960) (by decide +kernel) rfl
theorem cd_X10_layFits : Cond.code yX10_layFits cX10_layFits 6 (some .int) ∈ sw_T := sw_T_of (i := 1964) (by decide +kernel) rfl
theorem cd_X10_fitsMuch : Cond.code yX10_fitsMuch cX10_fitsMuch 5 (some .boolean) ∈ sw_T := sw_T_of (i := 1968) (by decide +kernel) rfl
theorem cd_X10_sure : Cond.code yX10_sure cX10_sure 5 (some .int) ∈ sw_T := sw_T_of (i := 1972) (by decide +kernel) rfl
theorem cd_X10_ask : Cond.code yX10_ask cX10_ask 6 (some .int) ∈ sw_T := sw_T_of (i := 1976) (by decide +kernel) rfl
theorem cd_X10_leftBy : Cond.code yX10_leftBy cX10_leftBy 6 (some .int) ∈ sw_T := sw_T_of (i := 1980) (by decide +kernel) rfl
theorem cd_X10_image : Cond.code yX10_image cX10_image 3 (some .int) ∈ sw_T := sw_T_of (i := 1984) (by decide +kernel) rfl
theorem cd_X10_isBox : Cond.code yX10_isBox cX10_isBox 1 (some .boolean) ∈ sw_T := sw_T_of (i := 1987) (by decide +kernel) rfl
theorem cd_X10_back : Cond.code yX10_back cX10_back 3 (some .int) ∈ sw_T := sw_T_of (i := 1991) (by decide +kernel) rfl
theorem cd_X10_about : Cond.code yX10_about cX10_about 2 (some .int) ∈ sw_T := sw_T_of (i := 1995) (by decide +kernel) rfl
theorem gs_X9_72 : GoodIn sw_T (wsV RX9 72 RX7 yX7_append (.code yX7_append cX7_append 3 none :: sw_T)) := sw_goodV (sw_T_of (i := 533) (by decide +kernel) rfl) (sw_T_of (i := 534) (by decide +kernel) rfl) (sw_T_of (i := 535) (by decide +kernel) rfl) (sw_T_of (i := 102) (by decide +kernel) rfl) cd_X7_append
theorem gs_X9_76 : GoodIn sw_T (wsV RX9 76 RX5 yX5_begin (.code yX5_begin cX5_begin 1 none :: sw_T)) := sw_goodV (sw_T_of (i := 545) (by decide +kernel) rfl) (sw_T_of (i := 546) (by decide +kernel) rfl) (sw_T_of (i := 547) (by decide +kernel) rfl) (sw_T_of (i := 101) (by decide +kernel) rfl) cd_X5_begin
theorem gs_X9_79 : GoodIn sw_T (wsV RX9 79 RX5 yX5_isAtEnd (.code yX5_isAtEnd cX5_isAtEnd 1 (some .boolean) :: sw_T)) := sw_goodV (sw_T_of (i := 652) (by decide +kernel) rfl) (sw_T_of (i := 653) (by decide +kernel) rfl) (sw_T_of (i := 654) (by decide +kernel) rfl) (sw_T_of (i := 101) (by decide +kernel) rfl) cd_X5_isAtEnd
theorem gs_X9_83 : GoodIn sw_T (wsV RX9 83 RX5 yX5_readLine (.code yX5_readLine cX5_readLine 1 (some .boolean) :: sw_T)) := sw_goodV (sw_T_of (i := 656) (by decide +kernel) rfl) (sw_T_of (i := 657) (by decide +kernel) rfl) (sw_T_of (i := 658) (by decide +kernel) rfl) (sw_T_of (i := 101) (by decide +kernel) rfl) cd_X5_readLine
theorem gs_X9_90 : GoodIn sw_T (wsV RX9 90 RX8 yX8_begin (.code yX8_begin cX8_begin 2 none :: sw_T)) := sw_goodV (sw_T_of (i := 750) (by decide +kernel) rfl) (sw_T_of (i := 751) (by decide +kernel) rfl) (sw_T_of (i := 752) (by decide +kernel) rfl) (sw_T_of (i := 109) (by decide +kernel) rfl) cd_X8_begin
theorem gs_X9_92 : GoodIn sw_T (wsV RX9 92 RX0 yX0_forget (.code yX0_forget cX0_forget 1 none :: sw_T)) := sw_goodV (sw_T_of (i := 755) (by decide +kernel) rfl) (sw_T_of (i := 756) (by decide +kernel) rfl) (sw_T_of (i := 757) (by decide +kernel) rfl) (sw_T_of (i := 110) (by decide +kernel) rfl) cd_X0_forget
theorem gs_X9_95 : GoodIn sw_T (wsV RX9 95 RX1 yX1_forget (.code yX1_forget cX1_forget 2 none :: sw_T)) := sw_goodV (sw_T_of (i := 759) (by decide +kernel) rfl) (sw_T_of (i := 760) (by decide +kernel) rfl) (sw_T_of (i := 761) (by decide +kernel) rfl) (sw_T_of (i := 111) (by decide +kernel) rfl) cd_X1_forget
theorem gs_X9_96 : GoodIn sw_T (wsV RX9 96 RX6 yX6_forget (.code yX6_forget cX6_forget 1 none :: sw_T)) := sw_goodV (sw_T_of (i := 763) (by decide +kernel) rfl) (sw_T_of (i := 764) (by decide +kernel) rfl) (sw_T_of (i := 765) (by decide +kernel) rfl) (sw_T_of (i := 113) (by decide +kernel) rfl) cd_X6_forget
theorem gs_X9_109 : GoodIn sw_T (wsV RX9 109 RX4 yX4_isKind (.code yX4_isKind cX4_isKind 2 (some .boolean) :: sw_T)) := sw_goodV (sw_T_of (i := 775) (by decide +kernel) rfl) (sw_T_of (i := 776) (by decide +kernel) rfl) (sw_T_of (i := 777) (by decide +kernel) rfl) (sw_T_of (i := 107) (by decide +kernel) rfl) cd_X4_isKind
theorem gs_X9_116 : GoodIn sw_T (wsV RX9 116 RX4 yX4_isPerson (.code yX4_isPerson cX4_isPerson 2 (some .boolean) :: sw_T)) := sw_goodV (sw_T_of (i := 783) (by decide +kernel) rfl) (sw_T_of (i := 784) (by decide +kernel) rfl) (sw_T_of (i := 785) (by decide +kernel) rfl) (sw_T_of (i := 107) (by decide +kernel) rfl) cd_X4_isPerson
theorem gs_X9_119 : GoodIn sw_T (wsV RX9 119 RX4 yX4_has (.code yX4_has cX4_has 3 (some .int) :: sw_T)) := sw_goodV (sw_T_of (i := 787) (by decide +kernel) rfl) (sw_T_of (i := 788) (by decide +kernel) rfl) (sw_T_of (i := 789) (by decide +kernel) rfl) (sw_T_of (i := 107) (by decide +kernel) rfl) cd_X4_has
theorem gs_X9_123 : GoodIn sw_T (wsV RX9 123 RX4 yX4_isBasin (.code yX4_isBasin cX4_isBasin 2 (some .boolean) :: sw_T)) := sw_goodV (sw_T_of (i := 795) (by decide +kernel) rfl) (sw_T_of (i := 796) (by decide +kernel) rfl) (sw_T_of (i := 797) (by decide +kernel) rfl) (sw_T_of (i := 107) (by decide +kernel) rfl) cd_X4_isBasin
theorem gs_X9_126 : GoodIn sw_T (wsV RX9 126 RX4 yX4_needs (.code yX4_needs cX4_needs 3 (some .int) :: sw_T)) := sw_goodV (sw_T_of (i := 799) (by decide +kernel) rfl) (sw_T_of (i := 800) (by decide +kernel) rfl) (sw_T_of (i := 801) (by decide +kernel) rfl) (sw_T_of (i := 107) (by decide +kernel) rfl) cd_X4_needs
theorem gs_X9_135 : GoodIn sw_T (wsV RX9 135 RX9 yX9_isSilent (.code yX9_isSilent cX9_isSilent 2 (some .boolean) :: sw_T)) := sw_goodV (sw_T_of (i := 811) (by decide +kernel) rfl) (sw_T_of (i := 813) (by decide +kernel) rfl) (sw_T_of (i := 22) (by decide +kernel) rfl) (sw_T_of (i := 100) (by decide +kernel) rfl) cd_X9_isSilent
theorem gs_X9_138 : GoodIn sw_T (wsV RX9 138 RX0 yX0_keep (.code yX0_keep cX0_keep 2 none :: sw_T)) := sw_goodV (sw_T_of (i := 815) (by decide +kernel) rfl) (sw_T_of (i := 816) (by decide +kernel) rfl) (sw_T_of (i := 817) (by decide +kernel) rfl) (sw_T_of (i := 110) (by decide +kernel) rfl) cd_X0_keep
theorem gs_X9_142 : GoodIn sw_T (wsV RX9 142 RX4 yX4_tell (.code yX4_tell cX4_tell 4 none :: sw_T)) := sw_goodV (sw_T_of (i := 827) (by decide +kernel) rfl) (sw_T_of (i := 828) (by decide +kernel) rfl) (sw_T_of (i := 829) (by decide +kernel) rfl) (sw_T_of (i := 107) (by decide +kernel) rfl) cd_X4_tell
theorem gs_X9_146 : GoodIn sw_T (wsV RX9 146 RX8 yX8_all (.code yX8_all cX8_all 3 (some .int) :: sw_T)) := sw_goodV (sw_T_of (i := 837) (by decide +kernel) rfl) (sw_T_of (i := 838) (by decide +kernel) rfl) (sw_T_of (i := 839) (by decide +kernel) rfl) (sw_T_of (i := 109) (by decide +kernel) rfl) cd_X8_all
theorem gs_X9_153 : GoodIn sw_T (wsV RX9 153 RX4 yX4_boilInEarnest (.code yX4_boilInEarnest cX4_boilInEarnest 3 (some .boolean) :: sw_T)) := sw_goodV (sw_T_of (i := 845) (by decide +kernel) rfl) (sw_T_of (i := 846) (by decide +kernel) rfl) (sw_T_of (i := 847) (by decide +kernel) rfl) (sw_T_of (i := 107) (by decide +kernel) rfl) cd_X4_boilInEarnest
theorem gs_X9_157 : GoodIn sw_T (wsV RX9 157 RX9 yX9_isEased (.code yX9_isEased cX9_isEased 2 (some .boolean) :: sw_T)) := sw_goodV (sw_T_of (i := 909) (by decide +kernel) rfl) (sw_T_of (i := 911) (by decide +kernel) rfl) (sw_T_of (i := 25) (by decide +kernel) rfl) (sw_T_of (i := 100) (by decide +kernel) rfl) cd_X9_isEased
theorem gs_X9_160 : GoodIn sw_T (wsV RX9 160 RX4 yX4_lacking (.code yX4_lacking cX4_lacking 5 (some .int) :: sw_T)) := sw_goodV (sw_T_of (i := 913) (by decide +kernel) rfl) (sw_T_of (i := 914) (by decide +kernel) rfl) (sw_T_of (i := 915) (by decide +kernel) rfl) (sw_T_of (i := 107) (by decide +kernel) rfl) cd_X4_lacking
theorem gs_X9_170 : GoodIn sw_T (wsV RX9 170 RX0 yX0_takeBack (.code yX0_takeBack cX0_takeBack 2 (some .boolean) :: sw_T)) := sw_goodV (sw_T_of (i := 926) (by decide +kernel) rfl) (sw_T_of (i := 927) (by decide +kernel) rfl) (sw_T_of (i := 928) (by decide +kernel) rfl) (sw_T_of (i := 110) (by decide +kernel) rfl) cd_X0_takeBack
theorem gs_X9_174 : GoodIn sw_T (wsV RX9 174 RX0 yX0_doAgain (.code yX0_doAgain cX0_doAgain 2 (some .boolean) :: sw_T)) := sw_goodV (sw_T_of (i := 938) (by decide +kernel) rfl) (sw_T_of (i := 939) (by decide +kernel) rfl) (sw_T_of (i := 940) (by decide +kernel) rfl) (sw_T_of (i := 110) (by decide +kernel) rfl) cd_X0_doAgain
theorem gs_X9_177 : GoodIn sw_T (wsV RX9 177 RX3 yX3_muchBehind (.code yX3_muchBehind cX3_muchBehind 7 (some .int) :: sw_T)) := sw_goodV (sw_T_of (i := 946) (by decide +kernel) rfl) (sw_T_of (i := 947) (by decide +kernel) rfl) (sw_T_of (i := 948) (by decide +kernel) rfl) (sw_T_of (i := 112) (by decide +kernel) rfl) cd_X3_muchBehind
theorem gs_X9_181 : GoodIn sw_T (wsV RX9 181 RX3 yX3_riseIf (.code yX3_riseIf cX3_riseIf 7 (some .int) :: sw_T)) := sw_goodV (sw_T_of (i := 959) (by decide +kernel) rfl) (sw_T_of (i := 960) (by decide +kernel) rfl) (sw_T_of (i := 961) (by decide +kernel) rfl) (sw_T_of (i := 112) (by decide +kernel) rfl) cd_X3_riseIf
theorem gs_X9_185 : GoodIn sw_T (wsV RX9 185 RX9 yX9_silentOnes (.code yX9_silentOnes cX9_silentOnes 1 (some .int) :: sw_T)) := sw_goodV (sw_T_of (i := 974) (by decide +kernel) rfl) (sw_T_of (i := 976) (by decide +kernel) rfl) (sw_T_of (i := 26) (by decide +kernel) rfl) (sw_T_of (i := 100) (by decide +kernel) rfl) cd_X9_silentOnes
theorem gs_X9_188 : GoodIn sw_T (va_wsS RX9 188 yX9_isFewer (.code yX9_isFewer cX9_isFewer 2 (some .boolean) :: sw_T)) := sw_goodS (sw_T_of (i := 978) (by decide +kernel) rfl) (sw_T_of (i := 979) (by decide +kernel) rfl) (sw_T_of (i := 100) (by decide +kernel) rfl) cd_X9_isFewer
theorem gs_X9_192 : GoodIn sw_T (va_wsS RX9 192 yX9_countOrBits (.code yX9_countOrBits cX9_countOrBits 2 (some .int) :: sw_T)) := sw_goodS (sw_T_of (i := 982) (by decide +kernel) rfl) (sw_T_of (i := 983) (by decide +kernel) rfl) (sw_T_of (i := 100) (by decide +kernel) rfl) cd_X9_countOrBits
theorem gs_X9_198 : GoodIn sw_T (wsV RX9 198 RX4 yX4_canServe (.code yX4_canServe cX4_canServe 6 (some .boolean) :: sw_T)) := sw_goodV (sw_T_of (i := 993) (by decide +kernel) rfl) (sw_T_of (i := 994) (by decide +kernel) rfl) (sw_T_of (i := 995) (by decide +kernel) rfl) (sw_T_of (i := 107) (by decide +kernel) rfl) cd_X4_canServe
theorem gs_X9_202 : GoodIn sw_T (wsV RX9 202 RX3 yX3_wouldHold (.code yX3_wouldHold cX3_wouldHold 5 (some .boolean) :: sw_T)) := sw_goodV (sw_T_of (i := 1001) (by decide +kernel) rfl) (sw_T_of (i := 1002) (by decide +kernel) rfl) (sw_T_of (i := 1003) (by decide +kernel) rfl) (sw_T_of (i := 112) (by decide +kernel) rfl) cd_X3_wouldHold
theorem gs_X9_206 : GoodIn sw_T (wsV RX9 206 RX3 yX3_boilingsTill (.code yX3_boilingsTill cX3_boilingsTill 5 (some .int) :: sw_T)) := sw_goodV (sw_T_of (i := 1010) (by decide +kernel) rfl) (sw_T_of (i := 1011) (by decide +kernel) rfl) (sw_T_of (i := 1012) (by decide +kernel) rfl) (sw_T_of (i := 112) (by decide +kernel) rfl) cd_X3_boilingsTill
theorem gs_X9_210 : GoodIn sw_T (wsV RX9 210 RX3 yX3_boilingsToRest (.code yX3_boilingsToRest cX3_boilingsToRest 4 (some .int) :: sw_T)) := sw_goodV (sw_T_of (i := 1022) (by decide +kernel) rfl) (sw_T_of (i := 1023) (by decide +kernel) rfl) (sw_T_of (i := 1024) (by decide +kernel) rfl) (sw_T_of (i := 112) (by decide +kernel) rfl) cd_X3_boilingsToRest
theorem gs_X9_214 : GoodIn sw_T (wsV RX9 214 RX3 yX3_mostByOrder (.code yX3_mostByOrder cX3_mostByOrder 8 (some .int) :: sw_T)) := sw_goodV (sw_T_of (i := 1030) (by decide +kernel) rfl) (sw_T_of (i := 1031) (by decide +kernel) rfl) (sw_T_of (i := 1032) (by decide +kernel) rfl) (sw_T_of (i := 112) (by decide +kernel) rfl) cd_X3_mostByOrder
theorem gs_X9_218 : GoodIn sw_T (wsV RX9 218 RX4 yX4_madeOf (.code yX4_madeOf cX4_madeOf 4 (some .int) :: sw_T)) := sw_goodV (sw_T_of (i := 1053) (by decide +kernel) rfl) (sw_T_of (i := 1054) (by decide +kernel) rfl) (sw_T_of (i := 1055) (by decide +kernel) rfl) (sw_T_of (i := 107) (by decide +kernel) rfl) cd_X4_madeOf
theorem gs_X9_222 : GoodIn sw_T (wsV RX9 222 RX3 yX3_duelRests (.code yX3_duelRests cX3_duelRests 10 (some .int) :: sw_T)) := sw_goodV (sw_T_of (i := 1065) (by decide +kernel) rfl) (sw_T_of (i := 1066) (by decide +kernel) rfl) (sw_T_of (i := 1067) (by decide +kernel) rfl) (sw_T_of (i := 112) (by decide +kernel) rfl) cd_X3_duelRests
theorem gs_X9_225 : GoodIn sw_T (va_wsS RX9 225 yJ6_numberOfTrailingZeros_0f7a4 (.code yJ6_numberOfTrailingZeros_0f7a4 cJ6_numberOfTrailingZeros_0f7a4 2 (some .int) :: sw_T)) := sw_goodS (sw_T_of (i := 1077) (by decide +kernel) rfl) (sw_T_of (i := 1078) (by decide +kernel) rfl) (sw_T_of (i := 119) (by decide +kernel) rfl) cd_J6_numberOfTrailingZeros_0f7a4
theorem gs_X9_230 : GoodIn sw_T (va_wsS RX9 230 yJ6_bitCount_0f7a4 (.code yJ6_bitCount_0f7a4 cJ6_bitCount_0f7a4 1 (some .int) :: sw_T)) := sw_goodS (sw_T_of (i := 981) (by decide +kernel) rfl) (sw_T_of (i := 897) (by decide +kernel) rfl) (sw_T_of (i := 119) (by decide +kernel) rfl) cd_J6_bitCount_0f7a4
theorem gs_X9_234 : GoodIn sw_T (wsV RX9 234 RX4 yX4_first (.code yX4_first cX4_first 2 (some .int) :: sw_T)) := sw_goodV (sw_T_of (i := 1098) (by decide +kernel) rfl) (sw_T_of (i := 866) (by decide +kernel) rfl) (sw_T_of (i := 867) (by decide +kernel) rfl) (sw_T_of (i := 107) (by decide +kernel) rfl) cd_X4_first
theorem gs_X9_237 : GoodIn sw_T (wsV RX9 237 RX4 yX4_second (.code yX4_second cX4_second 2 (some .int) :: sw_T)) := sw_goodV (sw_T_of (i := 1099) (by decide +kernel) rfl) (sw_T_of (i := 870) (by decide +kernel) rfl) (sw_T_of (i := 871) (by decide +kernel) rfl) (sw_T_of (i := 107) (by decide +kernel) rfl) cd_X4_second
theorem gs_X9_240 : GoodIn sw_T (wsV RX9 240 RX4 yX4_third (.code yX4_third cX4_third 2 (some .int) :: sw_T)) := sw_goodV (sw_T_of (i := 1100) (by decide +kernel) rfl) (sw_T_of (i := 874) (by decide +kernel) rfl) (sw_T_of (i := 875) (by decide +kernel) rfl) (sw_T_of (i := 107) (by decide +kernel) rfl) cd_X4_third
theorem gs_X9_243 : GoodIn sw_T (wsV RX9 243 RX4 yX4_limit (.code yX4_limit cX4_limit 2 (some .int) :: sw_T)) := sw_goodV (sw_T_of (i := 1105) (by decide +kernel) rfl) (sw_T_of (i := 854) (by decide +kernel) rfl) (sw_T_of (i := 855) (by decide +kernel) rfl) (sw_T_of (i := 107) (by decide +kernel) rfl) cd_X4_limit
theorem gs_X9_246 : GoodIn sw_T (wsV RX9 246 RX4 yX4_turning (.code yX4_turning cX4_turning 7 (some .int) :: sw_T)) := sw_goodV (sw_T_of (i := 1106) (by decide +kernel) rfl) (sw_T_of (i := 862) (by decide +kernel) rfl) (sw_T_of (i := 863) (by decide +kernel) rfl) (sw_T_of (i := 107) (by decide +kernel) rfl) cd_X4_turning
theorem gs_X9_250 : GoodIn sw_T (wsV RX9 250 RX4 yX4_burden (.code yX4_burden cX4_burden 4 (some .int) :: sw_T)) := sw_goodV (sw_T_of (i := 1123) (by decide +kernel) rfl) (sw_T_of (i := 1071) (by decide +kernel) rfl) (sw_T_of (i := 1072) (by decide +kernel) rfl) (sw_T_of (i := 107) (by decide +kernel) rfl) cd_X4_burden
theorem gs_X9_253 : GoodIn sw_T (wsV RX9 253 RX3 yX3_allUnderLaw (.code yX3_allUnderLaw cX3_allUnderLaw 5 (some .int) :: sw_T)) := sw_goodV (sw_T_of (i := 1128) (by decide +kernel) rfl) (sw_T_of (i := 1129) (by decide +kernel) rfl) (sw_T_of (i := 1130) (by decide +kernel) rfl) (sw_T_of (i := 112) (by decide +kernel) rfl) cd_X3_allUnderLaw
theorem gs_X9_259 : GoodIn sw_T (va_wsS RX9 259 yX9_commonDivisor (.code yX9_commonDivisor cX9_commonDivisor 6 (some .int) :: sw_T)) := sw_goodS (sw_T_of (i := 1141) (by decide +kernel) rfl) (sw_T_of (i := 1142) (by decide +kernel) rfl) (sw_T_of (i := 100) (by decide +kernel) rfl) cd_X9_commonDivisor
theorem gs_X9_265 : GoodIn sw_T (wsV RX9 265 RX6 yX6_add (.code yX6_add cX6_add 6 (some .int) :: sw_T)) := sw_goodV (sw_T_of (i := 1152) (by decide +kernel) rfl) (sw_T_of (i := 1153) (by decide +kernel) rfl) (sw_T_of (i := 1154) (by decide +kernel) rfl) (sw_T_of (i := 113) (by decide +kernel) rfl) cd_X6_add
theorem gs_X9_269 : GoodIn sw_T (wsV RX9 269 RX6 yX6_takeBack (.code yX6_takeBack cX6_takeBack 3 (some .boolean) :: sw_T)) := sw_goodV (sw_T_of (i := 1160) (by decide +kernel) rfl) (sw_T_of (i := 1161) (by decide +kernel) rfl) (sw_T_of (i := 1162) (by decide +kernel) rfl) (sw_T_of (i := 113) (by decide +kernel) rfl) cd_X6_takeBack
theorem gs_X9_272 : GoodIn sw_T (wsV RX9 272 RX6 yX6_fitting (.code yX6_fitting cX6_fitting 5 (some .int) :: sw_T)) := sw_goodV (sw_T_of (i := 1173) (by decide +kernel) rfl) (sw_T_of (i := 1174) (by decide +kernel) rfl) (sw_T_of (i := 1175) (by decide +kernel) rfl) (sw_T_of (i := 113) (by decide +kernel) rfl) cd_X6_fitting
theorem gs_X9_276 : GoodIn sw_T (va_wsS RX9 276 yJ6_numberOfLeadingZeros_0f7a4 (.code yJ6_numberOfLeadingZeros_0f7a4 cJ6_numberOfLeadingZeros_0f7a4 2 (some .int) :: sw_T)) := sw_goodS (sw_T_of (i := 1205) (by decide +kernel) rfl) (sw_T_of (i := 1206) (by decide +kernel) rfl) (sw_T_of (i := 119) (by decide +kernel) rfl) cd_J6_numberOfLeadingZeros_0f7a4
theorem gs_X9_279 : GoodIn sw_T (wsV RX9 279 RX6 yX6_leftAtMost (.code yX6_leftAtMost cX6_leftAtMost 6 (some .int) :: sw_T)) := sw_goodV (sw_T_of (i := 1212) (by decide +kernel) rfl) (sw_T_of (i := 1213) (by decide +kernel) rfl) (sw_T_of (i := 1214) (by decide +kernel) rfl) (sw_T_of (i := 113) (by decide +kernel) rfl) cd_X6_leftAtMost
theorem gs_X9_283 : GoodIn sw_T (wsV RX9 283 RX1 yX1_isBox (.code yX1_isBox cX1_isBox 2 (some .boolean) :: sw_T)) := sw_goodV (sw_T_of (i := 1225) (by decide +kernel) rfl) (sw_T_of (i := 1226) (by decide +kernel) rfl) (sw_T_of (i := 1227) (by decide +kernel) rfl) (sw_T_of (i := 111) (by decide +kernel) rfl) cd_X1_isBox
theorem gs_X9_286 : GoodIn sw_T (wsV RX9 286 RX1 yX1_put (.code yX1_put cX1_put 3 none :: sw_T)) := sw_goodV (sw_T_of (i := 1229) (by decide +kernel) rfl) (sw_T_of (i := 1230) (by decide +kernel) rfl) (sw_T_of (i := 1231) (by decide +kernel) rfl) (sw_T_of (i := 111) (by decide +kernel) rfl) cd_X1_put
theorem gs_X9_294 : GoodIn sw_T (wsV RX9 294 RX1 yX1_take (.code yX1_take cX1_take 3 none :: sw_T)) := sw_goodV (sw_T_of (i := 1238) (by decide +kernel) rfl) (sw_T_of (i := 1239) (by decide +kernel) rfl) (sw_T_of (i := 1240) (by decide +kernel) rfl) (sw_T_of (i := 111) (by decide +kernel) rfl) cd_X1_take
theorem gs_X9_306 : GoodIn sw_T (wsV RX9 306 RX0 yX0_undoable (.code yX0_undoable cX0_undoable 1 (some .int) :: sw_T)) := sw_goodV (sw_T_of (i := 1247) (by decide +kernel) rfl) (sw_T_of (i := 1248) (by decide +kernel) rfl) (sw_T_of (i := 1249) (by decide +kernel) rfl) (sw_T_of (i := 110) (by decide +kernel) rfl) cd_X0_undoable
theorem gs_X9_309 : GoodIn sw_T (wsV RX9 309 RX0 yX0_redoable (.code yX0_redoable cX0_redoable 1 (some .int) :: sw_T)) := sw_goodV (sw_T_of (i := 1251) (by decide +kernel) rfl) (sw_T_of (i := 1252) (by decide +kernel) rfl) (sw_T_of (i := 1253) (by decide +kernel) rfl) (sw_T_of (i := 110) (by decide +kernel) rfl) cd_X0_redoable
theorem gs_X0_28 : GoodIn sw_T (wsV RX0 28 RX8 yX8_save (.code yX8_save cX8_save 4 none :: sw_T)) := sw_goodV (sw_T_of (i := 822) (by decide +kernel) rfl) (sw_T_of (i := 823) (by decide +kernel) rfl) (sw_T_of (i := 824) (by decide +kernel) rfl) (sw_T_of (i := 109) (by decide +kernel) rfl) cd_X8_save
theorem gs_X0_32 : GoodIn sw_T (wsV RX0 32 RX8 yX8_load (.code yX8_load cX8_load 4 none :: sw_T)) := sw_goodV (sw_T_of (i := 930) (by decide +kernel) rfl) (sw_T_of (i := 931) (by decide +kernel) rfl) (sw_T_of (i := 932) (by decide +kernel) rfl) (sw_T_of (i := 109) (by decide +kernel) rfl) cd_X8_load
theorem gs_X1_19 : GoodIn sw_T (wsV RX1 19 RX8 yX8_save (.code yX8_save cX8_save 4 none :: sw_T)) := sw_goodV (sw_T_of (i := 1233) (by decide +kernel) rfl) (sw_T_of (i := 823) (by decide +kernel) rfl) (sw_T_of (i := 824) (by decide +kernel) rfl) (sw_T_of (i := 109) (by decide +kernel) rfl) cd_X8_save
theorem gs_X1_23 : GoodIn sw_T (wsV RX1 23 RX8 yX8_load (.code yX8_load cX8_load 4 none :: sw_T)) := sw_goodV (sw_T_of (i := 1242) (by decide +kernel) rfl) (sw_T_of (i := 931) (by decide +kernel) rfl) (sw_T_of (i := 932) (by decide +kernel) rfl) (sw_T_of (i := 109) (by decide +kernel) rfl) cd_X8_load
theorem gs_X2_32 : GoodIn sw_T (wsV RX2 32 RX2 yX2_measure (.code yX2_measure cX2_measure 9 none :: sw_T)) := sw_goodV (sw_T_of (i := 890) (by decide +kernel) rfl) (sw_T_of (i := 892) (by decide +kernel) rfl) (sw_T_of (i := 24) (by decide +kernel) rfl) (sw_T_of (i := 108) (by decide +kernel) rfl) cd_X2_measure
theorem gs_X2_36 : GoodIn sw_T (va_wsS RX2 36 yX2_joined (.code yX2_joined cX2_joined 3 (some .int) :: sw_T)) := sw_goodS (sw_T_of (i := 902) (by decide +kernel) rfl) (sw_T_of (i := 903) (by decide +kernel) rfl) (sw_T_of (i := 108) (by decide +kernel) rfl) cd_X2_joined
theorem gs_X2_45 : GoodIn sw_T (va_wsS RX2 45 yJ9_max_7cf53 (.code yJ9_max_7cf53 cJ9_max_7cf53 2 (some .int) :: sw_T)) := sw_goodS (sw_T_of (i := 894) (by decide +kernel) rfl) (sw_T_of (i := 609) (by decide +kernel) rfl) (sw_T_of (i := 116) (by decide +kernel) rfl) cd_J9_max_7cf53
theorem gs_X2_51 : GoodIn sw_T (va_wsS RX2 51 yJ9_min_7cf53 (.code yJ9_min_7cf53 cJ9_min_7cf53 2 (some .int) :: sw_T)) := sw_goodS (sw_T_of (i := 895) (by decide +kernel) rfl) (sw_T_of (i := 612) (by decide +kernel) rfl) (sw_T_of (i := 116) (by decide +kernel) rfl) cd_J9_min_7cf53
theorem gs_X2_57 : GoodIn sw_T (va_wsS RX2 57 yJ6_bitCount_0f7a4 (.code yJ6_bitCount_0f7a4 cJ6_bitCount_0f7a4 1 (some .int) :: sw_T)) := sw_goodS (sw_T_of (i := 896) (by decide +kernel) rfl) (sw_T_of (i := 897) (by decide +kernel) rfl) (sw_T_of (i := 119) (by decide +kernel) rfl) cd_J6_bitCount_0f7a4
theorem gs_X3_25 : GoodIn sw_T (wsV RX3 25 RX8 yX8_copy (.code yX8_copy cX8_copy 2 none :: sw_T)) := sw_goodV (sw_T_of (i := 950) (by decide +kernel) rfl) (sw_T_of (i := 951) (by decide +kernel) rfl) (sw_T_of (i := 952) (by decide +kernel) rfl) (sw_T_of (i := 109) (by decide +kernel) rfl) cd_X8_copy
theorem gs_X3_29 : GoodIn sw_T (wsV RX3 29 RX4 yX4_tell (.code yX4_tell cX4_tell 4 none :: sw_T)) := sw_goodV (sw_T_of (i := 963) (by decide +kernel) rfl) (sw_T_of (i := 828) (by decide +kernel) rfl) (sw_T_of (i := 829) (by decide +kernel) rfl) (sw_T_of (i := 107) (by decide +kernel) rfl) cd_X4_tell
theorem gs_X3_38 : GoodIn sw_T (wsV RX3 38 RX4 yX4_boilRules (.code yX4_boilRules cX4_boilRules 4 (some .boolean) :: sw_T)) := sw_goodV (sw_T_of (i := 964) (by decide +kernel) rfl) (sw_T_of (i := 850) (by decide +kernel) rfl) (sw_T_of (i := 851) (by decide +kernel) rfl) (sw_T_of (i := 107) (by decide +kernel) rfl) cd_X4_boilRules
theorem gs_X3_46 : GoodIn sw_T (wsV RX3 46 RX4 yX4_isRisen (.code yX4_isRisen cX4_isRisen 2 (some .boolean) :: sw_T)) := sw_goodV (sw_T_of (i := 965) (by decide +kernel) rfl) (sw_T_of (i := 883) (by decide +kernel) rfl) (sw_T_of (i := 884) (by decide +kernel) rfl) (sw_T_of (i := 107) (by decide +kernel) rfl) cd_X4_isRisen
theorem gs_X3_60 : GoodIn sw_T (wsV RX3 60 RX4 yX4_boilInEarnest (.code yX4_boilInEarnest cX4_boilInEarnest 3 (some .boolean) :: sw_T)) := sw_goodV (sw_T_of (i := 954) (by decide +kernel) rfl) (sw_T_of (i := 846) (by decide +kernel) rfl) (sw_T_of (i := 847) (by decide +kernel) rfl) (sw_T_of (i := 107) (by decide +kernel) rfl) cd_X4_boilInEarnest
theorem gs_X3_64 : GoodIn sw_T (wsV RX3 64 RX4 yX4_lacking (.code yX4_lacking cX4_lacking 5 (some .int) :: sw_T)) := sw_goodV (sw_T_of (i := 1005) (by decide +kernel) rfl) (sw_T_of (i := 914) (by decide +kernel) rfl) (sw_T_of (i := 915) (by decide +kernel) rfl) (sw_T_of (i := 107) (by decide +kernel) rfl) cd_X4_lacking
theorem gs_X3_71 : GoodIn sw_T (wsV RX3 71 RX4 yX4_turn (.code yX4_turn cX4_turn 6 (some .int) :: sw_T)) := sw_goodV (sw_T_of (i := 1040) (by decide +kernel) rfl) (sw_T_of (i := 858) (by decide +kernel) rfl) (sw_T_of (i := 859) (by decide +kernel) rfl) (sw_T_of (i := 107) (by decide +kernel) rfl) cd_X4_turn
theorem gs_X3_75 : GoodIn sw_T (wsV RX3 75 RX8 yX8_all (.code yX8_all cX8_all 3 (some .int) :: sw_T)) := sw_goodV (sw_T_of (i := 1132) (by decide +kernel) rfl) (sw_T_of (i := 838) (by decide +kernel) rfl) (sw_T_of (i := 839) (by decide +kernel) rfl) (sw_T_of (i := 109) (by decide +kernel) rfl) cd_X8_all
theorem gs_X3_79 : GoodIn sw_T (wsV RX3 79 RX3 yX3_muchByOrder (.code yX3_muchByOrder cX3_muchByOrder 5 (some .int) :: sw_T)) := sw_goodV (sw_T_of (i := 1034) (by decide +kernel) rfl) (sw_T_of (i := 1036) (by decide +kernel) rfl) (sw_T_of (i := 27) (by decide +kernel) rfl) (sw_T_of (i := 112) (by decide +kernel) rfl) cd_X3_muchByOrder
theorem gs_X3_89 : GoodIn sw_T (wsV RX3 89 RX3 yX3_toNextOrder (.code yX3_toNextOrder cX3_toNextOrder 6 (some .boolean) :: sw_T)) := sw_goodV (sw_T_of (i := 1041) (by decide +kernel) rfl) (sw_T_of (i := 1043) (by decide +kernel) rfl) (sw_T_of (i := 28) (by decide +kernel) rfl) (sw_T_of (i := 112) (by decide +kernel) rfl) cd_X3_toNextOrder
theorem gs_X3_93 : GoodIn sw_T (wsV RX3 93 RX4 yX4_limit (.code yX4_limit cX4_limit 2 (some .int) :: sw_T)) := sw_goodV (sw_T_of (i := 1039) (by decide +kernel) rfl) (sw_T_of (i := 854) (by decide +kernel) rfl) (sw_T_of (i := 855) (by decide +kernel) rfl) (sw_T_of (i := 107) (by decide +kernel) rfl) cd_X4_limit
theorem gs_X3_97 : GoodIn sw_T (wsV RX3 97 RX3 yX3_exchange (.code yX3_exchange cX3_exchange 4 none :: sw_T)) := sw_goodV (sw_T_of (i := 1045) (by decide +kernel) rfl) (sw_T_of (i := 1047) (by decide +kernel) rfl) (sw_T_of (i := 29) (by decide +kernel) rfl) (sw_T_of (i := 112) (by decide +kernel) rfl) cd_X3_exchange
theorem gs_X3_101 : GoodIn sw_T (wsV RX3 101 RX3 yX3_riseIf (.code yX3_riseIf cX3_riseIf 7 (some .int) :: sw_T)) := sw_goodV (sw_T_of (i := 1069) (by decide +kernel) rfl) (sw_T_of (i := 960) (by decide +kernel) rfl) (sw_T_of (i := 961) (by decide +kernel) rfl) (sw_T_of (i := 112) (by decide +kernel) rfl) cd_X3_riseIf
theorem gs_X3_105 : GoodIn sw_T (wsV RX3 105 RX4 yX4_burden (.code yX4_burden cX4_burden 4 (some .int) :: sw_T)) := sw_goodV (sw_T_of (i := 1070) (by decide +kernel) rfl) (sw_T_of (i := 1071) (by decide +kernel) rfl) (sw_T_of (i := 1072) (by decide +kernel) rfl) (sw_T_of (i := 107) (by decide +kernel) rfl) cd_X4_burden
theorem gs_X3_108 : GoodIn sw_T (va_wsS RX3 108 yX3_gain (.code yX3_gain cX3_gain 4 (some .int) :: sw_T)) := sw_goodS (sw_T_of (i := 1074) (by decide +kernel) rfl) (sw_T_of (i := 1075) (by decide +kernel) rfl) (sw_T_of (i := 112) (by decide +kernel) rfl) cd_X3_gain
theorem gs_X4_67 : GoodIn sw_T (va_wsS RX4 67 yJ7_fill_53178 (.code yJ7_fill_53178 cJ7_fill_53178 4 none :: sw_T)) := sw_goodS (sw_T_of (i := 553) (by decide +kernel) rfl) (sw_T_of (i := 554) (by decide +kernel) rfl) (sw_T_of (i := 115) (by decide +kernel) rfl) cd_J7_fill_53178
theorem gs_X4_73 : GoodIn sw_T (wsV RX4 73 RX2 yX2_clear (.code yX2_clear cX2_clear 1 none :: sw_T)) := sw_goodV (sw_T_of (i := 556) (by decide +kernel) rfl) (sw_T_of (i := 557) (by decide +kernel) rfl) (sw_T_of (i := 558) (by decide +kernel) rfl) (sw_T_of (i := 108) (by decide +kernel) rfl) cd_X2_clear
theorem gs_X4_76 : GoodIn sw_T (wsV RX4 76 RX4 yX4_has (.code yX4_has cX4_has 3 (some .int) :: sw_T)) := sw_goodV (sw_T_of (i := 835) (by decide +kernel) rfl) (sw_T_of (i := 788) (by decide +kernel) rfl) (sw_T_of (i := 789) (by decide +kernel) rfl) (sw_T_of (i := 107) (by decide +kernel) rfl) cd_X4_has
theorem gs_X4_85 : GoodIn sw_T (wsV RX4 85 RX4 yX4_pour (.code yX4_pour cX4_pour 4 none :: sw_T)) := sw_goodV (sw_T_of (i := 831) (by decide +kernel) rfl) (sw_T_of (i := 832) (by decide +kernel) rfl) (sw_T_of (i := 833) (by decide +kernel) rfl) (sw_T_of (i := 107) (by decide +kernel) rfl) cd_X4_pour
theorem gs_X4_91 : GoodIn sw_T (va_wsS RX4 91 yJ9_min_7cf53 (.code yJ9_min_7cf53 cJ9_min_7cf53 2 (some .int) :: sw_T)) := sw_goodS (sw_T_of (i := 836) (by decide +kernel) rfl) (sw_T_of (i := 612) (by decide +kernel) rfl) (sw_T_of (i := 116) (by decide +kernel) rfl) cd_J9_min_7cf53
theorem gs_X4_96 : GoodIn sw_T (wsV RX4 96 RX4 yX4_needs (.code yX4_needs cX4_needs 3 (some .int) :: sw_T)) := sw_goodV (sw_T_of (i := 917) (by decide +kernel) rfl) (sw_T_of (i := 800) (by decide +kernel) rfl) (sw_T_of (i := 801) (by decide +kernel) rfl) (sw_T_of (i := 107) (by decide +kernel) rfl) cd_X4_needs
theorem gs_X4_99 : GoodIn sw_T (va_wsS RX4 99 yJ9_max_7cf53 (.code yJ9_max_7cf53 cJ9_max_7cf53 2 (some .int) :: sw_T)) := sw_goodS (sw_T_of (i := 881) (by decide +kernel) rfl) (sw_T_of (i := 609) (by decide +kernel) rfl) (sw_T_of (i := 116) (by decide +kernel) rfl) cd_J9_max_7cf53
theorem gs_X4_102 : GoodIn sw_T (wsV RX4 102 RX4 yX4_first (.code yX4_first cX4_first 2 (some .int) :: sw_T)) := sw_goodV (sw_T_of (i := 865) (by decide +kernel) rfl) (sw_T_of (i := 866) (by decide +kernel) rfl) (sw_T_of (i := 867) (by decide +kernel) rfl) (sw_T_of (i := 107) (by decide +kernel) rfl) cd_X4_first
theorem gs_X4_106 : GoodIn sw_T (wsV RX4 106 RX4 yX4_second (.code yX4_second cX4_second 2 (some .int) :: sw_T)) := sw_goodV (sw_T_of (i := 869) (by decide +kernel) rfl) (sw_T_of (i := 870) (by decide +kernel) rfl) (sw_T_of (i := 871) (by decide +kernel) rfl) (sw_T_of (i := 107) (by decide +kernel) rfl) cd_X4_second
theorem gs_X4_109 : GoodIn sw_T (wsV RX4 109 RX4 yX4_third (.code yX4_third cX4_third 2 (some .int) :: sw_T)) := sw_goodV (sw_T_of (i := 873) (by decide +kernel) rfl) (sw_T_of (i := 874) (by decide +kernel) rfl) (sw_T_of (i := 875) (by decide +kernel) rfl) (sw_T_of (i := 107) (by decide +kernel) rfl) cd_X4_third
theorem gs_X4_112 : GoodIn sw_T (wsV RX4 112 RX4 yX4_turning (.code yX4_turning cX4_turning 7 (some .int) :: sw_T)) := sw_goodV (sw_T_of (i := 861) (by decide +kernel) rfl) (sw_T_of (i := 862) (by decide +kernel) rfl) (sw_T_of (i := 863) (by decide +kernel) rfl) (sw_T_of (i := 107) (by decide +kernel) rfl) cd_X4_turning
theorem gs_X4_116 : GoodIn sw_T (wsV RX4 116 RX4 yX4_limit (.code yX4_limit cX4_limit 2 (some .int) :: sw_T)) := sw_goodV (sw_T_of (i := 853) (by decide +kernel) rfl) (sw_T_of (i := 854) (by decide +kernel) rfl) (sw_T_of (i := 855) (by decide +kernel) rfl) (sw_T_of (i := 107) (by decide +kernel) rfl) cd_X4_limit
theorem gs_X4_119 : GoodIn sw_T (wsV RX4 119 RX4 yX4_turn (.code yX4_turn cX4_turn 6 (some .int) :: sw_T)) := sw_goodV (sw_T_of (i := 857) (by decide +kernel) rfl) (sw_T_of (i := 858) (by decide +kernel) rfl) (sw_T_of (i := 859) (by decide +kernel) rfl) (sw_T_of (i := 107) (by decide +kernel) rfl) cd_X4_turn
theorem gs_X4_122 : GoodIn sw_T (wsV RX4 122 RX2 yX2_worth (.code yX2_worth cX2_worth 6 (some .int) :: sw_T)) := sw_goodV (sw_T_of (i := 886) (by decide +kernel) rfl) (sw_T_of (i := 887) (by decide +kernel) rfl) (sw_T_of (i := 888) (by decide +kernel) rfl) (sw_T_of (i := 108) (by decide +kernel) rfl) cd_X2_worth
theorem gs_X4_126 : GoodIn sw_T (wsV RX4 126 RX4 yX4_boilRules (.code yX4_boilRules cX4_boilRules 4 (some .boolean) :: sw_T)) := sw_goodV (sw_T_of (i := 849) (by decide +kernel) rfl) (sw_T_of (i := 850) (by decide +kernel) rfl) (sw_T_of (i := 851) (by decide +kernel) rfl) (sw_T_of (i := 107) (by decide +kernel) rfl) cd_X4_boilRules
theorem gs_X4_130 : GoodIn sw_T (wsV RX4 130 RX4 yX4_drawScum (.code yX4_drawScum cX4_drawScum 3 none :: sw_T)) := sw_goodV (sw_T_of (i := 877) (by decide +kernel) rfl) (sw_T_of (i := 879) (by decide +kernel) rfl) (sw_T_of (i := 23) (by decide +kernel) rfl) (sw_T_of (i := 107) (by decide +kernel) rfl) cd_X4_drawScum
theorem gs_X4_137 : GoodIn sw_T (wsV RX4 137 RX4 yX4_isRisen (.code yX4_isRisen cX4_isRisen 2 (some .boolean) :: sw_T)) := sw_goodV (sw_T_of (i := 882) (by decide +kernel) rfl) (sw_T_of (i := 883) (by decide +kernel) rfl) (sw_T_of (i := 884) (by decide +kernel) rfl) (sw_T_of (i := 107) (by decide +kernel) rfl) cd_X4_isRisen
theorem gs_X5_32 : GoodIn sw_T (wsV RX5 32 RX4 yX4_clear (.code yX4_clear cX4_clear 1 none :: sw_T)) := sw_goodV (sw_T_of (i := 549) (by decide +kernel) rfl) (sw_T_of (i := 550) (by decide +kernel) rfl) (sw_T_of (i := 551) (by decide +kernel) rfl) (sw_T_of (i := 107) (by decide +kernel) rfl) cd_X4_clear
theorem gs_X5_35 : GoodIn sw_T (wsV RX5 35 RX7 yX7_readFirst (.code yX7_readFirst cX7_readFirst 1 none :: sw_T)) := sw_goodV (sw_T_of (i := 560) (by decide +kernel) rfl) (sw_T_of (i := 561) (by decide +kernel) rfl) (sw_T_of (i := 562) (by decide +kernel) rfl) (sw_T_of (i := 102) (by decide +kernel) rfl) cd_X7_readFirst
theorem gs_X5_44 : GoodIn sw_T (wsV RX5 44 RX5 yX5_readKind (.code yX5_readKind cX5_readKind 1 (some .boolean) :: sw_T)) := sw_goodV (sw_T_of (i := 660) (by decide +kernel) rfl) (sw_T_of (i := 662) (by decide +kernel) rfl) (sw_T_of (i := 3) (by decide +kernel) rfl) (sw_T_of (i := 101) (by decide +kernel) rfl) cd_X5_readKind
theorem gs_X5_48 : GoodIn sw_T (wsV RX5 48 RX5 yX5_readPerson (.code yX5_readPerson cX5_readPerson 1 (some .boolean) :: sw_T)) := sw_goodV (sw_T_of (i := 682) (by decide +kernel) rfl) (sw_T_of (i := 684) (by decide +kernel) rfl) (sw_T_of (i := 7) (by decide +kernel) rfl) (sw_T_of (i := 101) (by decide +kernel) rfl) cd_X5_readPerson
theorem gs_X5_51 : GoodIn sw_T (wsV RX5 51 RX5 yX5_readRule (.code yX5_readRule cX5_readRule 5 (some .boolean) :: sw_T)) := sw_goodV (sw_T_of (i := 702) (by decide +kernel) rfl) (sw_T_of (i := 704) (by decide +kernel) rfl) (sw_T_of (i := 12) (by decide +kernel) rfl) (sw_T_of (i := 101) (by decide +kernel) rfl) cd_X5_readRule
theorem gs_X5_54 : GoodIn sw_T (wsV RX5 54 RX5 yX5_readBasin (.code yX5_readBasin cX5_readBasin 1 (some .boolean) :: sw_T)) := sw_goodV (sw_T_of (i := 714) (by decide +kernel) rfl) (sw_T_of (i := 716) (by decide +kernel) rfl) (sw_T_of (i := 14) (by decide +kernel) rfl) (sw_T_of (i := 101) (by decide +kernel) rfl) cd_X5_readBasin
theorem gs_X5_57 : GoodIn sw_T (wsV RX5 57 RX5 yX5_readRises (.code yX5_readRises cX5_readRises 1 (some .boolean) :: sw_T)) := sw_goodV (sw_T_of (i := 718) (by decide +kernel) rfl) (sw_T_of (i := 720) (by decide +kernel) rfl) (sw_T_of (i := 15) (by decide +kernel) rfl) (sw_T_of (i := 101) (by decide +kernel) rfl) cd_X5_readRises
theorem gs_X5_60 : GoodIn sw_T (wsV RX5 60 RX5 yX5_readScum (.code yX5_readScum cX5_readScum 2 (some .boolean) :: sw_T)) := sw_goodV (sw_T_of (i := 742) (by decide +kernel) rfl) (sw_T_of (i := 744) (by decide +kernel) rfl) (sw_T_of (i := 20) (by decide +kernel) rfl) (sw_T_of (i := 101) (by decide +kernel) rfl) cd_X5_readScum
theorem gs_X5_63 : GoodIn sw_T (wsV RX5 63 RX5 yX5_readDraw (.code yX5_readDraw cX5_readDraw 2 (some .boolean) :: sw_T)) := sw_goodV (sw_T_of (i := 746) (by decide +kernel) rfl) (sw_T_of (i := 748) (by decide +kernel) rfl) (sw_T_of (i := 21) (by decide +kernel) rfl) (sw_T_of (i := 101) (by decide +kernel) rfl) cd_X5_readDraw
theorem gs_X5_66 : GoodIn sw_T (wsV RX5 66 RX5 yX5_refuse (.code yX5_refuse cX5_refuse 2 (some .boolean) :: sw_T)) := sw_goodV (sw_T_of (i := 664) (by decide +kernel) rfl) (sw_T_of (i := 666) (by decide +kernel) rfl) (sw_T_of (i := 4) (by decide +kernel) rfl) (sw_T_of (i := 101) (by decide +kernel) rfl) cd_X5_refuse
theorem gs_X5_76 : GoodIn sw_T (wsV RX5 76 RX7 yX7_readNext (.code yX7_readNext cX7_readNext 1 none :: sw_T)) := sw_goodV (sw_T_of (i := 668) (by decide +kernel) rfl) (sw_T_of (i := 565) (by decide +kernel) rfl) (sw_T_of (i := 566) (by decide +kernel) rfl) (sw_T_of (i := 102) (by decide +kernel) rfl) cd_X7_readNext
theorem gs_X5_83 : GoodIn sw_T (wsV RX5 83 RX5 yX5_readNewName (.code yX5_readNewName cX5_readNewName 3 (some .boolean) :: sw_T)) := sw_goodV (sw_T_of (i := 669) (by decide +kernel) rfl) (sw_T_of (i := 671) (by decide +kernel) rfl) (sw_T_of (i := 5) (by decide +kernel) rfl) (sw_T_of (i := 101) (by decide +kernel) rfl) cd_X5_readNewName
theorem gs_X5_87 : GoodIn sw_T (wsV RX5 87 RX5 yX5_readSign (.code yX5_readSign cX5_readSign 2 (some .boolean) :: sw_T)) := sw_goodV (sw_T_of (i := 678) (by decide +kernel) rfl) (sw_T_of (i := 680) (by decide +kernel) rfl) (sw_T_of (i := 6) (by decide +kernel) rfl) (sw_T_of (i := 101) (by decide +kernel) rfl) cd_X5_readSign
theorem gs_X5_96 : GoodIn sw_T (wsV RX5 96 RX5 yX5_readKey (.code yX5_readKey cX5_readKey 2 (some .boolean) :: sw_T)) := sw_goodV (sw_T_of (i := 686) (by decide +kernel) rfl) (sw_T_of (i := 688) (by decide +kernel) rfl) (sw_T_of (i := 8) (by decide +kernel) rfl) (sw_T_of (i := 101) (by decide +kernel) rfl) cd_X5_readKey
theorem gs_X5_103 : GoodIn sw_T (wsV RX5 103 RX5 yX5_readPortions (.code yX5_readPortions cX5_readPortions 7 (some .boolean) :: sw_T)) := sw_goodV (sw_T_of (i := 690) (by decide +kernel) rfl) (sw_T_of (i := 692) (by decide +kernel) rfl) (sw_T_of (i := 9) (by decide +kernel) rfl) (sw_T_of (i := 101) (by decide +kernel) rfl) cd_X5_readPortions
theorem gs_X5_125 : GoodIn sw_T (wsV RX5 125 RX5 yX5_readKnownKind (.code yX5_readKnownKind cX5_readKnownKind 2 (some .int) :: sw_T)) := sw_goodV (sw_T_of (i := 706) (by decide +kernel) rfl) (sw_T_of (i := 708) (by decide +kernel) rfl) (sw_T_of (i := 13) (by decide +kernel) rfl) (sw_T_of (i := 101) (by decide +kernel) rfl) cd_X5_readKnownKind
theorem gs_X5_129 : GoodIn sw_T (wsV RX5 129 RX5 yX5_readNumber (.code yX5_readNumber cX5_readNumber 4 (some .int) :: sw_T)) := sw_goodV (sw_T_of (i := 698) (by decide +kernel) rfl) (sw_T_of (i := 700) (by decide +kernel) rfl) (sw_T_of (i := 11) (by decide +kernel) rfl) (sw_T_of (i := 101) (by decide +kernel) rfl) cd_X5_readNumber
theorem gs_X5_133 : GoodIn sw_T (wsV RX5 133 RX4 yX4_addRule (.code yX4_addRule cX4_addRule 6 none :: sw_T)) := sw_goodV (sw_T_of (i := 710) (by decide +kernel) rfl) (sw_T_of (i := 711) (by decide +kernel) rfl) (sw_T_of (i := 712) (by decide +kernel) rfl) (sw_T_of (i := 107) (by decide +kernel) rfl) cd_X4_addRule
theorem gs_X5_146 : GoodIn sw_T (wsV RX5 146 RX5 yX5_readFormula (.code yX5_readFormula cX5_readFormula 5 (some .boolean) :: sw_T)) := sw_goodV (sw_T_of (i := 722) (by decide +kernel) rfl) (sw_T_of (i := 724) (by decide +kernel) rfl) (sw_T_of (i := 16) (by decide +kernel) rfl) (sw_T_of (i := 101) (by decide +kernel) rfl) cd_X5_readFormula
theorem gs_X5_166 : GoodIn sw_T (wsV RX5 166 RX5 yX5_knownKind (.code yX5_knownKind cX5_knownKind 2 (some .int) :: sw_T)) := sw_goodV (sw_T_of (i := 694) (by decide +kernel) rfl) (sw_T_of (i := 696) (by decide +kernel) rfl) (sw_T_of (i := 10) (by decide +kernel) rfl) (sw_T_of (i := 101) (by decide +kernel) rfl) cd_X5_knownKind
theorem gs_X5_169 : GoodIn sw_T (wsV RX5 169 RX7 yX7_isName (.code yX7_isName cX7_isName 1 (some .boolean) :: sw_T)) := sw_goodV (sw_T_of (i := 673) (by decide +kernel) rfl) (sw_T_of (i := 674) (by decide +kernel) rfl) (sw_T_of (i := 675) (by decide +kernel) rfl) (sw_T_of (i := 102) (by decide +kernel) rfl) cd_X7_isName
theorem gs_X5_176 : GoodIn sw_T (va_wsS RX5 176 yX7_find (.code yX7_find cX7_find 5 (some .int) :: sw_T)) := sw_goodS (sw_T_of (i := 677) (by decide +kernel) rfl) (sw_T_of (i := 579) (by decide +kernel) rfl) (sw_T_of (i := 102) (by decide +kernel) rfl) cd_X7_find
theorem gs_X5_183 : GoodIn sw_T (wsV RX5 183 RX5 yX5_readUnit (.code yX5_readUnit cX5_readUnit 3 (some .boolean) :: sw_T)) := sw_goodV (sw_T_of (i := 726) (by decide +kernel) rfl) (sw_T_of (i := 728) (by decide +kernel) rfl) (sw_T_of (i := 17) (by decide +kernel) rfl) (sw_T_of (i := 101) (by decide +kernel) rfl) cd_X5_readUnit
theorem gs_X5_186 : GoodIn sw_T (wsV RX5 186 RX5 yX5_readNot (.code yX5_readNot cX5_readNot 2 (some .boolean) :: sw_T)) := sw_goodV (sw_T_of (i := 734) (by decide +kernel) rfl) (sw_T_of (i := 736) (by decide +kernel) rfl) (sw_T_of (i := 18) (by decide +kernel) rfl) (sw_T_of (i := 101) (by decide +kernel) rfl) cd_X5_readNot
theorem gs_X5_189 : GoodIn sw_T (wsV RX5 189 RX5 yX5_signOfLevel (.code yX5_signOfLevel cX5_signOfLevel 3 (some .int) :: sw_T)) := sw_goodV (sw_T_of (i := 738) (by decide +kernel) rfl) (sw_T_of (i := 740) (by decide +kernel) rfl) (sw_T_of (i := 19) (by decide +kernel) rfl) (sw_T_of (i := 101) (by decide +kernel) rfl) cd_X5_signOfLevel
theorem gs_X5_193 : GoodIn sw_T (wsV RX5 193 RX2 yX2_add (.code yX2_add cX2_add 2 none :: sw_T)) := sw_goodV (sw_T_of (i := 730) (by decide +kernel) rfl) (sw_T_of (i := 731) (by decide +kernel) rfl) (sw_T_of (i := 732) (by decide +kernel) rfl) (sw_T_of (i := 108) (by decide +kernel) rfl) cd_X2_add
theorem gs_X6_50 : GoodIn sw_T (wsV RX6 50 RX6 yX6_followCourses (.code yX6_followCourses cX6_followCourses 4 none :: sw_T)) := sw_goodV (sw_T_of (i := 1177) (by decide +kernel) rfl) (sw_T_of (i := 1179) (by decide +kernel) rfl) (sw_T_of (i := 30) (by decide +kernel) rfl) (sw_T_of (i := 113) (by decide +kernel) rfl) cd_X6_followCourses
theorem gs_X6_54 : GoodIn sw_T (wsV RX6 54 RX6 yX6_isBorneOut (.code yX6_isBorneOut cX6_isBorneOut 5 (some .boolean) :: sw_T)) := sw_goodV (sw_T_of (i := 1193) (by decide +kernel) rfl) (sw_T_of (i := 1195) (by decide +kernel) rfl) (sw_T_of (i := 32) (by decide +kernel) rfl) (sw_T_of (i := 113) (by decide +kernel) rfl) cd_X6_isBorneOut
theorem gs_X6_58 : GoodIn sw_T (wsV RX6 58 RX6 yX6_alike (.code yX6_alike cX6_alike 8 (some .int) :: sw_T)) := sw_goodV (sw_T_of (i := 1216) (by decide +kernel) rfl) (sw_T_of (i := 1218) (by decide +kernel) rfl) (sw_T_of (i := 34) (by decide +kernel) rfl) (sw_T_of (i := 113) (by decide +kernel) rfl) cd_X6_alike
theorem gs_X6_62 : GoodIn sw_T (va_wsS RX6 62 yJ9_max_7cf53 (.code yJ9_max_7cf53 cJ9_max_7cf53 2 (some .int) :: sw_T)) := sw_goodS (sw_T_of (i := 1220) (by decide +kernel) rfl) (sw_T_of (i := 609) (by decide +kernel) rfl) (sw_T_of (i := 116) (by decide +kernel) rfl) cd_J9_max_7cf53
theorem gs_X6_68 : GoodIn sw_T (va_wsS RX6 68 yX6_cell (.code yX6_cell cX6_cell 2 (some .int) :: sw_T)) := sw_goodS (sw_T_of (i := 1188) (by decide +kernel) rfl) (sw_T_of (i := 1189) (by decide +kernel) rfl) (sw_T_of (i := 113) (by decide +kernel) rfl) cd_X6_cell
theorem gs_X6_71 : GoodIn sw_T (wsV RX6 71 RX6 yX6_counts (.code yX6_counts cX6_counts 3 (some .boolean) :: sw_T)) := sw_goodV (sw_T_of (i := 1197) (by decide +kernel) rfl) (sw_T_of (i := 1199) (by decide +kernel) rfl) (sw_T_of (i := 33) (by decide +kernel) rfl) (sw_T_of (i := 113) (by decide +kernel) rfl) cd_X6_counts
theorem gs_X6_74 : GoodIn sw_T (wsV RX6 74 RX6 yX6_tellAll (.code yX6_tellAll cX6_tellAll 4 none :: sw_T)) := sw_goodV (sw_T_of (i := 1181) (by decide +kernel) rfl) (sw_T_of (i := 1183) (by decide +kernel) rfl) (sw_T_of (i := 31) (by decide +kernel) rfl) (sw_T_of (i := 113) (by decide +kernel) rfl) cd_X6_tellAll
theorem gs_X6_84 : GoodIn sw_T (wsV RX6 84 RX4 yX4_boilRules (.code yX4_boilRules cX4_boilRules 4 (some .boolean) :: sw_T)) := sw_goodV (sw_T_of (i := 1192) (by decide +kernel) rfl) (sw_T_of (i := 850) (by decide +kernel) rfl) (sw_T_of (i := 851) (by decide +kernel) rfl) (sw_T_of (i := 107) (by decide +kernel) rfl) cd_X4_boilRules
theorem gs_X6_88 : GoodIn sw_T (va_wsS RX6 88 yJ7_fill_53178 (.code yJ7_fill_53178 cJ7_fill_53178 4 none :: sw_T)) := sw_goodS (sw_T_of (i := 1185) (by decide +kernel) rfl) (sw_T_of (i := 554) (by decide +kernel) rfl) (sw_T_of (i := 115) (by decide +kernel) rfl) cd_J7_fill_53178
theorem gs_X6_94 : GoodIn sw_T (wsV RX6 94 RX4 yX4_pour (.code yX4_pour cX4_pour 4 none :: sw_T)) := sw_goodV (sw_T_of (i := 1186) (by decide +kernel) rfl) (sw_T_of (i := 832) (by decide +kernel) rfl) (sw_T_of (i := 833) (by decide +kernel) rfl) (sw_T_of (i := 107) (by decide +kernel) rfl) cd_X4_pour
theorem gs_X6_100 : GoodIn sw_T (wsV RX6 100 RX4 yX4_has (.code yX4_has cX4_has 3 (some .int) :: sw_T)) := sw_goodV (sw_T_of (i := 1187) (by decide +kernel) rfl) (sw_T_of (i := 788) (by decide +kernel) rfl) (sw_T_of (i := 789) (by decide +kernel) rfl) (sw_T_of (i := 107) (by decide +kernel) rfl) cd_X4_has
theorem gs_X7_32 : GoodIn sw_T (wsV RX7 32 RX7 yX7_readNext (.code yX7_readNext cX7_readNext 1 none :: sw_T)) := sw_goodV (sw_T_of (i := 564) (by decide +kernel) rfl) (sw_T_of (i := 565) (by decide +kernel) rfl) (sw_T_of (i := 566) (by decide +kernel) rfl) (sw_T_of (i := 102) (by decide +kernel) rfl) cd_X7_readNext
theorem gs_X7_41 : GoodIn sw_T (va_wsS RX7 41 yX7_isBlank (.code yX7_isBlank cX7_isBlank 1 (some .boolean) :: sw_T)) := sw_goodS (sw_T_of (i := 568) (by decide +kernel) rfl) (sw_T_of (i := 569) (by decide +kernel) rfl) (sw_T_of (i := 102) (by decide +kernel) rfl) cd_X7_isBlank
theorem gs_X7_51 : GoodIn sw_T (va_wsS RX7 51 yX7_isLetter (.code yX7_isLetter cX7_isLetter 1 (some .boolean) :: sw_T)) := sw_goodS (sw_T_of (i := 571) (by decide +kernel) rfl) (sw_T_of (i := 572) (by decide +kernel) rfl) (sw_T_of (i := 102) (by decide +kernel) rfl) cd_X7_isLetter
theorem gs_X7_54 : GoodIn sw_T (wsV RX7 54 RX7 yX7_readWord (.code yX7_readWord cX7_readWord 1 none :: sw_T)) := sw_goodV (sw_T_of (i := 574) (by decide +kernel) rfl) (sw_T_of (i := 576) (by decide +kernel) rfl) (sw_T_of (i := 0) (by decide +kernel) rfl) (sw_T_of (i := 102) (by decide +kernel) rfl) cd_X7_readWord
theorem gs_X7_57 : GoodIn sw_T (va_wsS RX7 57 yX7_isDigit (.code yX7_isDigit cX7_isDigit 1 (some .boolean) :: sw_T)) := sw_goodS (sw_T_of (i := 581) (by decide +kernel) rfl) (sw_T_of (i := 582) (by decide +kernel) rfl) (sw_T_of (i := 102) (by decide +kernel) rfl) cd_X7_isDigit
theorem gs_X7_60 : GoodIn sw_T (wsV RX7 60 RX7 yX7_readNumber (.code yX7_readNumber cX7_readNumber 2 none :: sw_T)) := sw_goodV (sw_T_of (i := 584) (by decide +kernel) rfl) (sw_T_of (i := 586) (by decide +kernel) rfl) (sw_T_of (i := 1) (by decide +kernel) rfl) (sw_T_of (i := 102) (by decide +kernel) rfl) cd_X7_readNumber
theorem gs_X7_63 : GoodIn sw_T (wsV RX7 63 RX7 yX7_readSign (.code yX7_readSign cX7_readSign 2 none :: sw_T)) := sw_goodV (sw_T_of (i := 588) (by decide +kernel) rfl) (sw_T_of (i := 590) (by decide +kernel) rfl) (sw_T_of (i := 2) (by decide +kernel) rfl) (sw_T_of (i := 102) (by decide +kernel) rfl) cd_X7_readSign
theorem gs_X7_70 : GoodIn sw_T (va_wsS RX7 70 yX7_spelled (.code yX7_spelled cX7_spelled 3 (some .long) :: sw_T)) := sw_goodS (sw_T_of (i := 192) (by decide +kernel) rfl) (sw_T_of (i := 193) (by decide +kernel) rfl) (sw_T_of (i := 102) (by decide +kernel) rfl) cd_X7_spelled
theorem gs_X7_74 : GoodIn sw_T (va_wsS RX7 74 yX7_find (.code yX7_find cX7_find 5 (some .int) :: sw_T)) := sw_goodS (sw_T_of (i := 578) (by decide +kernel) rfl) (sw_T_of (i := 579) (by decide +kernel) rfl) (sw_T_of (i := 102) (by decide +kernel) rfl) cd_X7_find
theorem gs_X8_15 : GoodIn sw_T (va_wsS RX8 15 yJ7_fill_53178 (.code yJ7_fill_53178 cJ7_fill_53178 4 none :: sw_T)) := sw_goodS (sw_T_of (i := 754) (by decide +kernel) rfl) (sw_T_of (i := 554) (by decide +kernel) rfl) (sw_T_of (i := 115) (by decide +kernel) rfl) cd_J7_fill_53178
theorem gs_L_13 : GoodIn sw_T (wsV RL 13 RX9 yX9_feed (.code yX9_feed cX9_feed 7 (some .int) :: sw_T)) := sw_goodV (sw_T_of (i := 529) (by decide +kernel) rfl) (sw_T_of (i := 530) (by decide +kernel) rfl) (sw_T_of (i := 531) (by decide +kernel) rfl) (sw_T_of (i := 100) (by decide +kernel) rfl) cd_X9_feed
theorem gs_L_17 : GoodIn sw_T (wsV RL 17 RX10 yX10_feed (.code yX10_feed cX10_feed 6 (some .int) :: sw_T)) := sw_goodV (sw_T_of (i := 1481) (by decide +kernel) rfl) (sw_T_of (i := 1482) (by decide +kernel) rfl) (sw_T_of (i := 1483) (by decide +kernel) rfl) (sw_T_of (i := 114) (by decide +kernel) rfl) cd_X10_feed
theorem gs_L_18 : GoodIn sw_T (wsV RL 18 RX9 yX9_end (.code yX9_end cX9_end 2 (some .int) :: sw_T)) := sw_goodV (sw_T_of (i := 537) (by decide +kernel) rfl) (sw_T_of (i := 538) (by decide +kernel) rfl) (sw_T_of (i := 539) (by decide +kernel) rfl) (sw_T_of (i := 100) (by decide +kernel) rfl) cd_X9_end
theorem gs_L_22 : GoodIn sw_T (wsV RL 22 RX10 yX10_end (.code yX10_end cX10_end 2 (some .int) :: sw_T)) := sw_goodV (sw_T_of (i := 1489) (by decide +kernel) rfl) (sw_T_of (i := 1490) (by decide +kernel) rfl) (sw_T_of (i := 1491) (by decide +kernel) rfl) (sw_T_of (i := 114) (by decide +kernel) rfl) cd_X10_end
theorem gs_L_23 : GoodIn sw_T (wsV RL 23 RX9 yX9_works (.code yX9_works cX9_works 3 (some .int) :: sw_T)) := sw_goodV (sw_T_of (i := 541) (by decide +kernel) rfl) (sw_T_of (i := 542) (by decide +kernel) rfl) (sw_T_of (i := 543) (by decide +kernel) rfl) (sw_T_of (i := 100) (by decide +kernel) rfl) cd_X9_works
theorem gs_L_27 : GoodIn sw_T (wsV RL 27 RX10 yX10_works (.code yX10_works cX10_works 2 (some .int) :: sw_T)) := sw_goodV (sw_T_of (i := 1493) (by decide +kernel) rfl) (sw_T_of (i := 1494) (by decide +kernel) rfl) (sw_T_of (i := 1495) (by decide +kernel) rfl) (sw_T_of (i := 114) (by decide +kernel) rfl) cd_X10_works
theorem gs_L_28 : GoodIn sw_T (wsV RL 28 RX9 yX9_fault (.code yX9_fault cX9_fault 2 (some .int) :: sw_T)) := sw_goodV (sw_T_of (i := 767) (by decide +kernel) rfl) (sw_T_of (i := 768) (by decide +kernel) rfl) (sw_T_of (i := 769) (by decide +kernel) rfl) (sw_T_of (i := 100) (by decide +kernel) rfl) cd_X9_fault
theorem gs_L_31 : GoodIn sw_T (wsV RL 31 RX10 yX10_fault (.code yX10_fault cX10_fault 2 (some .int) :: sw_T)) := sw_goodV (sw_T_of (i := 1656) (by decide +kernel) rfl) (sw_T_of (i := 1657) (by decide +kernel) rfl) (sw_T_of (i := 1658) (by decide +kernel) rfl) (sw_T_of (i := 114) (by decide +kernel) rfl) cd_X10_fault
theorem gs_L_32 : GoodIn sw_T (wsV RL 32 RX9 yX9_vat (.code yX9_vat cX9_vat 2 (some .int) :: sw_T)) := sw_goodV (sw_T_of (i := 771) (by decide +kernel) rfl) (sw_T_of (i := 772) (by decide +kernel) rfl) (sw_T_of (i := 773) (by decide +kernel) rfl) (sw_T_of (i := 100) (by decide +kernel) rfl) cd_X9_vat
theorem gs_L_35 : GoodIn sw_T (wsV RL 35 RX10 yX10_vat (.code yX10_vat cX10_vat 2 (some .int) :: sw_T)) := sw_goodV (sw_T_of (i := 1660) (by decide +kernel) rfl) (sw_T_of (i := 1661) (by decide +kernel) rfl) (sw_T_of (i := 1662) (by decide +kernel) rfl) (sw_T_of (i := 114) (by decide +kernel) rfl) cd_X10_vat
theorem gs_L_36 : GoodIn sw_T (wsV RL 36 RX9 yX9_mind (.code yX9_mind cX9_mind 3 (some .int) :: sw_T)) := sw_goodV (sw_T_of (i := 779) (by decide +kernel) rfl) (sw_T_of (i := 780) (by decide +kernel) rfl) (sw_T_of (i := 781) (by decide +kernel) rfl) (sw_T_of (i := 100) (by decide +kernel) rfl) cd_X9_mind
theorem gs_L_40 : GoodIn sw_T (wsV RL 40 RX10 yX10_mind (.code yX10_mind cX10_mind 3 (some .int) :: sw_T)) := sw_goodV (sw_T_of (i := 1671) (by decide +kernel) rfl) (sw_T_of (i := 1672) (by decide +kernel) rfl) (sw_T_of (i := 1673) (by decide +kernel) rfl) (sw_T_of (i := 114) (by decide +kernel) rfl) cd_X10_mind
theorem gs_L_41 : GoodIn sw_T (wsV RL 41 RX9 yX9_wants (.code yX9_wants cX9_wants 3 (some .int) :: sw_T)) := sw_goodV (sw_T_of (i := 791) (by decide +kernel) rfl) (sw_T_of (i := 792) (by decide +kernel) rfl) (sw_T_of (i := 793) (by decide +kernel) rfl) (sw_T_of (i := 100) (by decide +kernel) rfl) cd_X9_wants
theorem gs_L_44 : GoodIn sw_T (wsV RL 44 RX10 yX10_wants (.code yX10_wants cX10_wants 3 (some .int) :: sw_T)) := sw_goodV (sw_T_of (i := 1679) (by decide +kernel) rfl) (sw_T_of (i := 1680) (by decide +kernel) rfl) (sw_T_of (i := 1681) (by decide +kernel) rfl) (sw_T_of (i := 114) (by decide +kernel) rfl) cd_X10_wants
theorem gs_L_45 : GoodIn sw_T (wsV RL 45 RX9 yX9_rule (.code yX9_rule cX9_rule 3 (some .int) :: sw_T)) := sw_goodV (sw_T_of (i := 803) (by decide +kernel) rfl) (sw_T_of (i := 804) (by decide +kernel) rfl) (sw_T_of (i := 805) (by decide +kernel) rfl) (sw_T_of (i := 100) (by decide +kernel) rfl) cd_X9_rule
theorem gs_L_48 : GoodIn sw_T (wsV RL 48 RX10 yX10_rule (.code yX10_rule cX10_rule 3 (some .int) :: sw_T)) := sw_goodV (sw_T_of (i := 1687) (by decide +kernel) rfl) (sw_T_of (i := 1688) (by decide +kernel) rfl) (sw_T_of (i := 1689) (by decide +kernel) rfl) (sw_T_of (i := 114) (by decide +kernel) rfl) cd_X10_rule
theorem gs_L_49 : GoodIn sw_T (wsV RL 49 RX9 yX9_confess (.code yX9_confess cX9_confess 2 (some .int) :: sw_T)) := sw_goodV (sw_T_of (i := 807) (by decide +kernel) rfl) (sw_T_of (i := 808) (by decide +kernel) rfl) (sw_T_of (i := 809) (by decide +kernel) rfl) (sw_T_of (i := 100) (by decide +kernel) rfl) cd_X9_confess
theorem gs_L_52 : GoodIn sw_T (wsV RL 52 RX10 yX10_confess (.code yX10_confess cX10_confess 2 (some .int) :: sw_T)) := sw_goodV (sw_T_of (i := 1695) (by decide +kernel) rfl) (sw_T_of (i := 1696) (by decide +kernel) rfl) (sw_T_of (i := 1697) (by decide +kernel) rfl) (sw_T_of (i := 114) (by decide +kernel) rfl) cd_X10_confess
theorem gs_L_53 : GoodIn sw_T (wsV RL 53 RX9 yX9_boil (.code yX9_boil cX9_boil 1 (some .int) :: sw_T)) := sw_goodV (sw_T_of (i := 841) (by decide +kernel) rfl) (sw_T_of (i := 842) (by decide +kernel) rfl) (sw_T_of (i := 843) (by decide +kernel) rfl) (sw_T_of (i := 100) (by decide +kernel) rfl) cd_X9_boil
theorem gs_L_56 : GoodIn sw_T (wsV RL 56 RX10 yX10_boil (.code yX10_boil cX10_boil 2 (some .int) :: sw_T)) := sw_goodV (sw_T_of (i := 1726) (by decide +kernel) rfl) (sw_T_of (i := 1727) (by decide +kernel) rfl) (sw_T_of (i := 1728) (by decide +kernel) rfl) (sw_T_of (i := 114) (by decide +kernel) rfl) cd_X10_boil
theorem gs_L_57 : GoodIn sw_T (wsV RL 57 RX9 yX9_wash (.code yX9_wash cX9_wash 3 (some .int) :: sw_T)) := sw_goodV (sw_T_of (i := 905) (by decide +kernel) rfl) (sw_T_of (i := 906) (by decide +kernel) rfl) (sw_T_of (i := 907) (by decide +kernel) rfl) (sw_T_of (i := 100) (by decide +kernel) rfl) cd_X9_wash
theorem gs_L_60 : GoodIn sw_T (wsV RL 60 RX10 yX10_wash (.code yX10_wash cX10_wash 3 (some .int) :: sw_T)) := sw_goodV (sw_T_of (i := 1766) (by decide +kernel) rfl) (sw_T_of (i := 1767) (by decide +kernel) rfl) (sw_T_of (i := 1768) (by decide +kernel) rfl) (sw_T_of (i := 114) (by decide +kernel) rfl) cd_X10_wash
theorem gs_L_61 : GoodIn sw_T (wsV RL 61 RX9 yX9_sweep (.code yX9_sweep cX9_sweep 3 (some .int) :: sw_T)) := sw_goodV (sw_T_of (i := 918) (by decide +kernel) rfl) (sw_T_of (i := 919) (by decide +kernel) rfl) (sw_T_of (i := 920) (by decide +kernel) rfl) (sw_T_of (i := 100) (by decide +kernel) rfl) cd_X9_sweep
theorem gs_L_64 : GoodIn sw_T (wsV RL 64 RX10 yX10_sweep (.code yX10_sweep cX10_sweep 3 (some .int) :: sw_T)) := sw_goodV (sw_T_of (i := 1778) (by decide +kernel) rfl) (sw_T_of (i := 1779) (by decide +kernel) rfl) (sw_T_of (i := 1780) (by decide +kernel) rfl) (sw_T_of (i := 114) (by decide +kernel) rfl) cd_X10_sweep
theorem gs_L_65 : GoodIn sw_T (wsV RL 65 RX9 yX9_undo (.code yX9_undo cX9_undo 1 (some .boolean) :: sw_T)) := sw_goodV (sw_T_of (i := 922) (by decide +kernel) rfl) (sw_T_of (i := 923) (by decide +kernel) rfl) (sw_T_of (i := 924) (by decide +kernel) rfl) (sw_T_of (i := 100) (by decide +kernel) rfl) cd_X9_undo
theorem gs_L_69 : GoodIn sw_T (wsV RL 69 RX10 yX10_undo (.code yX10_undo cX10_undo 1 (some .boolean) :: sw_T)) := sw_goodV (sw_T_of (i := 1782) (by decide +kernel) rfl) (sw_T_of (i := 1783) (by decide +kernel) rfl) (sw_T_of (i := 1784) (by decide +kernel) rfl) (sw_T_of (i := 114) (by decide +kernel) rfl) cd_X10_undo
theorem gs_L_70 : GoodIn sw_T (wsV RL 70 RX9 yX9_redo (.code yX9_redo cX9_redo 1 (some .boolean) :: sw_T)) := sw_goodV (sw_T_of (i := 934) (by decide +kernel) rfl) (sw_T_of (i := 935) (by decide +kernel) rfl) (sw_T_of (i := 936) (by decide +kernel) rfl) (sw_T_of (i := 100) (by decide +kernel) rfl) cd_X9_redo
theorem gs_L_73 : GoodIn sw_T (wsV RL 73 RX10 yX10_redo (.code yX10_redo cX10_redo 1 (some .boolean) :: sw_T)) := sw_goodV (sw_T_of (i := 1790) (by decide +kernel) rfl) (sw_T_of (i := 1791) (by decide +kernel) rfl) (sw_T_of (i := 1792) (by decide +kernel) rfl) (sw_T_of (i := 114) (by decide +kernel) rfl) cd_X10_redo
theorem gs_L_74 : GoodIn sw_T (wsV RL 74 RX9 yX9_will (.code yX9_will cX9_will 4 (some .int) :: sw_T)) := sw_goodV (sw_T_of (i := 942) (by decide +kernel) rfl) (sw_T_of (i := 943) (by decide +kernel) rfl) (sw_T_of (i := 944) (by decide +kernel) rfl) (sw_T_of (i := 100) (by decide +kernel) rfl) cd_X9_will
theorem gs_L_78 : GoodIn sw_T (wsV RL 78 RX10 yX10_will (.code yX10_will cX10_will 5 (some .int) :: sw_T)) := sw_goodV (sw_T_of (i := 1794) (by decide +kernel) rfl) (sw_T_of (i := 1795) (by decide +kernel) rfl) (sw_T_of (i := 1796) (by decide +kernel) rfl) (sw_T_of (i := 114) (by decide +kernel) rfl) cd_X10_will
theorem gs_L_79 : GoodIn sw_T (wsV RL 79 RX9 yX9_rise (.code yX9_rise cX9_rise 1 (some .int) :: sw_T)) := sw_goodV (sw_T_of (i := 955) (by decide +kernel) rfl) (sw_T_of (i := 956) (by decide +kernel) rfl) (sw_T_of (i := 957) (by decide +kernel) rfl) (sw_T_of (i := 100) (by decide +kernel) rfl) cd_X9_rise
theorem gs_L_82 : GoodIn sw_T (wsV RL 82 RX10 yX10_rise (.code yX10_rise cX10_rise 1 (some .int) :: sw_T)) := sw_goodV (sw_T_of (i := 1798) (by decide +kernel) rfl) (sw_T_of (i := 1799) (by decide +kernel) rfl) (sw_T_of (i := 1800) (by decide +kernel) rfl) (sw_T_of (i := 114) (by decide +kernel) rfl) cd_X10_rise
theorem gs_L_83 : GoodIn sw_T (wsV RL 83 RX9 yX9_rouser (.code yX9_rouser cX9_rouser 6 (some .int) :: sw_T)) := sw_goodV (sw_T_of (i := 966) (by decide +kernel) rfl) (sw_T_of (i := 967) (by decide +kernel) rfl) (sw_T_of (i := 968) (by decide +kernel) rfl) (sw_T_of (i := 100) (by decide +kernel) rfl) cd_X9_rouser
theorem gs_L_86 : GoodIn sw_T (wsV RL 86 RX10 yX10_rouser (.code yX10_rouser cX10_rouser 6 (some .int) :: sw_T)) := sw_goodV (sw_T_of (i := 1806) (by decide +kernel) rfl) (sw_T_of (i := 1807) (by decide +kernel) rfl) (sw_T_of (i := 1808) (by decide +kernel) rfl) (sw_T_of (i := 114) (by decide +kernel) rfl) cd_X10_rouser
theorem gs_L_87 : GoodIn sw_T (wsV RL 87 RX9 yX9_choir (.code yX9_choir cX9_choir 6 (some .int) :: sw_T)) := sw_goodV (sw_T_of (i := 970) (by decide +kernel) rfl) (sw_T_of (i := 971) (by decide +kernel) rfl) (sw_T_of (i := 972) (by decide +kernel) rfl) (sw_T_of (i := 100) (by decide +kernel) rfl) cd_X9_choir
theorem gs_L_90 : GoodIn sw_T (wsV RL 90 RX10 yX10_choir (.code yX10_choir cX10_choir 6 (some .int) :: sw_T)) := sw_goodV (sw_T_of (i := 1810) (by decide +kernel) rfl) (sw_T_of (i := 1811) (by decide +kernel) rfl) (sw_T_of (i := 1812) (by decide +kernel) rfl) (sw_T_of (i := 114) (by decide +kernel) rfl) cd_X10_choir
theorem gs_L_91 : GoodIn sw_T (wsV RL 91 RX9 yX9_power (.code yX9_power cX9_power 6 (some .int) :: sw_T)) := sw_goodV (sw_T_of (i := 985) (by decide +kernel) rfl) (sw_T_of (i := 986) (by decide +kernel) rfl) (sw_T_of (i := 987) (by decide +kernel) rfl) (sw_T_of (i := 100) (by decide +kernel) rfl) cd_X9_power
theorem gs_L_94 : GoodIn sw_T (wsV RL 94 RX10 yX10_power (.code yX10_power cX10_power 5 (some .int) :: sw_T)) := sw_goodV (sw_T_of (i := 1822) (by decide +kernel) rfl) (sw_T_of (i := 1823) (by decide +kernel) rfl) (sw_T_of (i := 1824) (by decide +kernel) rfl) (sw_T_of (i := 114) (by decide +kernel) rfl) cd_X10_power
theorem gs_L_95 : GoodIn sw_T (wsV RL 95 RX9 yX9_serve (.code yX9_serve cX9_serve 4 (some .int) :: sw_T)) := sw_goodV (sw_T_of (i := 989) (by decide +kernel) rfl) (sw_T_of (i := 990) (by decide +kernel) rfl) (sw_T_of (i := 991) (by decide +kernel) rfl) (sw_T_of (i := 100) (by decide +kernel) rfl) cd_X9_serve
theorem gs_L_98 : GoodIn sw_T (wsV RL 98 RX10 yX10_serve (.code yX10_serve cX10_serve 9 (some .int) :: sw_T)) := sw_goodV (sw_T_of (i := 1830) (by decide +kernel) rfl) (sw_T_of (i := 1831) (by decide +kernel) rfl) (sw_T_of (i := 1832) (by decide +kernel) rfl) (sw_T_of (i := 114) (by decide +kernel) rfl) cd_X10_serve
theorem gs_L_99 : GoodIn sw_T (wsV RL 99 RX9 yX9_balm (.code yX9_balm cX9_balm 6 (some .int) :: sw_T)) := sw_goodV (sw_T_of (i := 997) (by decide +kernel) rfl) (sw_T_of (i := 998) (by decide +kernel) rfl) (sw_T_of (i := 999) (by decide +kernel) rfl) (sw_T_of (i := 100) (by decide +kernel) rfl) cd_X9_balm
theorem gs_L_102 : GoodIn sw_T (wsV RL 102 RX10 yX10_balm (.code yX10_balm cX10_balm 6 (some .int) :: sw_T)) := sw_goodV (sw_T_of (i := 1834) (by decide +kernel) rfl) (sw_T_of (i := 1835) (by decide +kernel) rfl) (sw_T_of (i := 1836) (by decide +kernel) rfl) (sw_T_of (i := 114) (by decide +kernel) rfl) cd_X10_balm
theorem gs_L_103 : GoodIn sw_T (wsV RL 103 RX9 yX9_cook (.code yX9_cook cX9_cook 2 (some .int) :: sw_T)) := sw_goodV (sw_T_of (i := 1006) (by decide +kernel) rfl) (sw_T_of (i := 1007) (by decide +kernel) rfl) (sw_T_of (i := 1008) (by decide +kernel) rfl) (sw_T_of (i := 100) (by decide +kernel) rfl) cd_X9_cook
theorem gs_L_106 : GoodIn sw_T (wsV RL 106 RX10 yX10_cook (.code yX10_cook cX10_cook 3 (some .int) :: sw_T)) := sw_goodV (sw_T_of (i := 1838) (by decide +kernel) rfl) (sw_T_of (i := 1839) (by decide +kernel) rfl) (sw_T_of (i := 1840) (by decide +kernel) rfl) (sw_T_of (i := 114) (by decide +kernel) rfl) cd_X10_cook
theorem gs_L_107 : GoodIn sw_T (wsV RL 107 RX9 yX9_lacks (.code yX9_lacks cX9_lacks 2 (some .int) :: sw_T)) := sw_goodV (sw_T_of (i := 1014) (by decide +kernel) rfl) (sw_T_of (i := 1015) (by decide +kernel) rfl) (sw_T_of (i := 1016) (by decide +kernel) rfl) (sw_T_of (i := 100) (by decide +kernel) rfl) cd_X9_lacks
theorem gs_L_110 : GoodIn sw_T (wsV RL 110 RX10 yX10_lacks (.code yX10_lacks cX10_lacks 2 (some .int) :: sw_T)) := sw_goodV (sw_T_of (i := 1842) (by decide +kernel) rfl) (sw_T_of (i := 1843) (by decide +kernel) rfl) (sw_T_of (i := 1844) (by decide +kernel) rfl) (sw_T_of (i := 114) (by decide +kernel) rfl) cd_X10_lacks
theorem gs_L_111 : GoodIn sw_T (wsV RL 111 RX9 yX9_rest (.code yX9_rest cX9_rest 1 (some .int) :: sw_T)) := sw_goodV (sw_T_of (i := 1018) (by decide +kernel) rfl) (sw_T_of (i := 1019) (by decide +kernel) rfl) (sw_T_of (i := 1020) (by decide +kernel) rfl) (sw_T_of (i := 100) (by decide +kernel) rfl) cd_X9_rest
theorem gs_L_114 : GoodIn sw_T (wsV RL 114 RX10 yX10_rest (.code yX10_rest cX10_rest 4 (some .int) :: sw_T)) := sw_goodV (sw_T_of (i := 1850) (by decide +kernel) rfl) (sw_T_of (i := 1851) (by decide +kernel) rfl) (sw_T_of (i := 1852) (by decide +kernel) rfl) (sw_T_of (i := 114) (by decide +kernel) rfl) cd_X10_rest
theorem gs_L_115 : GoodIn sw_T (wsV RL 115 RX9 yX9_order (.code yX9_order cX9_order 2 (some .int) :: sw_T)) := sw_goodV (sw_T_of (i := 1026) (by decide +kernel) rfl) (sw_T_of (i := 1027) (by decide +kernel) rfl) (sw_T_of (i := 1028) (by decide +kernel) rfl) (sw_T_of (i := 100) (by decide +kernel) rfl) cd_X9_order
theorem gs_L_118 : GoodIn sw_T (wsV RL 118 RX10 yX10_order (.code yX10_order cX10_order 5 (some .int) :: sw_T)) := sw_goodV (sw_T_of (i := 1854) (by decide +kernel) rfl) (sw_T_of (i := 1855) (by decide +kernel) rfl) (sw_T_of (i := 1856) (by decide +kernel) rfl) (sw_T_of (i := 114) (by decide +kernel) rfl) cd_X10_order
theorem gs_L_119 : GoodIn sw_T (wsV RL 119 RX9 yX9_comes (.code yX9_comes cX9_comes 4 (some .int) :: sw_T)) := sw_goodV (sw_T_of (i := 1049) (by decide +kernel) rfl) (sw_T_of (i := 1050) (by decide +kernel) rfl) (sw_T_of (i := 1051) (by decide +kernel) rfl) (sw_T_of (i := 100) (by decide +kernel) rfl) cd_X9_comes
theorem gs_L_122 : GoodIn sw_T (wsV RL 122 RX10 yX10_comes (.code yX10_comes cX10_comes 4 (some .int) :: sw_T)) := sw_goodV (sw_T_of (i := 1866) (by decide +kernel) rfl) (sw_T_of (i := 1867) (by decide +kernel) rfl) (sw_T_of (i := 1868) (by decide +kernel) rfl) (sw_T_of (i := 114) (by decide +kernel) rfl) cd_X10_comes
theorem gs_L_123 : GoodIn sw_T (wsV RL 123 RX9 yX9_steps (.code yX9_steps cX9_steps 5 (some .int) :: sw_T)) := sw_goodV (sw_T_of (i := 1057) (by decide +kernel) rfl) (sw_T_of (i := 1058) (by decide +kernel) rfl) (sw_T_of (i := 1059) (by decide +kernel) rfl) (sw_T_of (i := 100) (by decide +kernel) rfl) cd_X9_steps
theorem gs_L_126 : GoodIn sw_T (wsV RL 126 RX10 yX10_steps (.code yX10_steps cX10_steps 5 (some .int) :: sw_T)) := sw_goodV (sw_T_of (i := 1874) (by decide +kernel) rfl) (sw_T_of (i := 1875) (by decide +kernel) rfl) (sw_T_of (i := 1876) (by decide +kernel) rfl) (sw_T_of (i := 114) (by decide +kernel) rfl) cd_X10_steps
theorem gs_L_127 : GoodIn sw_T (wsV RL 127 RX9 yX9_duel (.code yX9_duel cX9_duel 5 (some .int) :: sw_T)) := sw_goodV (sw_T_of (i := 1061) (by decide +kernel) rfl) (sw_T_of (i := 1062) (by decide +kernel) rfl) (sw_T_of (i := 1063) (by decide +kernel) rfl) (sw_T_of (i := 100) (by decide +kernel) rfl) cd_X9_duel
theorem gs_L_130 : GoodIn sw_T (wsV RL 130 RX10 yX10_duel (.code yX10_duel cX10_duel 5 (some .int) :: sw_T)) := sw_goodV (sw_T_of (i := 1878) (by decide +kernel) rfl) (sw_T_of (i := 1879) (by decide +kernel) rfl) (sw_T_of (i := 1880) (by decide +kernel) rfl) (sw_T_of (i := 114) (by decide +kernel) rfl) cd_X10_duel
theorem gs_L_131 : GoodIn sw_T (wsV RL 131 RX9 yX9_nearest (.code yX9_nearest cX9_nearest 5 (some .int) :: sw_T)) := sw_goodV (sw_T_of (i := 1081) (by decide +kernel) rfl) (sw_T_of (i := 1082) (by decide +kernel) rfl) (sw_T_of (i := 1083) (by decide +kernel) rfl) (sw_T_of (i := 100) (by decide +kernel) rfl) cd_X9_nearest
theorem gs_L_134 : GoodIn sw_T (wsV RL 134 RX10 yX10_nearest (.code yX10_nearest cX10_nearest 3 (some .int) :: sw_T)) := sw_goodV (sw_T_of (i := 1886) (by decide +kernel) rfl) (sw_T_of (i := 1887) (by decide +kernel) rfl) (sw_T_of (i := 1888) (by decide +kernel) rfl) (sw_T_of (i := 114) (by decide +kernel) rfl) cd_X10_nearest
theorem gs_L_135 : GoodIn sw_T (wsV RL 135 RX9 yX9_wanted (.code yX9_wanted cX9_wanted 4 (some .int) :: sw_T)) := sw_goodV (sw_T_of (i := 1086) (by decide +kernel) rfl) (sw_T_of (i := 1087) (by decide +kernel) rfl) (sw_T_of (i := 1088) (by decide +kernel) rfl) (sw_T_of (i := 100) (by decide +kernel) rfl) cd_X9_wanted
theorem gs_L_138 : GoodIn sw_T (wsV RL 138 RX10 yX10_wanted (.code yX10_wanted cX10_wanted 4 (some .int) :: sw_T)) := sw_goodV (sw_T_of (i := 1890) (by decide +kernel) rfl) (sw_T_of (i := 1891) (by decide +kernel) rfl) (sw_T_of (i := 1892) (by decide +kernel) rfl) (sw_T_of (i := 114) (by decide +kernel) rfl) cd_X10_wanted
theorem gs_L_139 : GoodIn sw_T (wsV RL 139 RX9 yX9_sinners (.code yX9_sinners cX9_sinners 4 (some .int) :: sw_T)) := sw_goodV (sw_T_of (i := 1090) (by decide +kernel) rfl) (sw_T_of (i := 1091) (by decide +kernel) rfl) (sw_T_of (i := 1092) (by decide +kernel) rfl) (sw_T_of (i := 100) (by decide +kernel) rfl) cd_X9_sinners
theorem gs_L_142 : GoodIn sw_T (wsV RL 142 RX10 yX10_sinners (.code yX10_sinners cX10_sinners 4 (some .int) :: sw_T)) := sw_goodV (sw_T_of (i := 1894) (by decide +kernel) rfl) (sw_T_of (i := 1895) (by decide +kernel) rfl) (sw_T_of (i := 1896) (by decide +kernel) rfl) (sw_T_of (i := 114) (by decide +kernel) rfl) cd_X10_sinners
theorem gs_L_143 : GoodIn sw_T (wsV RL 143 RX9 yX9_inert (.code yX9_inert cX9_inert 3 (some .int) :: sw_T)) := sw_goodV (sw_T_of (i := 1094) (by decide +kernel) rfl) (sw_T_of (i := 1095) (by decide +kernel) rfl) (sw_T_of (i := 1096) (by decide +kernel) rfl) (sw_T_of (i := 100) (by decide +kernel) rfl) cd_X9_inert
theorem gs_L_146 : GoodIn sw_T (wsV RL 146 RX10 yX10_inert (.code yX10_inert cX10_inert 3 (some .int) :: sw_T)) := sw_goodV (sw_T_of (i := 1898) (by decide +kernel) rfl) (sw_T_of (i := 1899) (by decide +kernel) rfl) (sw_T_of (i := 1900) (by decide +kernel) rfl) (sw_T_of (i := 114) (by decide +kernel) rfl) cd_X10_inert
theorem gs_L_147 : GoodIn sw_T (wsV RL 147 RX9 yX9_alive (.code yX9_alive cX9_alive 3 (some .int) :: sw_T)) := sw_goodV (sw_T_of (i := 1101) (by decide +kernel) rfl) (sw_T_of (i := 1102) (by decide +kernel) rfl) (sw_T_of (i := 1103) (by decide +kernel) rfl) (sw_T_of (i := 100) (by decide +kernel) rfl) cd_X9_alive
theorem gs_L_150 : GoodIn sw_T (wsV RL 150 RX10 yX10_alive (.code yX10_alive cX10_alive 3 (some .int) :: sw_T)) := sw_goodV (sw_T_of (i := 1902) (by decide +kernel) rfl) (sw_T_of (i := 1903) (by decide +kernel) rfl) (sw_T_of (i := 1904) (by decide +kernel) rfl) (sw_T_of (i := 114) (by decide +kernel) rfl) cd_X10_alive
theorem gs_L_151 : GoodIn sw_T (wsV RL 151 RX9 yX9_thickest (.code yX9_thickest cX9_thickest 3 (some .int) :: sw_T)) := sw_goodV (sw_T_of (i := 1107) (by decide +kernel) rfl) (sw_T_of (i := 1108) (by decide +kernel) rfl) (sw_T_of (i := 1109) (by decide +kernel) rfl) (sw_T_of (i := 100) (by decide +kernel) rfl) cd_X9_thickest
theorem gs_L_154 : GoodIn sw_T (wsV RL 154 RX10 yX10_thickest (.code yX10_thickest cX10_thickest 3 (some .int) :: sw_T)) := sw_goodV (sw_T_of (i := 1906) (by decide +kernel) rfl) (sw_T_of (i := 1907) (by decide +kernel) rfl) (sw_T_of (i := 1908) (by decide +kernel) rfl) (sw_T_of (i := 114) (by decide +kernel) rfl) cd_X10_thickest
theorem gs_L_155 : GoodIn sw_T (wsV RL 155 RX9 yX9_thinnest (.code yX9_thinnest cX9_thinnest 3 (some .int) :: sw_T)) := sw_goodV (sw_T_of (i := 1111) (by decide +kernel) rfl) (sw_T_of (i := 1112) (by decide +kernel) rfl) (sw_T_of (i := 1113) (by decide +kernel) rfl) (sw_T_of (i := 100) (by decide +kernel) rfl) cd_X9_thinnest
theorem gs_L_158 : GoodIn sw_T (wsV RL 158 RX10 yX10_thinnest (.code yX10_thinnest cX10_thinnest 3 (some .int) :: sw_T)) := sw_goodV (sw_T_of (i := 1910) (by decide +kernel) rfl) (sw_T_of (i := 1911) (by decide +kernel) rfl) (sw_T_of (i := 1912) (by decide +kernel) rfl) (sw_T_of (i := 114) (by decide +kernel) rfl) cd_X10_thinnest
theorem gs_L_159 : GoodIn sw_T (wsV RL 159 RX9 yX9_makers (.code yX9_makers cX9_makers 4 (some .int) :: sw_T)) := sw_goodV (sw_T_of (i := 1115) (by decide +kernel) rfl) (sw_T_of (i := 1116) (by decide +kernel) rfl) (sw_T_of (i := 1117) (by decide +kernel) rfl) (sw_T_of (i := 100) (by decide +kernel) rfl) cd_X9_makers
theorem gs_L_162 : GoodIn sw_T (wsV RL 162 RX10 yX10_makers (.code yX10_makers cX10_makers 4 (some .int) :: sw_T)) := sw_goodV (sw_T_of (i := 1914) (by decide +kernel) rfl) (sw_T_of (i := 1915) (by decide +kernel) rfl) (sw_T_of (i := 1916) (by decide +kernel) rfl) (sw_T_of (i := 114) (by decide +kernel) rfl) cd_X10_makers
theorem gs_L_163 : GoodIn sw_T (wsV RL 163 RX9 yX9_heaviest (.code yX9_heaviest cX9_heaviest 3 (some .int) :: sw_T)) := sw_goodV (sw_T_of (i := 1119) (by decide +kernel) rfl) (sw_T_of (i := 1120) (by decide +kernel) rfl) (sw_T_of (i := 1121) (by decide +kernel) rfl) (sw_T_of (i := 100) (by decide +kernel) rfl) cd_X9_heaviest
theorem gs_L_166 : GoodIn sw_T (wsV RL 166 RX10 yX10_heaviest (.code yX10_heaviest cX10_heaviest 3 (some .int) :: sw_T)) := sw_goodV (sw_T_of (i := 1918) (by decide +kernel) rfl) (sw_T_of (i := 1919) (by decide +kernel) rfl) (sw_T_of (i := 1920) (by decide +kernel) rfl) (sw_T_of (i := 114) (by decide +kernel) rfl) cd_X10_heaviest
theorem gs_L_167 : GoodIn sw_T (wsV RL 167 RX9 yX9_law (.code yX9_law cX9_law 2 (some .int) :: sw_T)) := sw_goodV (sw_T_of (i := 1124) (by decide +kernel) rfl) (sw_T_of (i := 1125) (by decide +kernel) rfl) (sw_T_of (i := 1126) (by decide +kernel) rfl) (sw_T_of (i := 100) (by decide +kernel) rfl) cd_X9_law
theorem gs_L_170 : GoodIn sw_T (wsV RL 170 RX10 yX10_law (.code yX10_law cX10_law 3 (some .int) :: sw_T)) := sw_goodV (sw_T_of (i := 1922) (by decide +kernel) rfl) (sw_T_of (i := 1923) (by decide +kernel) rfl) (sw_T_of (i := 1924) (by decide +kernel) rfl) (sw_T_of (i := 114) (by decide +kernel) rfl) cd_X10_law
theorem gs_L_171 : GoodIn sw_T (wsV RL 171 RX9 yX9_mission (.code yX9_mission cX9_mission 3 (some .int) :: sw_T)) := sw_goodV (sw_T_of (i := 1133) (by decide +kernel) rfl) (sw_T_of (i := 1134) (by decide +kernel) rfl) (sw_T_of (i := 1135) (by decide +kernel) rfl) (sw_T_of (i := 100) (by decide +kernel) rfl) cd_X9_mission
theorem gs_L_174 : GoodIn sw_T (wsV RL 174 RX10 yX10_mission (.code yX10_mission cX10_mission 1 (some .int) :: sw_T)) := sw_goodV (sw_T_of (i := 1926) (by decide +kernel) rfl) (sw_T_of (i := 1927) (by decide +kernel) rfl) (sw_T_of (i := 1928) (by decide +kernel) rfl) (sw_T_of (i := 114) (by decide +kernel) rfl) cd_X10_mission
theorem gs_L_175 : GoodIn sw_T (wsV RL 175 RX9 yX9_odds (.code yX9_odds cX9_odds 6 (some .int) :: sw_T)) := sw_goodV (sw_T_of (i := 1137) (by decide +kernel) rfl) (sw_T_of (i := 1138) (by decide +kernel) rfl) (sw_T_of (i := 1139) (by decide +kernel) rfl) (sw_T_of (i := 100) (by decide +kernel) rfl) cd_X9_odds
theorem gs_L_178 : GoodIn sw_T (wsV RL 178 RX10 yX10_odds (.code yX10_odds cX10_odds 6 (some .int) :: sw_T)) := sw_goodV (sw_T_of (i := 1930) (by decide +kernel) rfl) (sw_T_of (i := 1931) (by decide +kernel) rfl) (sw_T_of (i := 1932) (by decide +kernel) rfl) (sw_T_of (i := 114) (by decide +kernel) rfl) cd_X10_odds
theorem gs_L_179 : GoodIn sw_T (wsV RL 179 RX9 yX9_lies (.code yX9_lies cX9_lies 2 (some .int) :: sw_T)) := sw_goodV (sw_T_of (i := 1144) (by decide +kernel) rfl) (sw_T_of (i := 1145) (by decide +kernel) rfl) (sw_T_of (i := 1146) (by decide +kernel) rfl) (sw_T_of (i := 100) (by decide +kernel) rfl) cd_X9_lies
theorem gs_L_182 : GoodIn sw_T (wsV RL 182 RX10 yX10_lies (.code yX10_lies cX10_lies 2 (some .int) :: sw_T)) := sw_goodV (sw_T_of (i := 1940) (by decide +kernel) rfl) (sw_T_of (i := 1941) (by decide +kernel) rfl) (sw_T_of (i := 1942) (by decide +kernel) rfl) (sw_T_of (i := 114) (by decide +kernel) rfl) cd_X10_lies
theorem gs_L_183 : GoodIn sw_T (wsV RL 183 RX9 yX9_seen (.code yX9_seen cX9_seen 5 (some .int) :: sw_T)) := sw_goodV (sw_T_of (i := 1148) (by decide +kernel) rfl) (sw_T_of (i := 1149) (by decide +kernel) rfl) (sw_T_of (i := 1150) (by decide +kernel) rfl) (sw_T_of (i := 100) (by decide +kernel) rfl) cd_X9_seen
theorem gs_L_187 : GoodIn sw_T (wsV RL 187 RX10 yX10_seen (.code yX10_seen cX10_seen 5 (some .int) :: sw_T)) := sw_goodV (sw_T_of (i := 1944) (by decide +kernel) rfl) (sw_T_of (i := 1945) (by decide +kernel) rfl) (sw_T_of (i := 1946) (by decide +kernel) rfl) (sw_T_of (i := 114) (by decide +kernel) rfl) cd_X10_seen
theorem gs_L_188 : GoodIn sw_T (wsV RL 188 RX9 yX9_untell (.code yX9_untell cX9_untell 2 (some .boolean) :: sw_T)) := sw_goodV (sw_T_of (i := 1156) (by decide +kernel) rfl) (sw_T_of (i := 1157) (by decide +kernel) rfl) (sw_T_of (i := 1158) (by decide +kernel) rfl) (sw_T_of (i := 100) (by decide +kernel) rfl) cd_X9_untell
theorem gs_L_192 : GoodIn sw_T (wsV RL 192 RX10 yX10_untell (.code yX10_untell cX10_untell 2 (some .boolean) :: sw_T)) := sw_goodV (sw_T_of (i := 1948) (by decide +kernel) rfl) (sw_T_of (i := 1949) (by decide +kernel) rfl) (sw_T_of (i := 1950) (by decide +kernel) rfl) (sw_T_of (i := 114) (by decide +kernel) rfl) cd_X10_untell
theorem gs_L_193 : GoodIn sw_T (wsV RL 193 RX9 yX9_later (.code yX9_later cX9_later 2 (some .int) :: sw_T)) := sw_goodV (sw_T_of (i := 1164) (by decide +kernel) rfl) (sw_T_of (i := 1165) (by decide +kernel) rfl) (sw_T_of (i := 1166) (by decide +kernel) rfl) (sw_T_of (i := 100) (by decide +kernel) rfl) cd_X9_later
theorem gs_L_196 : GoodIn sw_T (wsV RL 196 RX10 yX10_later (.code yX10_later cX10_later 2 (some .int) :: sw_T)) := sw_goodV (sw_T_of (i := 1952) (by decide +kernel) rfl) (sw_T_of (i := 1953) (by decide +kernel) rfl) (sw_T_of (i := 1954) (by decide +kernel) rfl) (sw_T_of (i := 114) (by decide +kernel) rfl) cd_X10_later
theorem gs_L_197 : GoodIn sw_T (wsV RL 197 RX9 yX9_fits (.code yX9_fits cX9_fits 2 (some .int) :: sw_T)) := sw_goodV (sw_T_of (i := 1169) (by decide +kernel) rfl) (sw_T_of (i := 1170) (by decide +kernel) rfl) (sw_T_of (i := 1171) (by decide +kernel) rfl) (sw_T_of (i := 100) (by decide +kernel) rfl) cd_X9_fits
theorem gs_L_200 : GoodIn sw_T (wsV RL 200 RX10 yX10_fits (.code yX10_fits cX10_fits 2 (some .int) :: sw_T)) := sw_goodV (sw_T_of (i := 1957) (by decide +kernel) rfl) (sw_T_of (i := 1958) (by decide +kernel) rfl) (sw_T_of (i := 1959) (by decide +kernel) rfl) (sw_T_of (i := 114) (by decide +kernel) rfl) cd_X10_fits
theorem gs_L_201 : GoodIn sw_T (wsV RL 201 RX9 yX9_sure (.code yX9_sure cX9_sure 4 (some .int) :: sw_T)) := sw_goodV (sw_T_of (i := 1201) (by decide +kernel) rfl) (sw_T_of (i := 1202) (by decide +kernel) rfl) (sw_T_of (i := 1203) (by decide +kernel) rfl) (sw_T_of (i := 100) (by decide +kernel) rfl) cd_X9_sure
theorem gs_L_204 : GoodIn sw_T (wsV RL 204 RX10 yX10_sure (.code yX10_sure cX10_sure 5 (some .int) :: sw_T)) := sw_goodV (sw_T_of (i := 1969) (by decide +kernel) rfl) (sw_T_of (i := 1970) (by decide +kernel) rfl) (sw_T_of (i := 1971) (by decide +kernel) rfl) (sw_T_of (i := 114) (by decide +kernel) rfl) cd_X10_sure
theorem gs_L_205 : GoodIn sw_T (wsV RL 205 RX9 yX9_ask (.code yX9_ask cX9_ask 9 (some .int) :: sw_T)) := sw_goodV (sw_T_of (i := 1208) (by decide +kernel) rfl) (sw_T_of (i := 1209) (by decide +kernel) rfl) (sw_T_of (i := 1210) (by decide +kernel) rfl) (sw_T_of (i := 100) (by decide +kernel) rfl) cd_X9_ask
theorem gs_L_208 : GoodIn sw_T (wsV RL 208 RX10 yX10_ask (.code yX10_ask cX10_ask 6 (some .int) :: sw_T)) := sw_goodV (sw_T_of (i := 1973) (by decide +kernel) rfl) (sw_T_of (i := 1974) (by decide +kernel) rfl) (sw_T_of (i := 1975) (by decide +kernel) rfl) (sw_T_of (i := 114) (by decide +kernel) rfl) cd_X10_ask
theorem gs_L_209 : GoodIn sw_T (wsV RL 209 RX9 yX9_image (.code yX9_image cX9_image 2 (some .int) :: sw_T)) := sw_goodV (sw_T_of (i := 1221) (by decide +kernel) rfl) (sw_T_of (i := 1222) (by decide +kernel) rfl) (sw_T_of (i := 1223) (by decide +kernel) rfl) (sw_T_of (i := 100) (by decide +kernel) rfl) cd_X9_image
theorem gs_L_212 : GoodIn sw_T (wsV RL 212 RX10 yX10_image (.code yX10_image cX10_image 3 (some .int) :: sw_T)) := sw_goodV (sw_T_of (i := 1981) (by decide +kernel) rfl) (sw_T_of (i := 1982) (by decide +kernel) rfl) (sw_T_of (i := 1983) (by decide +kernel) rfl) (sw_T_of (i := 114) (by decide +kernel) rfl) cd_X10_image
theorem gs_L_213 : GoodIn sw_T (wsV RL 213 RX9 yX9_back (.code yX9_back cX9_back 2 (some .int) :: sw_T)) := sw_goodV (sw_T_of (i := 1234) (by decide +kernel) rfl) (sw_T_of (i := 1235) (by decide +kernel) rfl) (sw_T_of (i := 1236) (by decide +kernel) rfl) (sw_T_of (i := 100) (by decide +kernel) rfl) cd_X9_back
theorem gs_L_216 : GoodIn sw_T (wsV RL 216 RX10 yX10_back (.code yX10_back cX10_back 3 (some .int) :: sw_T)) := sw_goodV (sw_T_of (i := 1988) (by decide +kernel) rfl) (sw_T_of (i := 1989) (by decide +kernel) rfl) (sw_T_of (i := 1990) (by decide +kernel) rfl) (sw_T_of (i := 114) (by decide +kernel) rfl) cd_X10_back
theorem gs_L_217 : GoodIn sw_T (wsV RL 217 RX9 yX9_about (.code yX9_about cX9_about 2 (some .int) :: sw_T)) := sw_goodV (sw_T_of (i := 1243) (by decide +kernel) rfl) (sw_T_of (i := 1244) (by decide +kernel) rfl) (sw_T_of (i := 1245) (by decide +kernel) rfl) (sw_T_of (i := 100) (by decide +kernel) rfl) cd_X9_about
theorem gs_L_220 : GoodIn sw_T (wsV RL 220 RX10 yX10_about (.code yX10_about cX10_about 2 (some .int) :: sw_T)) := sw_goodV (sw_T_of (i := 1992) (by decide +kernel) rfl) (sw_T_of (i := 1993) (by decide +kernel) rfl) (sw_T_of (i := 1994) (by decide +kernel) rfl) (sw_T_of (i := 114) (by decide +kernel) rfl) cd_X10_about
theorem gs_X10_121 : GoodIn sw_T (wsV RX10 121 RX10 yX10_four (.code yX10_four cX10_four 3 none :: sw_T)) := sw_goodV (sw_T_of (i := 1485) (by decide +kernel) rfl) (sw_T_of (i := 1487) (by decide +kernel) rfl) (sw_T_of (i := 35) (by decide +kernel) rfl) (sw_T_of (i := 114) (by decide +kernel) rfl) cd_X10_four
theorem gs_X10_131 : GoodIn sw_T (wsV RX10 131 RX10 yX10_here (.code yX10_here cX10_here 2 (some .int) :: sw_T)) := sw_goodV (sw_T_of (i := 1505) (by decide +kernel) rfl) (sw_T_of (i := 1507) (by decide +kernel) rfl) (sw_T_of (i := 38) (by decide +kernel) rfl) (sw_T_of (i := 114) (by decide +kernel) rfl) cd_X10_here
theorem gs_X10_148 : GoodIn sw_T (va_wsS RX10 148 yX10_isLetter (.code yX10_isLetter cX10_isLetter 1 (some .boolean) :: sw_T)) := sw_goodS (sw_T_of (i := 1509) (by decide +kernel) rfl) (sw_T_of (i := 1510) (by decide +kernel) rfl) (sw_T_of (i := 114) (by decide +kernel) rfl) cd_X10_isLetter
theorem gs_X10_152 : GoodIn sw_T (va_wsS RX10 152 yX10_isDigit (.code yX10_isDigit cX10_isDigit 1 (some .boolean) :: sw_T)) := sw_goodS (sw_T_of (i := 1512) (by decide +kernel) rfl) (sw_T_of (i := 1513) (by decide +kernel) rfl) (sw_T_of (i := 114) (by decide +kernel) rfl) cd_X10_isDigit
theorem gs_X10_155 : GoodIn sw_T (va_wsS RX10 155 yX10_isSign (.code yX10_isSign cX10_isSign 1 (some .boolean) :: sw_T)) := sw_goodS (sw_T_of (i := 1515) (by decide +kernel) rfl) (sw_T_of (i := 1516) (by decide +kernel) rfl) (sw_T_of (i := 114) (by decide +kernel) rfl) cd_X10_isSign
theorem gs_X10_199 : GoodIn sw_T (wsV RX10 199 RX10 yX10_isOwn (.code yX10_isOwn cX10_isOwn 1 (some .boolean) :: sw_T)) := sw_goodV (sw_T_of (i := 1539) (by decide +kernel) rfl) (sw_T_of (i := 1541) (by decide +kernel) rfl) (sw_T_of (i := 44) (by decide +kernel) rfl) (sw_T_of (i := 114) (by decide +kernel) rfl) cd_X10_isOwn
theorem gs_X10_203 : GoodIn sw_T (wsV RX10 203 RX10 yX10_isWord (.code yX10_isWord cX10_isWord 3 (some .boolean) :: sw_T)) := sw_goodV (sw_T_of (i := 1523) (by decide +kernel) rfl) (sw_T_of (i := 1525) (by decide +kernel) rfl) (sw_T_of (i := 40) (by decide +kernel) rfl) (sw_T_of (i := 114) (by decide +kernel) rfl) cd_X10_isWord
theorem gs_X10_207 : GoodIn sw_T (wsV RX10 207 RX10 yX10_wrong (.code yX10_wrong cX10_wrong 2 none :: sw_T)) := sw_goodV (sw_T_of (i := 1561) (by decide +kernel) rfl) (sw_T_of (i := 1563) (by decide +kernel) rfl) (sw_T_of (i := 45) (by decide +kernel) rfl) (sw_T_of (i := 114) (by decide +kernel) rfl) cd_X10_wrong
theorem gs_X10_210 : GoodIn sw_T (wsV RX10 210 RX10 yX10_token (.code yX10_token cX10_token 3 none :: sw_T)) := sw_goodV (sw_T_of (i := 1501) (by decide +kernel) rfl) (sw_T_of (i := 1503) (by decide +kernel) rfl) (sw_T_of (i := 37) (by decide +kernel) rfl) (sw_T_of (i := 114) (by decide +kernel) rfl) cd_X10_token
theorem gs_X10_213 : GoodIn sw_T (wsV RX10 213 RX10 yX10_want (.code yX10_want cX10_want 3 none :: sw_T)) := sw_goodV (sw_T_of (i := 1573) (by decide +kernel) rfl) (sw_T_of (i := 1575) (by decide +kernel) rfl) (sw_T_of (i := 48) (by decide +kernel) rfl) (sw_T_of (i := 114) (by decide +kernel) rfl) cd_X10_want
theorem gs_X10_217 : GoodIn sw_T (wsV RX10 217 RX10 yX10_toldNumber (.code yX10_toldNumber cX10_toldNumber 4 (some .int) :: sw_T)) := sw_goodV (sw_T_of (i := 1589) (by decide +kernel) rfl) (sw_T_of (i := 1591) (by decide +kernel) rfl) (sw_T_of (i := 52) (by decide +kernel) rfl) (sw_T_of (i := 114) (by decide +kernel) rfl) cd_X10_toldNumber
theorem gs_X10_221 : GoodIn sw_T (wsV RX10 221 RX10 yX10_isName (.code yX10_isName cX10_isName 1 (some .boolean) :: sw_T)) := sw_goodV (sw_T_of (i := 1535) (by decide +kernel) rfl) (sw_T_of (i := 1537) (by decide +kernel) rfl) (sw_T_of (i := 43) (by decide +kernel) rfl) (sw_T_of (i := 114) (by decide +kernel) rfl) cd_X10_isName
theorem gs_X10_224 : GoodIn sw_T (wsV RX10 224 RX10 yX10_find (.code yX10_find cX10_find 5 (some .int) :: sw_T)) := sw_goodV (sw_T_of (i := 1565) (by decide +kernel) rfl) (sw_T_of (i := 1567) (by decide +kernel) rfl) (sw_T_of (i := 46) (by decide +kernel) rfl) (sw_T_of (i := 114) (by decide +kernel) rfl) cd_X10_find
theorem gs_X10_236 : GoodIn sw_T (va_wsS RX10 236 yX10_tight (.code yX10_tight cX10_tight 1 (some .int) :: sw_T)) := sw_goodS (sw_T_of (i := 1613) (by decide +kernel) rfl) (sw_T_of (i := 1614) (by decide +kernel) rfl) (sw_T_of (i := 114) (by decide +kernel) rfl) cd_X10_tight
theorem gs_X10_239 : GoodIn sw_T (wsV RX10 239 RX10 yX10_add (.code yX10_add cX10_add 3 none :: sw_T)) := sw_goodV (sw_T_of (i := 1632) (by decide +kernel) rfl) (sw_T_of (i := 1634) (by decide +kernel) rfl) (sw_T_of (i := 62) (by decide +kernel) rfl) (sw_T_of (i := 114) (by decide +kernel) rfl) cd_X10_add
theorem gs_X10_252 : GoodIn sw_T (wsV RX10 252 RX10 yX10_mayNot (.code yX10_mayNot cX10_mayNot 1 (some .boolean) :: sw_T)) := sw_goodV (sw_T_of (i := 1609) (by decide +kernel) rfl) (sw_T_of (i := 1611) (by decide +kernel) rfl) (sw_T_of (i := 57) (by decide +kernel) rfl) (sw_T_of (i := 114) (by decide +kernel) rfl) cd_X10_mayNot
theorem gs_X10_255 : GoodIn sw_T (wsV RX10 255 RX10 yX10_openUp (.code yX10_openUp cX10_openUp 2 none :: sw_T)) := sw_goodV (sw_T_of (i := 1616) (by decide +kernel) rfl) (sw_T_of (i := 1618) (by decide +kernel) rfl) (sw_T_of (i := 58) (by decide +kernel) rfl) (sw_T_of (i := 114) (by decide +kernel) rfl) cd_X10_openUp
theorem gs_X10_258 : GoodIn sw_T (wsV RX10 258 RX10 yX10_isFull (.code yX10_isFull cX10_isFull 1 (some .boolean) :: sw_T)) := sw_goodV (sw_T_of (i := 1620) (by decide +kernel) rfl) (sw_T_of (i := 1622) (by decide +kernel) rfl) (sw_T_of (i := 59) (by decide +kernel) rfl) (sw_T_of (i := 114) (by decide +kernel) rfl) cd_X10_isFull
theorem gs_X10_261 : GoodIn sw_T (wsV RX10 261 RX10 yX10_countUnit (.code yX10_countUnit cX10_countUnit 1 none :: sw_T)) := sw_goodV (sw_T_of (i := 1624) (by decide +kernel) rfl) (sw_T_of (i := 1626) (by decide +kernel) rfl) (sw_T_of (i := 60) (by decide +kernel) rfl) (sw_T_of (i := 114) (by decide +kernel) rfl) cd_X10_countUnit
theorem gs_X10_264 : GoodIn sw_T (wsV RX10 264 RX10 yX10_asked (.code yX10_asked cX10_asked 1 (some .int) :: sw_T)) := sw_goodV (sw_T_of (i := 1628) (by decide +kernel) rfl) (sw_T_of (i := 1630) (by decide +kernel) rfl) (sw_T_of (i := 61) (by decide +kernel) rfl) (sw_T_of (i := 114) (by decide +kernel) rfl) cd_X10_asked
theorem gs_X10_272 : GoodIn sw_T (wsV RX10 272 RX10 yX10_unit (.code yX10_unit cX10_unit 3 none :: sw_T)) := sw_goodV (sw_T_of (i := 1605) (by decide +kernel) rfl) (sw_T_of (i := 1607) (by decide +kernel) rfl) (sw_T_of (i := 56) (by decide +kernel) rfl) (sw_T_of (i := 114) (by decide +kernel) rfl) cd_X10_unit
theorem gs_X10_275 : GoodIn sw_T (wsV RX10 275 RX10 yX10_sign (.code yX10_sign cX10_sign 1 (some .int) :: sw_T)) := sw_goodV (sw_T_of (i := 1636) (by decide +kernel) rfl) (sw_T_of (i := 1638) (by decide +kernel) rfl) (sw_T_of (i := 63) (by decide +kernel) rfl) (sw_T_of (i := 114) (by decide +kernel) rfl) cd_X10_sign
theorem gs_X10_278 : GoodIn sw_T (wsV RX10 278 RX10 yX10_hasBracket (.code yX10_hasBracket cX10_hasBracket 3 (some .boolean) :: sw_T)) := sw_goodV (sw_T_of (i := 1640) (by decide +kernel) rfl) (sw_T_of (i := 1642) (by decide +kernel) rfl) (sw_T_of (i := 64) (by decide +kernel) rfl) (sw_T_of (i := 114) (by decide +kernel) rfl) cd_X10_hasBracket
theorem gs_X10_281 : GoodIn sw_T (wsV RX10 281 RX10 yX10_close (.code yX10_close cX10_close 2 none :: sw_T)) := sw_goodV (sw_T_of (i := 1644) (by decide +kernel) rfl) (sw_T_of (i := 1646) (by decide +kernel) rfl) (sw_T_of (i := 65) (by decide +kernel) rfl) (sw_T_of (i := 114) (by decide +kernel) rfl) cd_X10_close
theorem gs_X10_284 : GoodIn sw_T (wsV RX10 284 RX10 yX10_hasRelation (.code yX10_hasRelation cX10_hasRelation 2 (some .boolean) :: sw_T)) := sw_goodV (sw_T_of (i := 1648) (by decide +kernel) rfl) (sw_T_of (i := 1650) (by decide +kernel) rfl) (sw_T_of (i := 66) (by decide +kernel) rfl) (sw_T_of (i := 114) (by decide +kernel) rfl) cd_X10_hasRelation
theorem gs_X10_287 : GoodIn sw_T (va_wsS RX10 287 yX10_truth (.code yX10_truth cX10_truth 1 (some .int) :: sw_T)) := sw_goodS (sw_T_of (i := 1757) (by decide +kernel) rfl) (sw_T_of (i := 1758) (by decide +kernel) rfl) (sw_T_of (i := 114) (by decide +kernel) rfl) cd_X10_truth
theorem gs_X10_294 : GoodIn sw_T (wsV RX10 294 RX10 yX10_allOf (.code yX10_allOf cX10_allOf 3 (some .int) :: sw_T)) := sw_goodV (sw_T_of (i := 1722) (by decide +kernel) rfl) (sw_T_of (i := 1724) (by decide +kernel) rfl) (sw_T_of (i := 77) (by decide +kernel) rfl) (sw_T_of (i := 114) (by decide +kernel) rfl) cd_X10_allOf
theorem gs_X10_297 : GoodIn sw_T (va_wsS RX10 297 yX10_greater (.code yX10_greater cX10_greater 2 (some .int) :: sw_T)) := sw_goodS (sw_T_of (i := 1750) (by decide +kernel) rfl) (sw_T_of (i := 1751) (by decide +kernel) rfl) (sw_T_of (i := 114) (by decide +kernel) rfl) cd_X10_greater
theorem gs_X10_300 : GoodIn sw_T (va_wsS RX10 300 yX10_lesser (.code yX10_lesser cX10_lesser 2 (some .int) :: sw_T)) := sw_goodS (sw_T_of (i := 1715) (by decide +kernel) rfl) (sw_T_of (i := 1716) (by decide +kernel) rfl) (sw_T_of (i := 114) (by decide +kernel) rfl) cd_X10_lesser
theorem gs_X10_303 : GoodIn sw_T (va_wsS RX10 303 yX10_members (.code yX10_members cX10_members 3 (some .int) :: sw_T)) := sw_goodS (sw_T_of (i := 1760) (by decide +kernel) rfl) (sw_T_of (i := 1761) (by decide +kernel) rfl) (sw_T_of (i := 114) (by decide +kernel) rfl) cd_X10_members
theorem gs_X10_312 : GoodIn sw_T (va_wsS RX10 312 yX10_done (.code yX10_done cX10_done 3 (some .int) :: sw_T)) := sw_goodS (sw_T_of (i := 1763) (by decide +kernel) rfl) (sw_T_of (i := 1764) (by decide +kernel) rfl) (sw_T_of (i := 114) (by decide +kernel) rfl) cd_X10_done
theorem gs_X10_316 : GoodIn sw_T (wsV RX10 316 RX10 yX10_newName (.code yX10_newName cX10_newName 3 none :: sw_T)) := sw_goodV (sw_T_of (i := 1531) (by decide +kernel) rfl) (sw_T_of (i := 1533) (by decide +kernel) rfl) (sw_T_of (i := 42) (by decide +kernel) rfl) (sw_T_of (i := 114) (by decide +kernel) rfl) cd_X10_newName
theorem gs_X10_319 : GoodIn sw_T (wsV RX10 319 RX10 yX10_oldKind (.code yX10_oldKind cX10_oldKind 1 (some .int) :: sw_T)) := sw_goodV (sw_T_of (i := 1585) (by decide +kernel) rfl) (sw_T_of (i := 1587) (by decide +kernel) rfl) (sw_T_of (i := 51) (by decide +kernel) rfl) (sw_T_of (i := 114) (by decide +kernel) rfl) cd_X10_oldKind
theorem gs_X10_325 : GoodIn sw_T (wsV RX10 325 RX10 yX10_readSome (.code yX10_readSome cX10_readSome 5 none :: sw_T)) := sw_goodV (sw_T_of (i := 1581) (by decide +kernel) rfl) (sw_T_of (i := 1583) (by decide +kernel) rfl) (sw_T_of (i := 50) (by decide +kernel) rfl) (sw_T_of (i := 114) (by decide +kernel) rfl) cd_X10_readSome
theorem gs_X10_332 : GoodIn sw_T (wsV RX10 332 RX10 yX10_readAllOf (.code yX10_readAllOf cX10_readAllOf 4 none :: sw_T)) := sw_goodV (sw_T_of (i := 1577) (by decide +kernel) rfl) (sw_T_of (i := 1579) (by decide +kernel) rfl) (sw_T_of (i := 49) (by decide +kernel) rfl) (sw_T_of (i := 114) (by decide +kernel) rfl) cd_X10_readAllOf
theorem gs_X10_344 : GoodIn sw_T (wsV RX10 344 RX10 yX10_readKind (.code yX10_readKind cX10_readKind 1 none :: sw_T)) := sw_goodV (sw_T_of (i := 1527) (by decide +kernel) rfl) (sw_T_of (i := 1529) (by decide +kernel) rfl) (sw_T_of (i := 41) (by decide +kernel) rfl) (sw_T_of (i := 114) (by decide +kernel) rfl) cd_X10_readKind
theorem gs_X10_347 : GoodIn sw_T (wsV RX10 347 RX10 yX10_readPerson (.code yX10_readPerson cX10_readPerson 1 none :: sw_T)) := sw_goodV (sw_T_of (i := 1569) (by decide +kernel) rfl) (sw_T_of (i := 1571) (by decide +kernel) rfl) (sw_T_of (i := 47) (by decide +kernel) rfl) (sw_T_of (i := 114) (by decide +kernel) rfl) cd_X10_readPerson
theorem gs_X10_350 : GoodIn sw_T (wsV RX10 350 RX10 yX10_readRule (.code yX10_readRule cX10_readRule 1 none :: sw_T)) := sw_goodV (sw_T_of (i := 1593) (by decide +kernel) rfl) (sw_T_of (i := 1595) (by decide +kernel) rfl) (sw_T_of (i := 53) (by decide +kernel) rfl) (sw_T_of (i := 114) (by decide +kernel) rfl) cd_X10_readRule
theorem gs_X10_353 : GoodIn sw_T (wsV RX10 353 RX10 yX10_readBasin (.code yX10_readBasin cX10_readBasin 1 none :: sw_T)) := sw_goodV (sw_T_of (i := 1597) (by decide +kernel) rfl) (sw_T_of (i := 1599) (by decide +kernel) rfl) (sw_T_of (i := 54) (by decide +kernel) rfl) (sw_T_of (i := 114) (by decide +kernel) rfl) cd_X10_readBasin
theorem gs_X10_356 : GoodIn sw_T (wsV RX10 356 RX10 yX10_formula (.code yX10_formula cX10_formula 3 none :: sw_T)) := sw_goodV (sw_T_of (i := 1601) (by decide +kernel) rfl) (sw_T_of (i := 1603) (by decide +kernel) rfl) (sw_T_of (i := 55) (by decide +kernel) rfl) (sw_T_of (i := 114) (by decide +kernel) rfl) cd_X10_formula
theorem gs_X10_362 : GoodIn sw_T (wsV RX10 362 RX10 yX10_told (.code yX10_told cX10_told 5 (some .int) :: sw_T)) := sw_goodV (sw_T_of (i := 1652) (by decide +kernel) rfl) (sw_T_of (i := 1654) (by decide +kernel) rfl) (sw_T_of (i := 67) (by decide +kernel) rfl) (sw_T_of (i := 114) (by decide +kernel) rfl) cd_X10_told
theorem gs_X10_375 : GoodIn sw_T (wsV RX10 375 RX10 yX10_readLine (.code yX10_readLine cX10_readLine 1 none :: sw_T)) := sw_goodV (sw_T_of (i := 1518) (by decide +kernel) rfl) (sw_T_of (i := 1520) (by decide +kernel) rfl) (sw_T_of (i := 39) (by decide +kernel) rfl) (sw_T_of (i := 114) (by decide +kernel) rfl) cd_X10_readLine
theorem gs_X10_378 : GoodIn sw_T (wsV RX10 378 RX10 yX10_readAll (.code yX10_readAll cX10_readAll 1 none :: sw_T)) := sw_goodV (sw_T_of (i := 1497) (by decide +kernel) rfl) (sw_T_of (i := 1499) (by decide +kernel) rfl) (sw_T_of (i := 36) (by decide +kernel) rfl) (sw_T_of (i := 114) (by decide +kernel) rfl) cd_X10_readAll
theorem gs_X10_411 : GoodIn sw_T (va_wsS RX10 411 yX10_isIn (.code yX10_isIn cX10_isIn 3 (some .boolean) :: sw_T)) := sw_goodS (sw_T_of (i := 1668) (by decide +kernel) rfl) (sw_T_of (i := 1669) (by decide +kernel) rfl) (sw_T_of (i := 114) (by decide +kernel) rfl) cd_X10_isIn
theorem gs_X10_415 : GoodIn sw_T (wsV RX10 415 RX10 yX10_tells (.code yX10_tells cX10_tells 3 none :: sw_T)) := sw_goodV (sw_T_of (i := 1711) (by decide +kernel) rfl) (sw_T_of (i := 1713) (by decide +kernel) rfl) (sw_T_of (i := 75) (by decide +kernel) rfl) (sw_T_of (i := 114) (by decide +kernel) rfl) cd_X10_tells
theorem gs_X10_418 : GoodIn sw_T (wsV RX10 418 RX10 yX10_makes (.code yX10_makes cX10_makes 5 (some .int) :: sw_T)) := sw_goodV (sw_T_of (i := 1742) (by decide +kernel) rfl) (sw_T_of (i := 1744) (by decide +kernel) rfl) (sw_T_of (i := 81) (by decide +kernel) rfl) (sw_T_of (i := 114) (by decide +kernel) rfl) cd_X10_makes
theorem gs_X10_421 : GoodIn sw_T (wsV RX10 421 RX10 yX10_boilBy (.code yX10_boilBy cX10_boilBy 5 none :: sw_T)) := sw_goodV (sw_T_of (i := 1738) (by decide +kernel) rfl) (sw_T_of (i := 1740) (by decide +kernel) rfl) (sw_T_of (i := 80) (by decide +kernel) rfl) (sw_T_of (i := 114) (by decide +kernel) rfl) cd_X10_boilBy
theorem gs_X10_424 : GoodIn sw_T (wsV RX10 424 RX10 yX10_boilAll (.code yX10_boilAll cX10_boilAll 2 none :: sw_T)) := sw_goodV (sw_T_of (i := 1734) (by decide +kernel) rfl) (sw_T_of (i := 1736) (by decide +kernel) rfl) (sw_T_of (i := 79) (by decide +kernel) rfl) (sw_T_of (i := 114) (by decide +kernel) rfl) cd_X10_boilAll
theorem gs_X10_427 : GoodIn sw_T (wsV RX10 427 RX10 yX10_skims (.code yX10_skims cX10_skims 2 none :: sw_T)) := sw_goodV (sw_T_of (i := 1746) (by decide +kernel) rfl) (sw_T_of (i := 1748) (by decide +kernel) rfl) (sw_T_of (i := 82) (by decide +kernel) rfl) (sw_T_of (i := 114) (by decide +kernel) rfl) cd_X10_skims
theorem gs_X10_430 : GoodIn sw_T (wsV RX10 430 RX10 yX10_isRisen (.code yX10_isRisen cX10_isRisen 3 (some .boolean) :: sw_T)) := sw_goodV (sw_T_of (i := 1753) (by decide +kernel) rfl) (sw_T_of (i := 1755) (by decide +kernel) rfl) (sw_T_of (i := 83) (by decide +kernel) rfl) (sw_T_of (i := 114) (by decide +kernel) rfl) cd_X10_isRisen
theorem gs_X10_433 : GoodIn sw_T (wsV RX10 433 RX10 yX10_isKind (.code yX10_isKind cX10_isKind 2 (some .boolean) :: sw_T)) := sw_goodV (sw_T_of (i := 1664) (by decide +kernel) rfl) (sw_T_of (i := 1666) (by decide +kernel) rfl) (sw_T_of (i := 68) (by decide +kernel) rfl) (sw_T_of (i := 114) (by decide +kernel) rfl) cd_X10_isKind
theorem gs_X10_436 : GoodIn sw_T (wsV RX10 436 RX10 yX10_isPerson (.code yX10_isPerson cX10_isPerson 2 (some .boolean) :: sw_T)) := sw_goodV (sw_T_of (i := 1675) (by decide +kernel) rfl) (sw_T_of (i := 1677) (by decide +kernel) rfl) (sw_T_of (i := 69) (by decide +kernel) rfl) (sw_T_of (i := 114) (by decide +kernel) rfl) cd_X10_isPerson
theorem gs_X10_439 : GoodIn sw_T (wsV RX10 439 RX10 yX10_isBasin (.code yX10_isBasin cX10_isBasin 2 (some .boolean) :: sw_T)) := sw_goodV (sw_T_of (i := 1683) (by decide +kernel) rfl) (sw_T_of (i := 1685) (by decide +kernel) rfl) (sw_T_of (i := 70) (by decide +kernel) rfl) (sw_T_of (i := 114) (by decide +kernel) rfl) cd_X10_isBasin
theorem gs_X10_442 : GoodIn sw_T (wsV RX10 442 RX10 yX10_isRule (.code yX10_isRule cX10_isRule 2 (some .boolean) :: sw_T)) := sw_goodV (sw_T_of (i := 1691) (by decide +kernel) rfl) (sw_T_of (i := 1693) (by decide +kernel) rfl) (sw_T_of (i := 71) (by decide +kernel) rfl) (sw_T_of (i := 114) (by decide +kernel) rfl) cd_X10_isRule
theorem gs_X10_445 : GoodIn sw_T (wsV RX10 445 RX10 yX10_fill (.code yX10_fill cX10_fill 2 none :: sw_T)) := sw_goodV (sw_T_of (i := 1707) (by decide +kernel) rfl) (sw_T_of (i := 1709) (by decide +kernel) rfl) (sw_T_of (i := 74) (by decide +kernel) rfl) (sw_T_of (i := 114) (by decide +kernel) rfl) cd_X10_fill
theorem gs_X10_448 : GoodIn sw_T (wsV RX10 448 RX10 yX10_hasTold (.code yX10_hasTold cX10_hasTold 2 (some .boolean) :: sw_T)) := sw_goodV (sw_T_of (i := 1699) (by decide +kernel) rfl) (sw_T_of (i := 1701) (by decide +kernel) rfl) (sw_T_of (i := 72) (by decide +kernel) rfl) (sw_T_of (i := 114) (by decide +kernel) rfl) cd_X10_hasTold
theorem gs_X10_451 : GoodIn sw_T (wsV RX10 451 RX10 yX10_act (.code yX10_act cX10_act 2 none :: sw_T)) := sw_goodV (sw_T_of (i := 1703) (by decide +kernel) rfl) (sw_T_of (i := 1705) (by decide +kernel) rfl) (sw_T_of (i := 73) (by decide +kernel) rfl) (sw_T_of (i := 114) (by decide +kernel) rfl) cd_X10_act
theorem gs_X10_454 : GoodIn sw_T (wsV RX10 454 RX10 yX10_keepAir (.code yX10_keepAir cX10_keepAir 2 none :: sw_T)) := sw_goodV (sw_T_of (i := 1718) (by decide +kernel) rfl) (sw_T_of (i := 1720) (by decide +kernel) rfl) (sw_T_of (i := 76) (by decide +kernel) rfl) (sw_T_of (i := 114) (by decide +kernel) rfl) cd_X10_keepAir
theorem gs_X10_457 : GoodIn sw_T (wsV RX10 457 RX10 yX10_goBoiling (.code yX10_goBoiling cX10_goBoiling 4 (some .boolean) :: sw_T)) := sw_goodV (sw_T_of (i := 1730) (by decide +kernel) rfl) (sw_T_of (i := 1732) (by decide +kernel) rfl) (sw_T_of (i := 78) (by decide +kernel) rfl) (sw_T_of (i := 114) (by decide +kernel) rfl) cd_X10_goBoiling
theorem gs_X10_461 : GoodIn sw_T (wsV RX10 461 RX10 yX10_isEased (.code yX10_isEased cX10_isEased 2 (some .boolean) :: sw_T)) := sw_goodV (sw_T_of (i := 1770) (by decide +kernel) rfl) (sw_T_of (i := 1772) (by decide +kernel) rfl) (sw_T_of (i := 84) (by decide +kernel) rfl) (sw_T_of (i := 114) (by decide +kernel) rfl) cd_X10_isEased
theorem gs_X10_464 : GoodIn sw_T (wsV RX10 464 RX10 yX10_holds (.code yX10_holds cX10_holds 4 (some .boolean) :: sw_T)) := sw_goodV (sw_T_of (i := 1774) (by decide +kernel) rfl) (sw_T_of (i := 1776) (by decide +kernel) rfl) (sw_T_of (i := 85) (by decide +kernel) rfl) (sw_T_of (i := 114) (by decide +kernel) rfl) cd_X10_holds
theorem gs_X10_467 : GoodIn sw_T (wsV RX10 467 RX10 yX10_exchange (.code yX10_exchange cX10_exchange 4 none :: sw_T)) := sw_goodV (sw_T_of (i := 1786) (by decide +kernel) rfl) (sw_T_of (i := 1788) (by decide +kernel) rfl) (sw_T_of (i := 86) (by decide +kernel) rfl) (sw_T_of (i := 114) (by decide +kernel) rfl) cd_X10_exchange
theorem gs_X10_470 : GoodIn sw_T (wsV RX10 470 RX10 yX10_risesIn (.code yX10_risesIn cX10_risesIn 3 (some .int) :: sw_T)) := sw_goodV (sw_T_of (i := 1802) (by decide +kernel) rfl) (sw_T_of (i := 1804) (by decide +kernel) rfl) (sw_T_of (i := 87) (by decide +kernel) rfl) (sw_T_of (i := 114) (by decide +kernel) rfl) cd_X10_risesIn
theorem gs_X10_473 : GoodIn sw_T (wsV RX10 473 RX10 yX10_silent (.code yX10_silent cX10_silent 1 (some .int) :: sw_T)) := sw_goodV (sw_T_of (i := 1814) (by decide +kernel) rfl) (sw_T_of (i := 1816) (by decide +kernel) rfl) (sw_T_of (i := 88) (by decide +kernel) rfl) (sw_T_of (i := 114) (by decide +kernel) rfl) cd_X10_silent
theorem gs_X10_476 : GoodIn sw_T (wsV RX10 476 RX10 yX10_tellAll (.code yX10_tellAll cX10_tellAll 3 none :: sw_T)) := sw_goodV (sw_T_of (i := 1818) (by decide +kernel) rfl) (sw_T_of (i := 1820) (by decide +kernel) rfl) (sw_T_of (i := 89) (by decide +kernel) rfl) (sw_T_of (i := 114) (by decide +kernel) rfl) cd_X10_tellAll
theorem gs_X10_479 : GoodIn sw_T (wsV RX10 479 RX10 yX10_risesWith (.code yX10_risesWith cX10_risesWith 2 (some .boolean) :: sw_T)) := sw_goodV (sw_T_of (i := 1826) (by decide +kernel) rfl) (sw_T_of (i := 1828) (by decide +kernel) rfl) (sw_T_of (i := 90) (by decide +kernel) rfl) (sw_T_of (i := 114) (by decide +kernel) rfl) cd_X10_risesWith
theorem gs_X10_482 : GoodIn sw_T (wsV RX10 482 RX10 yX10_lackOf (.code yX10_lackOf cX10_lackOf 4 (some .int) :: sw_T)) := sw_goodV (sw_T_of (i := 1846) (by decide +kernel) rfl) (sw_T_of (i := 1848) (by decide +kernel) rfl) (sw_T_of (i := 91) (by decide +kernel) rfl) (sw_T_of (i := 114) (by decide +kernel) rfl) cd_X10_lackOf
theorem gs_X10_485 : GoodIn sw_T (wsV RX10 485 RX10 yX10_swap (.code yX10_swap cX10_swap 4 none :: sw_T)) := sw_goodV (sw_T_of (i := 1862) (by decide +kernel) rfl) (sw_T_of (i := 1864) (by decide +kernel) rfl) (sw_T_of (i := 93) (by decide +kernel) rfl) (sw_T_of (i := 114) (by decide +kernel) rfl) cd_X10_swap
theorem gs_X10_488 : GoodIn sw_T (wsV RX10 488 RX10 yX10_nextRow (.code yX10_nextRow cX10_nextRow 5 (some .boolean) :: sw_T)) := sw_goodV (sw_T_of (i := 1858) (by decide +kernel) rfl) (sw_T_of (i := 1860) (by decide +kernel) rfl) (sw_T_of (i := 92) (by decide +kernel) rfl) (sw_T_of (i := 114) (by decide +kernel) rfl) cd_X10_nextRow
theorem gs_X10_491 : GoodIn sw_T (wsV RX10 491 RX10 yX10_comesOf (.code yX10_comesOf cX10_comesOf 4 (some .int) :: sw_T)) := sw_goodV (sw_T_of (i := 1870) (by decide +kernel) rfl) (sw_T_of (i := 1872) (by decide +kernel) rfl) (sw_T_of (i := 94) (by decide +kernel) rfl) (sw_T_of (i := 114) (by decide +kernel) rfl) cd_X10_comesOf
theorem gs_X10_494 : GoodIn sw_T (wsV RX10 494 RX10 yX10_mindOf (.code yX10_mindOf cX10_mindOf 4 (some .int) :: sw_T)) := sw_goodV (sw_T_of (i := 1882) (by decide +kernel) rfl) (sw_T_of (i := 1884) (by decide +kernel) rfl) (sw_T_of (i := 95) (by decide +kernel) rfl) (sw_T_of (i := 114) (by decide +kernel) rfl) cd_X10_mindOf
theorem gs_X10_497 : GoodIn sw_T (va_wsS RX10 497 yX10_raised (.code yX10_raised cX10_raised 4 (some .int) :: sw_T)) := sw_goodS (sw_T_of (i := 1934) (by decide +kernel) rfl) (sw_T_of (i := 1935) (by decide +kernel) rfl) (sw_T_of (i := 114) (by decide +kernel) rfl) cd_X10_raised
theorem gs_X10_500 : GoodIn sw_T (va_wsS RX10 500 yX10_divisor (.code yX10_divisor cX10_divisor 5 (some .int) :: sw_T)) := sw_goodS (sw_T_of (i := 1937) (by decide +kernel) rfl) (sw_T_of (i := 1938) (by decide +kernel) rfl) (sw_T_of (i := 114) (by decide +kernel) rfl) cd_X10_divisor
theorem gs_X10_507 : GoodIn sw_T (wsV RX10 507 RX10 yX10_fitsMuch (.code yX10_fitsMuch cX10_fitsMuch 5 (some .boolean) :: sw_T)) := sw_goodV (sw_T_of (i := 1965) (by decide +kernel) rfl) (sw_T_of (i := 1967) (by decide +kernel) rfl) (sw_T_of (i := 97) (by decide +kernel) rfl) (sw_T_of (i := 114) (by decide +kernel) rfl) cd_X10_fitsMuch
theorem gs_X10_511 : GoodIn sw_T (wsV RX10 511 RX10 yX10_layFits (.code yX10_layFits cX10_layFits 6 (some .int) :: sw_T)) := sw_goodV (sw_T_of (i := 1961) (by decide +kernel) rfl) (sw_T_of (i := 1963) (by decide +kernel) rfl) (sw_T_of (i := 96) (by decide +kernel) rfl) (sw_T_of (i := 114) (by decide +kernel) rfl) cd_X10_layFits
theorem gs_X10_514 : GoodIn sw_T (wsV RX10 514 RX10 yX10_leftBy (.code yX10_leftBy cX10_leftBy 6 (some .int) :: sw_T)) := sw_goodV (sw_T_of (i := 1977) (by decide +kernel) rfl) (sw_T_of (i := 1979) (by decide +kernel) rfl) (sw_T_of (i := 98) (by decide +kernel) rfl) (sw_T_of (i := 114) (by decide +kernel) rfl) cd_X10_leftBy
theorem gs_X10_517 : GoodIn sw_T (va_wsS RX10 517 yX10_isBox (.code yX10_isBox cX10_isBox 1 (some .boolean) :: sw_T)) := sw_goodS (sw_T_of (i := 1985) (by decide +kernel) rfl) (sw_T_of (i := 1986) (by decide +kernel) rfl) (sw_T_of (i := 114) (by decide +kernel) rfl) cd_X10_isBox
theorem gs_J0_495 : GoodIn sw_T (va_wsS RJ0 495 yJ1_charAt_3b067 (.code yJ1_charAt_3b067 cJ1_charAt_3b067 2 (some .char) :: sw_T)) := sw_goodS (sw_T_of (i := 162) (by decide +kernel) rfl) (sw_T_of (i := 163) (by decide +kernel) rfl) (sw_T_of (i := 104) (by decide +kernel) rfl) cd_J1_charAt_3b067
theorem gs_J0_498 : GoodIn sw_T (va_wsS RJ0 498 yJ2_charAt_3b067 (.code yJ2_charAt_3b067 cJ2_charAt_3b067 2 (some .char) :: sw_T)) := sw_goodS (sw_T_of (i := 173) (by decide +kernel) rfl) (sw_T_of (i := 174) (by decide +kernel) rfl) (sw_T_of (i := 106) (by decide +kernel) rfl) cd_J2_charAt_3b067
theorem gs_J0_637 : GoodIn sw_T (va_wsS RJ0 637 yJ1_indexOf_4cfef (.code yJ1_indexOf_4cfef cJ1_indexOf_4cfef 4 (some .int) :: sw_T)) := sw_goodS (sw_T_of (i := 602) (by decide +kernel) rfl) (sw_T_of (i := 603) (by decide +kernel) rfl) (sw_T_of (i := 104) (by decide +kernel) rfl) cd_J1_indexOf_4cfef
theorem gs_J0_640 : GoodIn sw_T (va_wsS RJ0 640 yJ2_indexOf_4cfef (.code yJ2_indexOf_4cfef cJ2_indexOf_4cfef 4 (some .int) :: sw_T)) := sw_goodS (sw_T_of (i := 617) (by decide +kernel) rfl) (sw_T_of (i := 618) (by decide +kernel) rfl) (sw_T_of (i := 106) (by decide +kernel) rfl) cd_J2_indexOf_4cfef
theorem gs_J0_1059 : GoodIn sw_T (va_wsS RJ0 1059 yJ3_checkIndex_8e157 (.code yJ3_checkIndex_8e157 cJ3_checkIndex_8e157 3 (some .int) :: sw_T)) := sw_goodS (sw_T_of (i := 170) (by decide +kernel) rfl) (sw_T_of (i := 171) (by decide +kernel) rfl) (sw_T_of (i := 105) (by decide +kernel) rfl) cd_J3_checkIndex_8e157
theorem gs_J0_1062 : GoodIn sw_T (va_wsS RJ0 1062 yJ3_checkFromToIndex_8c36e (.code yJ3_checkFromToIndex_8c36e cJ3_checkFromToIndex_8c36e 4 (some .int) :: sw_T)) := sw_goodS (sw_T_of (i := 632) (by decide +kernel) rfl) (sw_T_of (i := 633) (by decide +kernel) rfl) (sw_T_of (i := 105) (by decide +kernel) rfl) cd_J3_checkFromToIndex_8c36e
theorem gs_J1_9 : GoodIn sw_T (va_wsS RJ1 9 yJ0_checkIndex_df160 (.code yJ0_checkIndex_df160 cJ0_checkIndex_df160 2 none :: sw_T)) := sw_goodS (sw_T_of (i := 165) (by decide +kernel) rfl) (sw_T_of (i := 166) (by decide +kernel) rfl) (sw_T_of (i := 103) (by decide +kernel) rfl) cd_J0_checkIndex_df160
theorem gs_J1_38 : GoodIn sw_T (va_wsS RJ1 38 yJ9_min_7cf53 (.code yJ9_min_7cf53 cJ9_min_7cf53 2 (some .int) :: sw_T)) := sw_goodS (sw_T_of (i := 611) (by decide +kernel) rfl) (sw_T_of (i := 612) (by decide +kernel) rfl) (sw_T_of (i := 116) (by decide +kernel) rfl) cd_J9_min_7cf53
theorem gs_J1_88 : GoodIn sw_T (va_wsS RJ1 88 yJ1_canEncode_9a6ad (.code yJ1_canEncode_9a6ad cJ1_canEncode_9a6ad 1 (some .boolean) :: sw_T)) := sw_goodS (sw_T_of (i := 605) (by decide +kernel) rfl) (sw_T_of (i := 606) (by decide +kernel) rfl) (sw_T_of (i := 104) (by decide +kernel) rfl) cd_J1_canEncode_9a6ad
theorem gs_J1_92 : GoodIn sw_T (va_wsS RJ1 92 yJ9_max_7cf53 (.code yJ9_max_7cf53 cJ9_max_7cf53 2 (some .int) :: sw_T)) := sw_goodS (sw_T_of (i := 608) (by decide +kernel) rfl) (sw_T_of (i := 609) (by decide +kernel) rfl) (sw_T_of (i := 116) (by decide +kernel) rfl) cd_J9_max_7cf53
theorem gs_J1_95 : GoodIn sw_T (va_wsS RJ1 95 yJ1_indexOfChar_4cfef (.code yJ1_indexOfChar_4cfef cJ1_indexOfChar_4cfef 6 (some .int) :: sw_T)) := sw_goodS (sw_T_of (i := 614) (by decide +kernel) rfl) (sw_T_of (i := 615) (by decide +kernel) rfl) (sw_T_of (i := 104) (by decide +kernel) rfl) cd_J1_indexOfChar_4cfef
theorem gs_J2_48 : GoodIn sw_T (va_wsS RJ2 48 yJ2_length_9d52b (.code yJ2_length_9d52b cJ2_length_9d52b 1 (some .int) :: sw_T)) := sw_goodS (sw_T_of (i := 179) (by decide +kernel) rfl) (sw_T_of (i := 180) (by decide +kernel) rfl) (sw_T_of (i := 106) (by decide +kernel) rfl) cd_J2_length_9d52b
theorem gs_J2_67 : GoodIn sw_T (va_wsS RJ2 67 yJ2_checkIndex_2214a (.code yJ2_checkIndex_2214a cJ2_checkIndex_2214a 2 none :: sw_T)) := sw_goodS (sw_T_of (i := 176) (by decide +kernel) rfl) (sw_T_of (i := 177) (by decide +kernel) rfl) (sw_T_of (i := 106) (by decide +kernel) rfl) cd_J2_checkIndex_2214a
theorem gs_J2_71 : GoodIn sw_T (va_wsS RJ2 71 yJ2_getChar_3b067 (.code yJ2_getChar_3b067 cJ2_getChar_3b067 2 (some .char) :: sw_T)) := sw_goodS (sw_T_of (i := 183) (by decide +kernel) rfl) (sw_T_of (i := 184) (by decide +kernel) rfl) (sw_T_of (i := 106) (by decide +kernel) rfl) cd_J2_getChar_3b067
theorem gs_J2_96 : GoodIn sw_T (va_wsS RJ2 96 yJ2_checkBoundsBeginEnd_d044e (.code yJ2_checkBoundsBeginEnd_d044e cJ2_checkBoundsBeginEnd_d044e 3 none :: sw_T)) := sw_goodS (sw_T_of (i := 626) (by decide +kernel) rfl) (sw_T_of (i := 627) (by decide +kernel) rfl) (sw_T_of (i := 106) (by decide +kernel) rfl) cd_J2_checkBoundsBeginEnd_d044e
theorem gs_J2_157 : GoodIn sw_T (va_wsS RJ2 157 yJ11_highSurrogate_5068e (.code yJ11_highSurrogate_5068e cJ11_highSurrogate_5068e 1 (some .char) :: sw_T)) := sw_goodS (sw_T_of (i := 644) (by decide +kernel) rfl) (sw_T_of (i := 645) (by decide +kernel) rfl) (sw_T_of (i := 117) (by decide +kernel) rfl) cd_J11_highSurrogate_5068e
theorem gs_J2_161 : GoodIn sw_T (va_wsS RJ2 161 yJ11_lowSurrogate_5068e (.code yJ11_lowSurrogate_5068e cJ11_lowSurrogate_5068e 1 (some .char) :: sw_T)) := sw_goodS (sw_T_of (i := 648) (by decide +kernel) rfl) (sw_T_of (i := 649) (by decide +kernel) rfl) (sw_T_of (i := 117) (by decide +kernel) rfl) cd_J11_lowSurrogate_5068e
theorem gs_J2_164 : GoodIn sw_T (va_wsS RJ2 164 yJ11_isValidCodePoint_9a6ad (.code yJ11_isValidCodePoint_9a6ad cJ11_isValidCodePoint_9a6ad 2 (some .boolean) :: sw_T)) := sw_goodS (sw_T_of (i := 641) (by decide +kernel) rfl) (sw_T_of (i := 642) (by decide +kernel) rfl) (sw_T_of (i := 117) (by decide +kernel) rfl) cd_J11_isValidCodePoint_9a6ad
theorem gs_J2_183 : GoodIn sw_T (va_wsS RJ2 183 yJ9_min_7cf53 (.code yJ9_min_7cf53 cJ9_min_7cf53 2 (some .int) :: sw_T)) := sw_goodS (sw_T_of (i := 621) (by decide +kernel) rfl) (sw_T_of (i := 612) (by decide +kernel) rfl) (sw_T_of (i := 116) (by decide +kernel) rfl) cd_J9_min_7cf53
theorem gs_J2_224 : GoodIn sw_T (va_wsS RJ2 224 yJ9_max_7cf53 (.code yJ9_max_7cf53 cJ9_max_7cf53 2 (some .int) :: sw_T)) := sw_goodS (sw_T_of (i := 620) (by decide +kernel) rfl) (sw_T_of (i := 609) (by decide +kernel) rfl) (sw_T_of (i := 116) (by decide +kernel) rfl) cd_J9_max_7cf53
theorem gs_J2_228 : GoodIn sw_T (va_wsS RJ2 228 yJ2_indexOfChar_4cfef (.code yJ2_indexOfChar_4cfef cJ2_indexOfChar_4cfef 4 (some .int) :: sw_T)) := sw_goodS (sw_T_of (i := 623) (by decide +kernel) rfl) (sw_T_of (i := 624) (by decide +kernel) rfl) (sw_T_of (i := 106) (by decide +kernel) rfl) cd_J2_indexOfChar_4cfef
theorem gs_J2_232 : GoodIn sw_T (va_wsS RJ2 232 yJ2_indexOfSupplementary_4cfef (.code yJ2_indexOfSupplementary_4cfef cJ2_indexOfSupplementary_4cfef 7 (some .int) :: sw_T)) := sw_goodS (sw_T_of (i := 638) (by decide +kernel) rfl) (sw_T_of (i := 639) (by decide +kernel) rfl) (sw_T_of (i := 106) (by decide +kernel) rfl) cd_J2_indexOfSupplementary_4cfef
theorem gs_J2_241 : GoodIn sw_T (va_wsS RJ2 241 yJ0_checkBoundsBeginEnd_23922 (.code yJ0_checkBoundsBeginEnd_23922 cJ0_checkBoundsBeginEnd_23922 3 none :: sw_T)) := sw_goodS (sw_T_of (i := 629) (by decide +kernel) rfl) (sw_T_of (i := 630) (by decide +kernel) rfl) (sw_T_of (i := 103) (by decide +kernel) rfl) cd_J0_checkBoundsBeginEnd_23922
theorem gs_J2_244 : GoodIn sw_T (va_wsS RJ2 244 yJ2_indexOfCharUnsafe_4cfef (.code yJ2_indexOfCharUnsafe_4cfef cJ2_indexOfCharUnsafe_4cfef 5 (some .int) :: sw_T)) := sw_goodS (sw_T_of (i := 635) (by decide +kernel) rfl) (sw_T_of (i := 636) (by decide +kernel) rfl) (sw_T_of (i := 106) (by decide +kernel) rfl) cd_J2_indexOfCharUnsafe_4cfef
theorem gs_J2_414 : GoodIn sw_T (va_wsS RJ2 414 yJ0_checkIndex_df160 (.code yJ0_checkIndex_df160 cJ0_checkIndex_df160 2 none :: sw_T)) := sw_goodS (sw_T_of (i := 182) (by decide +kernel) rfl) (sw_T_of (i := 166) (by decide +kernel) rfl) (sw_T_of (i := 103) (by decide +kernel) rfl) cd_J0_checkIndex_df160
theorem hy_J0_checkBoundsBeginEnd_23922 : yJ0_checkBoundsBeginEnd_23922.cls ≠ "java/lang/invoke/MethodHandle" ∧ yJ0_checkBoundsBeginEnd_23922.cls ≠ "java/lang/invoke/VarHandle" ∧ (parseMethodDescriptor yJ0_checkBoundsBeginEnd_23922.desc).map (fun d => d.parameters.length) = some 3 := by decide +kernel
theorem hy_J0_checkIndex_df160 : yJ0_checkIndex_df160.cls ≠ "java/lang/invoke/MethodHandle" ∧ yJ0_checkIndex_df160.cls ≠ "java/lang/invoke/VarHandle" ∧ (parseMethodDescriptor yJ0_checkIndex_df160.desc).map (fun d => d.parameters.length) = some 2 := by decide +kernel
theorem hy_J11_highSurrogate_5068e : yJ11_highSurrogate_5068e.cls ≠ "java/lang/invoke/MethodHandle" ∧ yJ11_highSurrogate_5068e.cls ≠ "java/lang/invoke/VarHandle" ∧ (parseMethodDescriptor yJ11_highSurrogate_5068e.desc).map (fun d => d.parameters.length) = some 1 := by decide +kernel
theorem hy_J11_isValidCodePoint_9a6ad : yJ11_isValidCodePoint_9a6ad.cls ≠ "java/lang/invoke/MethodHandle" ∧ yJ11_isValidCodePoint_9a6ad.cls ≠ "java/lang/invoke/VarHandle" ∧ (parseMethodDescriptor yJ11_isValidCodePoint_9a6ad.desc).map (fun d => d.parameters.length) = some 1 := by decide +kernel
theorem hy_J11_lowSurrogate_5068e : yJ11_lowSurrogate_5068e.cls ≠ "java/lang/invoke/MethodHandle" ∧ yJ11_lowSurrogate_5068e.cls ≠ "java/lang/invoke/VarHandle" ∧ (parseMethodDescriptor yJ11_lowSurrogate_5068e.desc).map (fun d => d.parameters.length) = some 1 := by decide +kernel
theorem hy_J1_canEncode_9a6ad : yJ1_canEncode_9a6ad.cls ≠ "java/lang/invoke/MethodHandle" ∧ yJ1_canEncode_9a6ad.cls ≠ "java/lang/invoke/VarHandle" ∧ (parseMethodDescriptor yJ1_canEncode_9a6ad.desc).map (fun d => d.parameters.length) = some 1 := by decide +kernel
theorem hy_J1_charAt_3b067 : yJ1_charAt_3b067.cls ≠ "java/lang/invoke/MethodHandle" ∧ yJ1_charAt_3b067.cls ≠ "java/lang/invoke/VarHandle" ∧ (parseMethodDescriptor yJ1_charAt_3b067.desc).map (fun d => d.parameters.length) = some 2 := by decide +kernel
theorem hy_J1_indexOfChar_4cfef : yJ1_indexOfChar_4cfef.cls ≠ "java/lang/invoke/MethodHandle" ∧ yJ1_indexOfChar_4cfef.cls ≠ "java/lang/invoke/VarHandle" ∧ (parseMethodDescriptor yJ1_indexOfChar_4cfef.desc).map (fun d => d.parameters.length) = some 4 := by decide +kernel
theorem hy_J1_indexOf_4cfef : yJ1_indexOf_4cfef.cls ≠ "java/lang/invoke/MethodHandle" ∧ yJ1_indexOf_4cfef.cls ≠ "java/lang/invoke/VarHandle" ∧ (parseMethodDescriptor yJ1_indexOf_4cfef.desc).map (fun d => d.parameters.length) = some 4 := by decide +kernel
theorem hy_J2_charAt_3b067 : yJ2_charAt_3b067.cls ≠ "java/lang/invoke/MethodHandle" ∧ yJ2_charAt_3b067.cls ≠ "java/lang/invoke/VarHandle" ∧ (parseMethodDescriptor yJ2_charAt_3b067.desc).map (fun d => d.parameters.length) = some 2 := by decide +kernel
theorem hy_J2_checkBoundsBeginEnd_d044e : yJ2_checkBoundsBeginEnd_d044e.cls ≠ "java/lang/invoke/MethodHandle" ∧ yJ2_checkBoundsBeginEnd_d044e.cls ≠ "java/lang/invoke/VarHandle" ∧ (parseMethodDescriptor yJ2_checkBoundsBeginEnd_d044e.desc).map (fun d => d.parameters.length) = some 3 := by decide +kernel
theorem hy_J2_checkIndex_2214a : yJ2_checkIndex_2214a.cls ≠ "java/lang/invoke/MethodHandle" ∧ yJ2_checkIndex_2214a.cls ≠ "java/lang/invoke/VarHandle" ∧ (parseMethodDescriptor yJ2_checkIndex_2214a.desc).map (fun d => d.parameters.length) = some 2 := by decide +kernel
theorem hy_J2_getChar_3b067 : yJ2_getChar_3b067.cls ≠ "java/lang/invoke/MethodHandle" ∧ yJ2_getChar_3b067.cls ≠ "java/lang/invoke/VarHandle" ∧ (parseMethodDescriptor yJ2_getChar_3b067.desc).map (fun d => d.parameters.length) = some 2 := by decide +kernel
theorem hy_J2_indexOfCharUnsafe_4cfef : yJ2_indexOfCharUnsafe_4cfef.cls ≠ "java/lang/invoke/MethodHandle" ∧ yJ2_indexOfCharUnsafe_4cfef.cls ≠ "java/lang/invoke/VarHandle" ∧ (parseMethodDescriptor yJ2_indexOfCharUnsafe_4cfef.desc).map (fun d => d.parameters.length) = some 4 := by decide +kernel
theorem hy_J2_indexOfChar_4cfef : yJ2_indexOfChar_4cfef.cls ≠ "java/lang/invoke/MethodHandle" ∧ yJ2_indexOfChar_4cfef.cls ≠ "java/lang/invoke/VarHandle" ∧ (parseMethodDescriptor yJ2_indexOfChar_4cfef.desc).map (fun d => d.parameters.length) = some 4 := by decide +kernel
theorem hy_J2_indexOfSupplementary_4cfef : yJ2_indexOfSupplementary_4cfef.cls ≠ "java/lang/invoke/MethodHandle" ∧ yJ2_indexOfSupplementary_4cfef.cls ≠ "java/lang/invoke/VarHandle" ∧ (parseMethodDescriptor yJ2_indexOfSupplementary_4cfef.desc).map (fun d => d.parameters.length) = some 4 := by decide +kernel
theorem hy_J2_indexOf_4cfef : yJ2_indexOf_4cfef.cls ≠ "java/lang/invoke/MethodHandle" ∧ yJ2_indexOf_4cfef.cls ≠ "java/lang/invoke/VarHandle" ∧ (parseMethodDescriptor yJ2_indexOf_4cfef.desc).map (fun d => d.parameters.length) = some 4 := by decide +kernel
theorem hy_J2_length_9d52b : yJ2_length_9d52b.cls ≠ "java/lang/invoke/MethodHandle" ∧ yJ2_length_9d52b.cls ≠ "java/lang/invoke/VarHandle" ∧ (parseMethodDescriptor yJ2_length_9d52b.desc).map (fun d => d.parameters.length) = some 1 := by decide +kernel
theorem hy_J3_checkFromToIndex_8c36e : yJ3_checkFromToIndex_8c36e.cls ≠ "java/lang/invoke/MethodHandle" ∧ yJ3_checkFromToIndex_8c36e.cls ≠ "java/lang/invoke/VarHandle" ∧ (parseMethodDescriptor yJ3_checkFromToIndex_8c36e.desc).map (fun d => d.parameters.length) = some 4 := by decide +kernel
theorem hy_J3_checkIndex_8e157 : yJ3_checkIndex_8e157.cls ≠ "java/lang/invoke/MethodHandle" ∧ yJ3_checkIndex_8e157.cls ≠ "java/lang/invoke/VarHandle" ∧ (parseMethodDescriptor yJ3_checkIndex_8e157.desc).map (fun d => d.parameters.length) = some 3 := by decide +kernel
theorem hy_J6_bitCount_0f7a4 : yJ6_bitCount_0f7a4.cls ≠ "java/lang/invoke/MethodHandle" ∧ yJ6_bitCount_0f7a4.cls ≠ "java/lang/invoke/VarHandle" ∧ (parseMethodDescriptor yJ6_bitCount_0f7a4.desc).map (fun d => d.parameters.length) = some 1 := by decide +kernel
theorem hy_J6_numberOfLeadingZeros_0f7a4 : yJ6_numberOfLeadingZeros_0f7a4.cls ≠ "java/lang/invoke/MethodHandle" ∧ yJ6_numberOfLeadingZeros_0f7a4.cls ≠ "java/lang/invoke/VarHandle" ∧ (parseMethodDescriptor yJ6_numberOfLeadingZeros_0f7a4.desc).map (fun d => d.parameters.length) = some 1 := by decide +kernel
theorem hy_J6_numberOfTrailingZeros_0f7a4 : yJ6_numberOfTrailingZeros_0f7a4.cls ≠ "java/lang/invoke/MethodHandle" ∧ yJ6_numberOfTrailingZeros_0f7a4.cls ≠ "java/lang/invoke/VarHandle" ∧ (parseMethodDescriptor yJ6_numberOfTrailingZeros_0f7a4.desc).map (fun d => d.parameters.length) = some 1 := by decide +kernel
theorem hy_J7_fill_53178 : yJ7_fill_53178.cls ≠ "java/lang/invoke/MethodHandle" ∧ yJ7_fill_53178.cls ≠ "java/lang/invoke/VarHandle" ∧ (parseMethodDescriptor yJ7_fill_53178.desc).map (fun d => d.parameters.length) = some 2 := by decide +kernel
theorem hy_J9_max_7cf53 : yJ9_max_7cf53.cls ≠ "java/lang/invoke/MethodHandle" ∧ yJ9_max_7cf53.cls ≠ "java/lang/invoke/VarHandle" ∧ (parseMethodDescriptor yJ9_max_7cf53.desc).map (fun d => d.parameters.length) = some 2 := by decide +kernel
theorem hy_J9_min_7cf53 : yJ9_min_7cf53.cls ≠ "java/lang/invoke/MethodHandle" ∧ yJ9_min_7cf53.cls ≠ "java/lang/invoke/VarHandle" ∧ (parseMethodDescriptor yJ9_min_7cf53.desc).map (fun d => d.parameters.length) = some 2 := by decide +kernel
theorem hy_X0_doAgain : yX0_doAgain.cls = RX0 ∧ yX0_doAgain.cls ≠ "java/lang/invoke/MethodHandle" ∧ yX0_doAgain.cls ≠ "java/lang/invoke/VarHandle" ∧ (parseMethodDescriptor yX0_doAgain.desc).map (fun d => d.parameters.length) = some 1 := by decide +kernel
theorem hy_X0_forget : yX0_forget.cls = RX0 ∧ yX0_forget.cls ≠ "java/lang/invoke/MethodHandle" ∧ yX0_forget.cls ≠ "java/lang/invoke/VarHandle" ∧ (parseMethodDescriptor yX0_forget.desc).map (fun d => d.parameters.length) = some 0 := by decide +kernel
theorem hy_X0_keep : yX0_keep.cls = RX0 ∧ yX0_keep.cls ≠ "java/lang/invoke/MethodHandle" ∧ yX0_keep.cls ≠ "java/lang/invoke/VarHandle" ∧ (parseMethodDescriptor yX0_keep.desc).map (fun d => d.parameters.length) = some 1 := by decide +kernel
theorem hy_X0_redoable : yX0_redoable.cls = RX0 ∧ yX0_redoable.cls ≠ "java/lang/invoke/MethodHandle" ∧ yX0_redoable.cls ≠ "java/lang/invoke/VarHandle" ∧ (parseMethodDescriptor yX0_redoable.desc).map (fun d => d.parameters.length) = some 0 := by decide +kernel
theorem hy_X0_takeBack : yX0_takeBack.cls = RX0 ∧ yX0_takeBack.cls ≠ "java/lang/invoke/MethodHandle" ∧ yX0_takeBack.cls ≠ "java/lang/invoke/VarHandle" ∧ (parseMethodDescriptor yX0_takeBack.desc).map (fun d => d.parameters.length) = some 1 := by decide +kernel
theorem hy_X0_undoable : yX0_undoable.cls = RX0 ∧ yX0_undoable.cls ≠ "java/lang/invoke/MethodHandle" ∧ yX0_undoable.cls ≠ "java/lang/invoke/VarHandle" ∧ (parseMethodDescriptor yX0_undoable.desc).map (fun d => d.parameters.length) = some 0 := by decide +kernel
theorem hy_X10_about : yX10_about.cls = RX10 ∧ yX10_about.cls ≠ "java/lang/invoke/MethodHandle" ∧ yX10_about.cls ≠ "java/lang/invoke/VarHandle" ∧ (parseMethodDescriptor yX10_about.desc).map (fun d => d.parameters.length) = some 1 := by decide +kernel
theorem hy_X10_act : yX10_act.cls = RX10 ∧ yX10_act.cls ≠ "java/lang/invoke/MethodHandle" ∧ yX10_act.cls ≠ "java/lang/invoke/VarHandle" ∧ (parseMethodDescriptor yX10_act.desc).map (fun d => d.parameters.length) = some 0 := by decide +kernel
theorem hy_X10_add : yX10_add.cls = RX10 ∧ yX10_add.cls ≠ "java/lang/invoke/MethodHandle" ∧ yX10_add.cls ≠ "java/lang/invoke/VarHandle" ∧ (parseMethodDescriptor yX10_add.desc).map (fun d => d.parameters.length) = some 2 := by decide +kernel
theorem hy_X10_alive : yX10_alive.cls = RX10 ∧ yX10_alive.cls ≠ "java/lang/invoke/MethodHandle" ∧ yX10_alive.cls ≠ "java/lang/invoke/VarHandle" ∧ (parseMethodDescriptor yX10_alive.desc).map (fun d => d.parameters.length) = some 0 := by decide +kernel
theorem hy_X10_allOf : yX10_allOf.cls = RX10 ∧ yX10_allOf.cls ≠ "java/lang/invoke/MethodHandle" ∧ yX10_allOf.cls ≠ "java/lang/invoke/VarHandle" ∧ (parseMethodDescriptor yX10_allOf.desc).map (fun d => d.parameters.length) = some 0 := by decide +kernel
theorem hy_X10_ask : yX10_ask.cls = RX10 ∧ yX10_ask.cls ≠ "java/lang/invoke/MethodHandle" ∧ yX10_ask.cls ≠ "java/lang/invoke/VarHandle" ∧ (parseMethodDescriptor yX10_ask.desc).map (fun d => d.parameters.length) = some 3 := by decide +kernel
theorem hy_X10_asked : yX10_asked.cls = RX10 ∧ yX10_asked.cls ≠ "java/lang/invoke/MethodHandle" ∧ yX10_asked.cls ≠ "java/lang/invoke/VarHandle" ∧ (parseMethodDescriptor yX10_asked.desc).map (fun d => d.parameters.length) = some 0 := by decide +kernel
theorem hy_X10_back : yX10_back.cls = RX10 ∧ yX10_back.cls ≠ "java/lang/invoke/MethodHandle" ∧ yX10_back.cls ≠ "java/lang/invoke/VarHandle" ∧ (parseMethodDescriptor yX10_back.desc).map (fun d => d.parameters.length) = some 1 := by decide +kernel
theorem hy_X10_balm : yX10_balm.cls = RX10 ∧ yX10_balm.cls ≠ "java/lang/invoke/MethodHandle" ∧ yX10_balm.cls ≠ "java/lang/invoke/VarHandle" ∧ (parseMethodDescriptor yX10_balm.desc).map (fun d => d.parameters.length) = some 2 := by decide +kernel
theorem hy_X10_boil : yX10_boil.cls = RX10 ∧ yX10_boil.cls ≠ "java/lang/invoke/MethodHandle" ∧ yX10_boil.cls ≠ "java/lang/invoke/VarHandle" ∧ (parseMethodDescriptor yX10_boil.desc).map (fun d => d.parameters.length) = some 0 := by decide +kernel
theorem hy_X10_boilAll : yX10_boilAll.cls = RX10 ∧ yX10_boilAll.cls ≠ "java/lang/invoke/MethodHandle" ∧ yX10_boilAll.cls ≠ "java/lang/invoke/VarHandle" ∧ (parseMethodDescriptor yX10_boilAll.desc).map (fun d => d.parameters.length) = some 0 := by decide +kernel
theorem hy_X10_boilBy : yX10_boilBy.cls = RX10 ∧ yX10_boilBy.cls ≠ "java/lang/invoke/MethodHandle" ∧ yX10_boilBy.cls ≠ "java/lang/invoke/VarHandle" ∧ (parseMethodDescriptor yX10_boilBy.desc).map (fun d => d.parameters.length) = some 2 := by decide +kernel
theorem hy_X10_choir : yX10_choir.cls = RX10 ∧ yX10_choir.cls ≠ "java/lang/invoke/MethodHandle" ∧ yX10_choir.cls ≠ "java/lang/invoke/VarHandle" ∧ (parseMethodDescriptor yX10_choir.desc).map (fun d => d.parameters.length) = some 2 := by decide +kernel
theorem hy_X10_close : yX10_close.cls = RX10 ∧ yX10_close.cls ≠ "java/lang/invoke/MethodHandle" ∧ yX10_close.cls ≠ "java/lang/invoke/VarHandle" ∧ (parseMethodDescriptor yX10_close.desc).map (fun d => d.parameters.length) = some 1 := by decide +kernel
theorem hy_X10_comes : yX10_comes.cls = RX10 ∧ yX10_comes.cls ≠ "java/lang/invoke/MethodHandle" ∧ yX10_comes.cls ≠ "java/lang/invoke/VarHandle" ∧ (parseMethodDescriptor yX10_comes.desc).map (fun d => d.parameters.length) = some 1 := by decide +kernel
theorem hy_X10_comesOf : yX10_comesOf.cls = RX10 ∧ yX10_comesOf.cls ≠ "java/lang/invoke/MethodHandle" ∧ yX10_comesOf.cls ≠ "java/lang/invoke/VarHandle" ∧ (parseMethodDescriptor yX10_comesOf.desc).map (fun d => d.parameters.length) = some 1 := by decide +kernel
theorem hy_X10_confess : yX10_confess.cls = RX10 ∧ yX10_confess.cls ≠ "java/lang/invoke/MethodHandle" ∧ yX10_confess.cls ≠ "java/lang/invoke/VarHandle" ∧ (parseMethodDescriptor yX10_confess.desc).map (fun d => d.parameters.length) = some 1 := by decide +kernel
theorem hy_X10_cook : yX10_cook.cls = RX10 ∧ yX10_cook.cls ≠ "java/lang/invoke/MethodHandle" ∧ yX10_cook.cls ≠ "java/lang/invoke/VarHandle" ∧ (parseMethodDescriptor yX10_cook.desc).map (fun d => d.parameters.length) = some 1 := by decide +kernel
theorem hy_X10_countUnit : yX10_countUnit.cls = RX10 ∧ yX10_countUnit.cls ≠ "java/lang/invoke/MethodHandle" ∧ yX10_countUnit.cls ≠ "java/lang/invoke/VarHandle" ∧ (parseMethodDescriptor yX10_countUnit.desc).map (fun d => d.parameters.length) = some 0 := by decide +kernel
theorem hy_X10_divisor : yX10_divisor.cls ≠ "java/lang/invoke/MethodHandle" ∧ yX10_divisor.cls ≠ "java/lang/invoke/VarHandle" ∧ (parseMethodDescriptor yX10_divisor.desc).map (fun d => d.parameters.length) = some 2 := by decide +kernel
theorem hy_X10_done : yX10_done.cls ≠ "java/lang/invoke/MethodHandle" ∧ yX10_done.cls ≠ "java/lang/invoke/VarHandle" ∧ (parseMethodDescriptor yX10_done.desc).map (fun d => d.parameters.length) = some 3 := by decide +kernel
theorem hy_X10_duel : yX10_duel.cls = RX10 ∧ yX10_duel.cls ≠ "java/lang/invoke/MethodHandle" ∧ yX10_duel.cls ≠ "java/lang/invoke/VarHandle" ∧ (parseMethodDescriptor yX10_duel.desc).map (fun d => d.parameters.length) = some 2 := by decide +kernel
theorem hy_X10_end : yX10_end.cls = RX10 ∧ yX10_end.cls ≠ "java/lang/invoke/MethodHandle" ∧ yX10_end.cls ≠ "java/lang/invoke/VarHandle" ∧ (parseMethodDescriptor yX10_end.desc).map (fun d => d.parameters.length) = some 1 := by decide +kernel
theorem hy_X10_exchange : yX10_exchange.cls = RX10 ∧ yX10_exchange.cls ≠ "java/lang/invoke/MethodHandle" ∧ yX10_exchange.cls ≠ "java/lang/invoke/VarHandle" ∧ (parseMethodDescriptor yX10_exchange.desc).map (fun d => d.parameters.length) = some 1 := by decide +kernel
theorem hy_X10_fault : yX10_fault.cls = RX10 ∧ yX10_fault.cls ≠ "java/lang/invoke/MethodHandle" ∧ yX10_fault.cls ≠ "java/lang/invoke/VarHandle" ∧ (parseMethodDescriptor yX10_fault.desc).map (fun d => d.parameters.length) = some 1 := by decide +kernel
theorem hy_X10_feed : yX10_feed.cls = RX10 ∧ yX10_feed.cls ≠ "java/lang/invoke/MethodHandle" ∧ yX10_feed.cls ≠ "java/lang/invoke/VarHandle" ∧ (parseMethodDescriptor yX10_feed.desc).map (fun d => d.parameters.length) = some 5 := by decide +kernel
theorem hy_X10_fill : yX10_fill.cls = RX10 ∧ yX10_fill.cls ≠ "java/lang/invoke/MethodHandle" ∧ yX10_fill.cls ≠ "java/lang/invoke/VarHandle" ∧ (parseMethodDescriptor yX10_fill.desc).map (fun d => d.parameters.length) = some 0 := by decide +kernel
theorem hy_X10_find : yX10_find.cls = RX10 ∧ yX10_find.cls ≠ "java/lang/invoke/MethodHandle" ∧ yX10_find.cls ≠ "java/lang/invoke/VarHandle" ∧ (parseMethodDescriptor yX10_find.desc).map (fun d => d.parameters.length) = some 2 := by decide +kernel
theorem hy_X10_fits : yX10_fits.cls = RX10 ∧ yX10_fits.cls ≠ "java/lang/invoke/MethodHandle" ∧ yX10_fits.cls ≠ "java/lang/invoke/VarHandle" ∧ (parseMethodDescriptor yX10_fits.desc).map (fun d => d.parameters.length) = some 1 := by decide +kernel
theorem hy_X10_fitsMuch : yX10_fitsMuch.cls = RX10 ∧ yX10_fitsMuch.cls ≠ "java/lang/invoke/MethodHandle" ∧ yX10_fitsMuch.cls ≠ "java/lang/invoke/VarHandle" ∧ (parseMethodDescriptor yX10_fitsMuch.desc).map (fun d => d.parameters.length) = some 2 := by decide +kernel
theorem hy_X10_formula : yX10_formula.cls = RX10 ∧ yX10_formula.cls ≠ "java/lang/invoke/MethodHandle" ∧ yX10_formula.cls ≠ "java/lang/invoke/VarHandle" ∧ (parseMethodDescriptor yX10_formula.desc).map (fun d => d.parameters.length) = some 0 := by decide +kernel
theorem hy_X10_four : yX10_four.cls = RX10 ∧ yX10_four.cls ≠ "java/lang/invoke/MethodHandle" ∧ yX10_four.cls ≠ "java/lang/invoke/VarHandle" ∧ (parseMethodDescriptor yX10_four.desc).map (fun d => d.parameters.length) = some 1 := by decide +kernel
theorem hy_X10_goBoiling : yX10_goBoiling.cls = RX10 ∧ yX10_goBoiling.cls ≠ "java/lang/invoke/MethodHandle" ∧ yX10_goBoiling.cls ≠ "java/lang/invoke/VarHandle" ∧ (parseMethodDescriptor yX10_goBoiling.desc).map (fun d => d.parameters.length) = some 1 := by decide +kernel
theorem hy_X10_greater : yX10_greater.cls ≠ "java/lang/invoke/MethodHandle" ∧ yX10_greater.cls ≠ "java/lang/invoke/VarHandle" ∧ (parseMethodDescriptor yX10_greater.desc).map (fun d => d.parameters.length) = some 2 := by decide +kernel
theorem hy_X10_hasBracket : yX10_hasBracket.cls = RX10 ∧ yX10_hasBracket.cls ≠ "java/lang/invoke/MethodHandle" ∧ yX10_hasBracket.cls ≠ "java/lang/invoke/VarHandle" ∧ (parseMethodDescriptor yX10_hasBracket.desc).map (fun d => d.parameters.length) = some 0 := by decide +kernel
theorem hy_X10_hasRelation : yX10_hasRelation.cls = RX10 ∧ yX10_hasRelation.cls ≠ "java/lang/invoke/MethodHandle" ∧ yX10_hasRelation.cls ≠ "java/lang/invoke/VarHandle" ∧ (parseMethodDescriptor yX10_hasRelation.desc).map (fun d => d.parameters.length) = some 0 := by decide +kernel
theorem hy_X10_hasTold : yX10_hasTold.cls = RX10 ∧ yX10_hasTold.cls ≠ "java/lang/invoke/MethodHandle" ∧ yX10_hasTold.cls ≠ "java/lang/invoke/VarHandle" ∧ (parseMethodDescriptor yX10_hasTold.desc).map (fun d => d.parameters.length) = some 1 := by decide +kernel
theorem hy_X10_heaviest : yX10_heaviest.cls = RX10 ∧ yX10_heaviest.cls ≠ "java/lang/invoke/MethodHandle" ∧ yX10_heaviest.cls ≠ "java/lang/invoke/VarHandle" ∧ (parseMethodDescriptor yX10_heaviest.desc).map (fun d => d.parameters.length) = some 0 := by decide +kernel
theorem hy_X10_here : yX10_here.cls = RX10 ∧ yX10_here.cls ≠ "java/lang/invoke/MethodHandle" ∧ yX10_here.cls ≠ "java/lang/invoke/VarHandle" ∧ (parseMethodDescriptor yX10_here.desc).map (fun d => d.parameters.length) = some 1 := by decide +kernel
theorem hy_X10_holds : yX10_holds.cls = RX10 ∧ yX10_holds.cls ≠ "java/lang/invoke/MethodHandle" ∧ yX10_holds.cls ≠ "java/lang/invoke/VarHandle" ∧ (parseMethodDescriptor yX10_holds.desc).map (fun d => d.parameters.length) = some 1 := by decide +kernel
theorem hy_X10_image : yX10_image.cls = RX10 ∧ yX10_image.cls ≠ "java/lang/invoke/MethodHandle" ∧ yX10_image.cls ≠ "java/lang/invoke/VarHandle" ∧ (parseMethodDescriptor yX10_image.desc).map (fun d => d.parameters.length) = some 1 := by decide +kernel
theorem hy_X10_inert : yX10_inert.cls = RX10 ∧ yX10_inert.cls ≠ "java/lang/invoke/MethodHandle" ∧ yX10_inert.cls ≠ "java/lang/invoke/VarHandle" ∧ (parseMethodDescriptor yX10_inert.desc).map (fun d => d.parameters.length) = some 0 := by decide +kernel
theorem hy_X10_isBasin : yX10_isBasin.cls = RX10 ∧ yX10_isBasin.cls ≠ "java/lang/invoke/MethodHandle" ∧ yX10_isBasin.cls ≠ "java/lang/invoke/VarHandle" ∧ (parseMethodDescriptor yX10_isBasin.desc).map (fun d => d.parameters.length) = some 1 := by decide +kernel
theorem hy_X10_isBox : yX10_isBox.cls ≠ "java/lang/invoke/MethodHandle" ∧ yX10_isBox.cls ≠ "java/lang/invoke/VarHandle" ∧ (parseMethodDescriptor yX10_isBox.desc).map (fun d => d.parameters.length) = some 1 := by decide +kernel
theorem hy_X10_isDigit : yX10_isDigit.cls ≠ "java/lang/invoke/MethodHandle" ∧ yX10_isDigit.cls ≠ "java/lang/invoke/VarHandle" ∧ (parseMethodDescriptor yX10_isDigit.desc).map (fun d => d.parameters.length) = some 1 := by decide +kernel
theorem hy_X10_isEased : yX10_isEased.cls = RX10 ∧ yX10_isEased.cls ≠ "java/lang/invoke/MethodHandle" ∧ yX10_isEased.cls ≠ "java/lang/invoke/VarHandle" ∧ (parseMethodDescriptor yX10_isEased.desc).map (fun d => d.parameters.length) = some 1 := by decide +kernel
theorem hy_X10_isFull : yX10_isFull.cls = RX10 ∧ yX10_isFull.cls ≠ "java/lang/invoke/MethodHandle" ∧ yX10_isFull.cls ≠ "java/lang/invoke/VarHandle" ∧ (parseMethodDescriptor yX10_isFull.desc).map (fun d => d.parameters.length) = some 0 := by decide +kernel
theorem hy_X10_isIn : yX10_isIn.cls ≠ "java/lang/invoke/MethodHandle" ∧ yX10_isIn.cls ≠ "java/lang/invoke/VarHandle" ∧ (parseMethodDescriptor yX10_isIn.desc).map (fun d => d.parameters.length) = some 3 := by decide +kernel
theorem hy_X10_isKind : yX10_isKind.cls = RX10 ∧ yX10_isKind.cls ≠ "java/lang/invoke/MethodHandle" ∧ yX10_isKind.cls ≠ "java/lang/invoke/VarHandle" ∧ (parseMethodDescriptor yX10_isKind.desc).map (fun d => d.parameters.length) = some 1 := by decide +kernel
theorem hy_X10_isLetter : yX10_isLetter.cls ≠ "java/lang/invoke/MethodHandle" ∧ yX10_isLetter.cls ≠ "java/lang/invoke/VarHandle" ∧ (parseMethodDescriptor yX10_isLetter.desc).map (fun d => d.parameters.length) = some 1 := by decide +kernel
theorem hy_X10_isName : yX10_isName.cls = RX10 ∧ yX10_isName.cls ≠ "java/lang/invoke/MethodHandle" ∧ yX10_isName.cls ≠ "java/lang/invoke/VarHandle" ∧ (parseMethodDescriptor yX10_isName.desc).map (fun d => d.parameters.length) = some 0 := by decide +kernel
theorem hy_X10_isOwn : yX10_isOwn.cls = RX10 ∧ yX10_isOwn.cls ≠ "java/lang/invoke/MethodHandle" ∧ yX10_isOwn.cls ≠ "java/lang/invoke/VarHandle" ∧ (parseMethodDescriptor yX10_isOwn.desc).map (fun d => d.parameters.length) = some 0 := by decide +kernel
theorem hy_X10_isPerson : yX10_isPerson.cls = RX10 ∧ yX10_isPerson.cls ≠ "java/lang/invoke/MethodHandle" ∧ yX10_isPerson.cls ≠ "java/lang/invoke/VarHandle" ∧ (parseMethodDescriptor yX10_isPerson.desc).map (fun d => d.parameters.length) = some 1 := by decide +kernel
theorem hy_X10_isRisen : yX10_isRisen.cls = RX10 ∧ yX10_isRisen.cls ≠ "java/lang/invoke/MethodHandle" ∧ yX10_isRisen.cls ≠ "java/lang/invoke/VarHandle" ∧ (parseMethodDescriptor yX10_isRisen.desc).map (fun d => d.parameters.length) = some 0 := by decide +kernel
theorem hy_X10_isRule : yX10_isRule.cls = RX10 ∧ yX10_isRule.cls ≠ "java/lang/invoke/MethodHandle" ∧ yX10_isRule.cls ≠ "java/lang/invoke/VarHandle" ∧ (parseMethodDescriptor yX10_isRule.desc).map (fun d => d.parameters.length) = some 1 := by decide +kernel
theorem hy_X10_isSign : yX10_isSign.cls ≠ "java/lang/invoke/MethodHandle" ∧ yX10_isSign.cls ≠ "java/lang/invoke/VarHandle" ∧ (parseMethodDescriptor yX10_isSign.desc).map (fun d => d.parameters.length) = some 1 := by decide +kernel
theorem hy_X10_isWord : yX10_isWord.cls = RX10 ∧ yX10_isWord.cls ≠ "java/lang/invoke/MethodHandle" ∧ yX10_isWord.cls ≠ "java/lang/invoke/VarHandle" ∧ (parseMethodDescriptor yX10_isWord.desc).map (fun d => d.parameters.length) = some 1 := by decide +kernel
theorem hy_X10_keepAir : yX10_keepAir.cls = RX10 ∧ yX10_keepAir.cls ≠ "java/lang/invoke/MethodHandle" ∧ yX10_keepAir.cls ≠ "java/lang/invoke/VarHandle" ∧ (parseMethodDescriptor yX10_keepAir.desc).map (fun d => d.parameters.length) = some 0 := by decide +kernel
theorem hy_X10_lackOf : yX10_lackOf.cls = RX10 ∧ yX10_lackOf.cls ≠ "java/lang/invoke/MethodHandle" ∧ yX10_lackOf.cls ≠ "java/lang/invoke/VarHandle" ∧ (parseMethodDescriptor yX10_lackOf.desc).map (fun d => d.parameters.length) = some 1 := by decide +kernel
theorem hy_X10_lacks : yX10_lacks.cls = RX10 ∧ yX10_lacks.cls ≠ "java/lang/invoke/MethodHandle" ∧ yX10_lacks.cls ≠ "java/lang/invoke/VarHandle" ∧ (parseMethodDescriptor yX10_lacks.desc).map (fun d => d.parameters.length) = some 1 := by decide +kernel
theorem hy_X10_later : yX10_later.cls = RX10 ∧ yX10_later.cls ≠ "java/lang/invoke/MethodHandle" ∧ yX10_later.cls ≠ "java/lang/invoke/VarHandle" ∧ (parseMethodDescriptor yX10_later.desc).map (fun d => d.parameters.length) = some 1 := by decide +kernel
theorem hy_X10_law : yX10_law.cls = RX10 ∧ yX10_law.cls ≠ "java/lang/invoke/MethodHandle" ∧ yX10_law.cls ≠ "java/lang/invoke/VarHandle" ∧ (parseMethodDescriptor yX10_law.desc).map (fun d => d.parameters.length) = some 1 := by decide +kernel
theorem hy_X10_layFits : yX10_layFits.cls = RX10 ∧ yX10_layFits.cls ≠ "java/lang/invoke/MethodHandle" ∧ yX10_layFits.cls ≠ "java/lang/invoke/VarHandle" ∧ (parseMethodDescriptor yX10_layFits.desc).map (fun d => d.parameters.length) = some 1 := by decide +kernel
theorem hy_X10_leftBy : yX10_leftBy.cls = RX10 ∧ yX10_leftBy.cls ≠ "java/lang/invoke/MethodHandle" ∧ yX10_leftBy.cls ≠ "java/lang/invoke/VarHandle" ∧ (parseMethodDescriptor yX10_leftBy.desc).map (fun d => d.parameters.length) = some 2 := by decide +kernel
theorem hy_X10_lesser : yX10_lesser.cls ≠ "java/lang/invoke/MethodHandle" ∧ yX10_lesser.cls ≠ "java/lang/invoke/VarHandle" ∧ (parseMethodDescriptor yX10_lesser.desc).map (fun d => d.parameters.length) = some 2 := by decide +kernel
theorem hy_X10_lies : yX10_lies.cls = RX10 ∧ yX10_lies.cls ≠ "java/lang/invoke/MethodHandle" ∧ yX10_lies.cls ≠ "java/lang/invoke/VarHandle" ∧ (parseMethodDescriptor yX10_lies.desc).map (fun d => d.parameters.length) = some 1 := by decide +kernel
theorem hy_X10_makers : yX10_makers.cls = RX10 ∧ yX10_makers.cls ≠ "java/lang/invoke/MethodHandle" ∧ yX10_makers.cls ≠ "java/lang/invoke/VarHandle" ∧ (parseMethodDescriptor yX10_makers.desc).map (fun d => d.parameters.length) = some 1 := by decide +kernel
theorem hy_X10_makes : yX10_makes.cls = RX10 ∧ yX10_makes.cls ≠ "java/lang/invoke/MethodHandle" ∧ yX10_makes.cls ≠ "java/lang/invoke/VarHandle" ∧ (parseMethodDescriptor yX10_makes.desc).map (fun d => d.parameters.length) = some 2 := by decide +kernel
theorem hy_X10_mayNot : yX10_mayNot.cls = RX10 ∧ yX10_mayNot.cls ≠ "java/lang/invoke/MethodHandle" ∧ yX10_mayNot.cls ≠ "java/lang/invoke/VarHandle" ∧ (parseMethodDescriptor yX10_mayNot.desc).map (fun d => d.parameters.length) = some 0 := by decide +kernel
theorem hy_X10_members : yX10_members.cls ≠ "java/lang/invoke/MethodHandle" ∧ yX10_members.cls ≠ "java/lang/invoke/VarHandle" ∧ (parseMethodDescriptor yX10_members.desc).map (fun d => d.parameters.length) = some 1 := by decide +kernel
theorem hy_X10_mind : yX10_mind.cls = RX10 ∧ yX10_mind.cls ≠ "java/lang/invoke/MethodHandle" ∧ yX10_mind.cls ≠ "java/lang/invoke/VarHandle" ∧ (parseMethodDescriptor yX10_mind.desc).map (fun d => d.parameters.length) = some 2 := by decide +kernel
theorem hy_X10_mindOf : yX10_mindOf.cls = RX10 ∧ yX10_mindOf.cls ≠ "java/lang/invoke/MethodHandle" ∧ yX10_mindOf.cls ≠ "java/lang/invoke/VarHandle" ∧ (parseMethodDescriptor yX10_mindOf.desc).map (fun d => d.parameters.length) = some 1 := by decide +kernel
theorem hy_X10_mission : yX10_mission.cls = RX10 ∧ yX10_mission.cls ≠ "java/lang/invoke/MethodHandle" ∧ yX10_mission.cls ≠ "java/lang/invoke/VarHandle" ∧ (parseMethodDescriptor yX10_mission.desc).map (fun d => d.parameters.length) = some 0 := by decide +kernel
theorem hy_X10_nearest : yX10_nearest.cls = RX10 ∧ yX10_nearest.cls ≠ "java/lang/invoke/MethodHandle" ∧ yX10_nearest.cls ≠ "java/lang/invoke/VarHandle" ∧ (parseMethodDescriptor yX10_nearest.desc).map (fun d => d.parameters.length) = some 0 := by decide +kernel
theorem hy_X10_newName : yX10_newName.cls = RX10 ∧ yX10_newName.cls ≠ "java/lang/invoke/MethodHandle" ∧ yX10_newName.cls ≠ "java/lang/invoke/VarHandle" ∧ (parseMethodDescriptor yX10_newName.desc).map (fun d => d.parameters.length) = some 2 := by decide +kernel
theorem hy_X10_nextRow : yX10_nextRow.cls = RX10 ∧ yX10_nextRow.cls ≠ "java/lang/invoke/MethodHandle" ∧ yX10_nextRow.cls ≠ "java/lang/invoke/VarHandle" ∧ (parseMethodDescriptor yX10_nextRow.desc).map (fun d => d.parameters.length) = some 0 := by decide +kernel
theorem hy_X10_odds : yX10_odds.cls = RX10 ∧ yX10_odds.cls ≠ "java/lang/invoke/MethodHandle" ∧ yX10_odds.cls ≠ "java/lang/invoke/VarHandle" ∧ (parseMethodDescriptor yX10_odds.desc).map (fun d => d.parameters.length) = some 2 := by decide +kernel
theorem hy_X10_oldKind : yX10_oldKind.cls = RX10 ∧ yX10_oldKind.cls ≠ "java/lang/invoke/MethodHandle" ∧ yX10_oldKind.cls ≠ "java/lang/invoke/VarHandle" ∧ (parseMethodDescriptor yX10_oldKind.desc).map (fun d => d.parameters.length) = some 0 := by decide +kernel
theorem hy_X10_openUp : yX10_openUp.cls = RX10 ∧ yX10_openUp.cls ≠ "java/lang/invoke/MethodHandle" ∧ yX10_openUp.cls ≠ "java/lang/invoke/VarHandle" ∧ (parseMethodDescriptor yX10_openUp.desc).map (fun d => d.parameters.length) = some 1 := by decide +kernel
theorem hy_X10_order : yX10_order.cls = RX10 ∧ yX10_order.cls ≠ "java/lang/invoke/MethodHandle" ∧ yX10_order.cls ≠ "java/lang/invoke/VarHandle" ∧ (parseMethodDescriptor yX10_order.desc).map (fun d => d.parameters.length) = some 1 := by decide +kernel
theorem hy_X10_power : yX10_power.cls = RX10 ∧ yX10_power.cls ≠ "java/lang/invoke/MethodHandle" ∧ yX10_power.cls ≠ "java/lang/invoke/VarHandle" ∧ (parseMethodDescriptor yX10_power.desc).map (fun d => d.parameters.length) = some 1 := by decide +kernel
theorem hy_X10_raised : yX10_raised.cls ≠ "java/lang/invoke/MethodHandle" ∧ yX10_raised.cls ≠ "java/lang/invoke/VarHandle" ∧ (parseMethodDescriptor yX10_raised.desc).map (fun d => d.parameters.length) = some 2 := by decide +kernel
theorem hy_X10_readAll : yX10_readAll.cls = RX10 ∧ yX10_readAll.cls ≠ "java/lang/invoke/MethodHandle" ∧ yX10_readAll.cls ≠ "java/lang/invoke/VarHandle" ∧ (parseMethodDescriptor yX10_readAll.desc).map (fun d => d.parameters.length) = some 0 := by decide +kernel
theorem hy_X10_readAllOf : yX10_readAllOf.cls = RX10 ∧ yX10_readAllOf.cls ≠ "java/lang/invoke/MethodHandle" ∧ yX10_readAllOf.cls ≠ "java/lang/invoke/VarHandle" ∧ (parseMethodDescriptor yX10_readAllOf.desc).map (fun d => d.parameters.length) = some 2 := by decide +kernel
theorem hy_X10_readBasin : yX10_readBasin.cls = RX10 ∧ yX10_readBasin.cls ≠ "java/lang/invoke/MethodHandle" ∧ yX10_readBasin.cls ≠ "java/lang/invoke/VarHandle" ∧ (parseMethodDescriptor yX10_readBasin.desc).map (fun d => d.parameters.length) = some 0 := by decide +kernel
theorem hy_X10_readKind : yX10_readKind.cls = RX10 ∧ yX10_readKind.cls ≠ "java/lang/invoke/MethodHandle" ∧ yX10_readKind.cls ≠ "java/lang/invoke/VarHandle" ∧ (parseMethodDescriptor yX10_readKind.desc).map (fun d => d.parameters.length) = some 0 := by decide +kernel
theorem hy_X10_readLine : yX10_readLine.cls = RX10 ∧ yX10_readLine.cls ≠ "java/lang/invoke/MethodHandle" ∧ yX10_readLine.cls ≠ "java/lang/invoke/VarHandle" ∧ (parseMethodDescriptor yX10_readLine.desc).map (fun d => d.parameters.length) = some 0 := by decide +kernel
theorem hy_X10_readPerson : yX10_readPerson.cls = RX10 ∧ yX10_readPerson.cls ≠ "java/lang/invoke/MethodHandle" ∧ yX10_readPerson.cls ≠ "java/lang/invoke/VarHandle" ∧ (parseMethodDescriptor yX10_readPerson.desc).map (fun d => d.parameters.length) = some 0 := by decide +kernel
theorem hy_X10_readRule : yX10_readRule.cls = RX10 ∧ yX10_readRule.cls ≠ "java/lang/invoke/MethodHandle" ∧ yX10_readRule.cls ≠ "java/lang/invoke/VarHandle" ∧ (parseMethodDescriptor yX10_readRule.desc).map (fun d => d.parameters.length) = some 0 := by decide +kernel
theorem hy_X10_readSome : yX10_readSome.cls = RX10 ∧ yX10_readSome.cls ≠ "java/lang/invoke/MethodHandle" ∧ yX10_readSome.cls ≠ "java/lang/invoke/VarHandle" ∧ (parseMethodDescriptor yX10_readSome.desc).map (fun d => d.parameters.length) = some 2 := by decide +kernel
theorem hy_X10_redo : yX10_redo.cls = RX10 ∧ yX10_redo.cls ≠ "java/lang/invoke/MethodHandle" ∧ yX10_redo.cls ≠ "java/lang/invoke/VarHandle" ∧ (parseMethodDescriptor yX10_redo.desc).map (fun d => d.parameters.length) = some 0 := by decide +kernel
theorem hy_X10_rest : yX10_rest.cls = RX10 ∧ yX10_rest.cls ≠ "java/lang/invoke/MethodHandle" ∧ yX10_rest.cls ≠ "java/lang/invoke/VarHandle" ∧ (parseMethodDescriptor yX10_rest.desc).map (fun d => d.parameters.length) = some 0 := by decide +kernel
theorem hy_X10_rise : yX10_rise.cls = RX10 ∧ yX10_rise.cls ≠ "java/lang/invoke/MethodHandle" ∧ yX10_rise.cls ≠ "java/lang/invoke/VarHandle" ∧ (parseMethodDescriptor yX10_rise.desc).map (fun d => d.parameters.length) = some 0 := by decide +kernel
theorem hy_X10_risesIn : yX10_risesIn.cls = RX10 ∧ yX10_risesIn.cls ≠ "java/lang/invoke/MethodHandle" ∧ yX10_risesIn.cls ≠ "java/lang/invoke/VarHandle" ∧ (parseMethodDescriptor yX10_risesIn.desc).map (fun d => d.parameters.length) = some 1 := by decide +kernel
theorem hy_X10_risesWith : yX10_risesWith.cls = RX10 ∧ yX10_risesWith.cls ≠ "java/lang/invoke/MethodHandle" ∧ yX10_risesWith.cls ≠ "java/lang/invoke/VarHandle" ∧ (parseMethodDescriptor yX10_risesWith.desc).map (fun d => d.parameters.length) = some 1 := by decide +kernel
theorem hy_X10_rouser : yX10_rouser.cls = RX10 ∧ yX10_rouser.cls ≠ "java/lang/invoke/MethodHandle" ∧ yX10_rouser.cls ≠ "java/lang/invoke/VarHandle" ∧ (parseMethodDescriptor yX10_rouser.desc).map (fun d => d.parameters.length) = some 1 := by decide +kernel
theorem hy_X10_rule : yX10_rule.cls = RX10 ∧ yX10_rule.cls ≠ "java/lang/invoke/MethodHandle" ∧ yX10_rule.cls ≠ "java/lang/invoke/VarHandle" ∧ (parseMethodDescriptor yX10_rule.desc).map (fun d => d.parameters.length) = some 2 := by decide +kernel
theorem hy_X10_seen : yX10_seen.cls = RX10 ∧ yX10_seen.cls ≠ "java/lang/invoke/MethodHandle" ∧ yX10_seen.cls ≠ "java/lang/invoke/VarHandle" ∧ (parseMethodDescriptor yX10_seen.desc).map (fun d => d.parameters.length) = some 4 := by decide +kernel
theorem hy_X10_serve : yX10_serve.cls = RX10 ∧ yX10_serve.cls ≠ "java/lang/invoke/MethodHandle" ∧ yX10_serve.cls ≠ "java/lang/invoke/VarHandle" ∧ (parseMethodDescriptor yX10_serve.desc).map (fun d => d.parameters.length) = some 1 := by decide +kernel
theorem hy_X10_sign : yX10_sign.cls = RX10 ∧ yX10_sign.cls ≠ "java/lang/invoke/MethodHandle" ∧ yX10_sign.cls ≠ "java/lang/invoke/VarHandle" ∧ (parseMethodDescriptor yX10_sign.desc).map (fun d => d.parameters.length) = some 0 := by decide +kernel
theorem hy_X10_silent : yX10_silent.cls = RX10 ∧ yX10_silent.cls ≠ "java/lang/invoke/MethodHandle" ∧ yX10_silent.cls ≠ "java/lang/invoke/VarHandle" ∧ (parseMethodDescriptor yX10_silent.desc).map (fun d => d.parameters.length) = some 0 := by decide +kernel
theorem hy_X10_sinners : yX10_sinners.cls = RX10 ∧ yX10_sinners.cls ≠ "java/lang/invoke/MethodHandle" ∧ yX10_sinners.cls ≠ "java/lang/invoke/VarHandle" ∧ (parseMethodDescriptor yX10_sinners.desc).map (fun d => d.parameters.length) = some 1 := by decide +kernel
theorem hy_X10_skims : yX10_skims.cls = RX10 ∧ yX10_skims.cls ≠ "java/lang/invoke/MethodHandle" ∧ yX10_skims.cls ≠ "java/lang/invoke/VarHandle" ∧ (parseMethodDescriptor yX10_skims.desc).map (fun d => d.parameters.length) = some 0 := by decide +kernel
theorem hy_X10_steps : yX10_steps.cls = RX10 ∧ yX10_steps.cls ≠ "java/lang/invoke/MethodHandle" ∧ yX10_steps.cls ≠ "java/lang/invoke/VarHandle" ∧ (parseMethodDescriptor yX10_steps.desc).map (fun d => d.parameters.length) = some 2 := by decide +kernel
theorem hy_X10_sure : yX10_sure.cls = RX10 ∧ yX10_sure.cls ≠ "java/lang/invoke/MethodHandle" ∧ yX10_sure.cls ≠ "java/lang/invoke/VarHandle" ∧ (parseMethodDescriptor yX10_sure.desc).map (fun d => d.parameters.length) = some 2 := by decide +kernel
theorem hy_X10_swap : yX10_swap.cls = RX10 ∧ yX10_swap.cls ≠ "java/lang/invoke/MethodHandle" ∧ yX10_swap.cls ≠ "java/lang/invoke/VarHandle" ∧ (parseMethodDescriptor yX10_swap.desc).map (fun d => d.parameters.length) = some 2 := by decide +kernel
theorem hy_X10_sweep : yX10_sweep.cls = RX10 ∧ yX10_sweep.cls ≠ "java/lang/invoke/MethodHandle" ∧ yX10_sweep.cls ≠ "java/lang/invoke/VarHandle" ∧ (parseMethodDescriptor yX10_sweep.desc).map (fun d => d.parameters.length) = some 1 := by decide +kernel
theorem hy_X10_tellAll : yX10_tellAll.cls = RX10 ∧ yX10_tellAll.cls ≠ "java/lang/invoke/MethodHandle" ∧ yX10_tellAll.cls ≠ "java/lang/invoke/VarHandle" ∧ (parseMethodDescriptor yX10_tellAll.desc).map (fun d => d.parameters.length) = some 1 := by decide +kernel
theorem hy_X10_tells : yX10_tells.cls = RX10 ∧ yX10_tells.cls ≠ "java/lang/invoke/MethodHandle" ∧ yX10_tells.cls ≠ "java/lang/invoke/VarHandle" ∧ (parseMethodDescriptor yX10_tells.desc).map (fun d => d.parameters.length) = some 1 := by decide +kernel
theorem hy_X10_thickest : yX10_thickest.cls = RX10 ∧ yX10_thickest.cls ≠ "java/lang/invoke/MethodHandle" ∧ yX10_thickest.cls ≠ "java/lang/invoke/VarHandle" ∧ (parseMethodDescriptor yX10_thickest.desc).map (fun d => d.parameters.length) = some 0 := by decide +kernel
theorem hy_X10_thinnest : yX10_thinnest.cls = RX10 ∧ yX10_thinnest.cls ≠ "java/lang/invoke/MethodHandle" ∧ yX10_thinnest.cls ≠ "java/lang/invoke/VarHandle" ∧ (parseMethodDescriptor yX10_thinnest.desc).map (fun d => d.parameters.length) = some 0 := by decide +kernel
theorem hy_X10_tight : yX10_tight.cls ≠ "java/lang/invoke/MethodHandle" ∧ yX10_tight.cls ≠ "java/lang/invoke/VarHandle" ∧ (parseMethodDescriptor yX10_tight.desc).map (fun d => d.parameters.length) = some 1 := by decide +kernel
theorem hy_X10_token : yX10_token.cls = RX10 ∧ yX10_token.cls ≠ "java/lang/invoke/MethodHandle" ∧ yX10_token.cls ≠ "java/lang/invoke/VarHandle" ∧ (parseMethodDescriptor yX10_token.desc).map (fun d => d.parameters.length) = some 0 := by decide +kernel
theorem hy_X10_told : yX10_told.cls = RX10 ∧ yX10_told.cls ≠ "java/lang/invoke/MethodHandle" ∧ yX10_told.cls ≠ "java/lang/invoke/VarHandle" ∧ (parseMethodDescriptor yX10_told.desc).map (fun d => d.parameters.length) = some 3 := by decide +kernel
theorem hy_X10_toldNumber : yX10_toldNumber.cls = RX10 ∧ yX10_toldNumber.cls ≠ "java/lang/invoke/MethodHandle" ∧ yX10_toldNumber.cls ≠ "java/lang/invoke/VarHandle" ∧ (parseMethodDescriptor yX10_toldNumber.desc).map (fun d => d.parameters.length) = some 2 := by decide +kernel
theorem hy_X10_truth : yX10_truth.cls ≠ "java/lang/invoke/MethodHandle" ∧ yX10_truth.cls ≠ "java/lang/invoke/VarHandle" ∧ (parseMethodDescriptor yX10_truth.desc).map (fun d => d.parameters.length) = some 1 := by decide +kernel
theorem hy_X10_undo : yX10_undo.cls = RX10 ∧ yX10_undo.cls ≠ "java/lang/invoke/MethodHandle" ∧ yX10_undo.cls ≠ "java/lang/invoke/VarHandle" ∧ (parseMethodDescriptor yX10_undo.desc).map (fun d => d.parameters.length) = some 0 := by decide +kernel
theorem hy_X10_unit : yX10_unit.cls = RX10 ∧ yX10_unit.cls ≠ "java/lang/invoke/MethodHandle" ∧ yX10_unit.cls ≠ "java/lang/invoke/VarHandle" ∧ (parseMethodDescriptor yX10_unit.desc).map (fun d => d.parameters.length) = some 0 := by decide +kernel
theorem hy_X10_untell : yX10_untell.cls = RX10 ∧ yX10_untell.cls ≠ "java/lang/invoke/MethodHandle" ∧ yX10_untell.cls ≠ "java/lang/invoke/VarHandle" ∧ (parseMethodDescriptor yX10_untell.desc).map (fun d => d.parameters.length) = some 1 := by decide +kernel
theorem hy_X10_vat : yX10_vat.cls = RX10 ∧ yX10_vat.cls ≠ "java/lang/invoke/MethodHandle" ∧ yX10_vat.cls ≠ "java/lang/invoke/VarHandle" ∧ (parseMethodDescriptor yX10_vat.desc).map (fun d => d.parameters.length) = some 1 := by decide +kernel
theorem hy_X10_want : yX10_want.cls = RX10 ∧ yX10_want.cls ≠ "java/lang/invoke/MethodHandle" ∧ yX10_want.cls ≠ "java/lang/invoke/VarHandle" ∧ (parseMethodDescriptor yX10_want.desc).map (fun d => d.parameters.length) = some 1 := by decide +kernel
theorem hy_X10_wanted : yX10_wanted.cls = RX10 ∧ yX10_wanted.cls ≠ "java/lang/invoke/MethodHandle" ∧ yX10_wanted.cls ≠ "java/lang/invoke/VarHandle" ∧ (parseMethodDescriptor yX10_wanted.desc).map (fun d => d.parameters.length) = some 1 := by decide +kernel
theorem hy_X10_wants : yX10_wants.cls = RX10 ∧ yX10_wants.cls ≠ "java/lang/invoke/MethodHandle" ∧ yX10_wants.cls ≠ "java/lang/invoke/VarHandle" ∧ (parseMethodDescriptor yX10_wants.desc).map (fun d => d.parameters.length) = some 2 := by decide +kernel
theorem hy_X10_wash : yX10_wash.cls = RX10 ∧ yX10_wash.cls ≠ "java/lang/invoke/MethodHandle" ∧ yX10_wash.cls ≠ "java/lang/invoke/VarHandle" ∧ (parseMethodDescriptor yX10_wash.desc).map (fun d => d.parameters.length) = some 1 := by decide +kernel
theorem hy_X10_will : yX10_will.cls = RX10 ∧ yX10_will.cls ≠ "java/lang/invoke/MethodHandle" ∧ yX10_will.cls ≠ "java/lang/invoke/VarHandle" ∧ (parseMethodDescriptor yX10_will.desc).map (fun d => d.parameters.length) = some 3 := by decide +kernel
theorem hy_X10_works : yX10_works.cls = RX10 ∧ yX10_works.cls ≠ "java/lang/invoke/MethodHandle" ∧ yX10_works.cls ≠ "java/lang/invoke/VarHandle" ∧ (parseMethodDescriptor yX10_works.desc).map (fun d => d.parameters.length) = some 0 := by decide +kernel
theorem hy_X10_wrong : yX10_wrong.cls = RX10 ∧ yX10_wrong.cls ≠ "java/lang/invoke/MethodHandle" ∧ yX10_wrong.cls ≠ "java/lang/invoke/VarHandle" ∧ (parseMethodDescriptor yX10_wrong.desc).map (fun d => d.parameters.length) = some 1 := by decide +kernel
theorem hy_X1_forget : yX1_forget.cls = RX1 ∧ yX1_forget.cls ≠ "java/lang/invoke/MethodHandle" ∧ yX1_forget.cls ≠ "java/lang/invoke/VarHandle" ∧ (parseMethodDescriptor yX1_forget.desc).map (fun d => d.parameters.length) = some 0 := by decide +kernel
theorem hy_X1_isBox : yX1_isBox.cls = RX1 ∧ yX1_isBox.cls ≠ "java/lang/invoke/MethodHandle" ∧ yX1_isBox.cls ≠ "java/lang/invoke/VarHandle" ∧ (parseMethodDescriptor yX1_isBox.desc).map (fun d => d.parameters.length) = some 1 := by decide +kernel
theorem hy_X1_put : yX1_put.cls = RX1 ∧ yX1_put.cls ≠ "java/lang/invoke/MethodHandle" ∧ yX1_put.cls ≠ "java/lang/invoke/VarHandle" ∧ (parseMethodDescriptor yX1_put.desc).map (fun d => d.parameters.length) = some 2 := by decide +kernel
theorem hy_X1_take : yX1_take.cls = RX1 ∧ yX1_take.cls ≠ "java/lang/invoke/MethodHandle" ∧ yX1_take.cls ≠ "java/lang/invoke/VarHandle" ∧ (parseMethodDescriptor yX1_take.desc).map (fun d => d.parameters.length) = some 2 := by decide +kernel
theorem hy_X2_add : yX2_add.cls = RX2 ∧ yX2_add.cls ≠ "java/lang/invoke/MethodHandle" ∧ yX2_add.cls ≠ "java/lang/invoke/VarHandle" ∧ (parseMethodDescriptor yX2_add.desc).map (fun d => d.parameters.length) = some 1 := by decide +kernel
theorem hy_X2_clear : yX2_clear.cls = RX2 ∧ yX2_clear.cls ≠ "java/lang/invoke/MethodHandle" ∧ yX2_clear.cls ≠ "java/lang/invoke/VarHandle" ∧ (parseMethodDescriptor yX2_clear.desc).map (fun d => d.parameters.length) = some 0 := by decide +kernel
theorem hy_X2_joined : yX2_joined.cls ≠ "java/lang/invoke/MethodHandle" ∧ yX2_joined.cls ≠ "java/lang/invoke/VarHandle" ∧ (parseMethodDescriptor yX2_joined.desc).map (fun d => d.parameters.length) = some 3 := by decide +kernel
theorem hy_X2_measure : yX2_measure.cls = RX2 ∧ yX2_measure.cls ≠ "java/lang/invoke/MethodHandle" ∧ yX2_measure.cls ≠ "java/lang/invoke/VarHandle" ∧ (parseMethodDescriptor yX2_measure.desc).map (fun d => d.parameters.length) = some 2 := by decide +kernel
theorem hy_X2_worth : yX2_worth.cls = RX2 ∧ yX2_worth.cls ≠ "java/lang/invoke/MethodHandle" ∧ yX2_worth.cls ≠ "java/lang/invoke/VarHandle" ∧ (parseMethodDescriptor yX2_worth.desc).map (fun d => d.parameters.length) = some 2 := by decide +kernel
theorem hy_X3_allUnderLaw : yX3_allUnderLaw.cls = RX3 ∧ yX3_allUnderLaw.cls ≠ "java/lang/invoke/MethodHandle" ∧ yX3_allUnderLaw.cls ≠ "java/lang/invoke/VarHandle" ∧ (parseMethodDescriptor yX3_allUnderLaw.desc).map (fun d => d.parameters.length) = some 3 := by decide +kernel
theorem hy_X3_boilingsTill : yX3_boilingsTill.cls = RX3 ∧ yX3_boilingsTill.cls ≠ "java/lang/invoke/MethodHandle" ∧ yX3_boilingsTill.cls ≠ "java/lang/invoke/VarHandle" ∧ (parseMethodDescriptor yX3_boilingsTill.desc).map (fun d => d.parameters.length) = some 3 := by decide +kernel
theorem hy_X3_boilingsToRest : yX3_boilingsToRest.cls = RX3 ∧ yX3_boilingsToRest.cls ≠ "java/lang/invoke/MethodHandle" ∧ yX3_boilingsToRest.cls ≠ "java/lang/invoke/VarHandle" ∧ (parseMethodDescriptor yX3_boilingsToRest.desc).map (fun d => d.parameters.length) = some 2 := by decide +kernel
theorem hy_X3_duelRests : yX3_duelRests.cls = RX3 ∧ yX3_duelRests.cls ≠ "java/lang/invoke/MethodHandle" ∧ yX3_duelRests.cls ≠ "java/lang/invoke/VarHandle" ∧ (parseMethodDescriptor yX3_duelRests.desc).map (fun d => d.parameters.length) = some 4 := by decide +kernel
theorem hy_X3_exchange : yX3_exchange.cls = RX3 ∧ yX3_exchange.cls ≠ "java/lang/invoke/MethodHandle" ∧ yX3_exchange.cls ≠ "java/lang/invoke/VarHandle" ∧ (parseMethodDescriptor yX3_exchange.desc).map (fun d => d.parameters.length) = some 2 := by decide +kernel
theorem hy_X3_gain : yX3_gain.cls ≠ "java/lang/invoke/MethodHandle" ∧ yX3_gain.cls ≠ "java/lang/invoke/VarHandle" ∧ (parseMethodDescriptor yX3_gain.desc).map (fun d => d.parameters.length) = some 4 := by decide +kernel
theorem hy_X3_mostByOrder : yX3_mostByOrder.cls = RX3 ∧ yX3_mostByOrder.cls ≠ "java/lang/invoke/MethodHandle" ∧ yX3_mostByOrder.cls ≠ "java/lang/invoke/VarHandle" ∧ (parseMethodDescriptor yX3_mostByOrder.desc).map (fun d => d.parameters.length) = some 4 := by decide +kernel
theorem hy_X3_muchBehind : yX3_muchBehind.cls = RX3 ∧ yX3_muchBehind.cls ≠ "java/lang/invoke/MethodHandle" ∧ yX3_muchBehind.cls ≠ "java/lang/invoke/VarHandle" ∧ (parseMethodDescriptor yX3_muchBehind.desc).map (fun d => d.parameters.length) = some 5 := by decide +kernel
theorem hy_X3_muchByOrder : yX3_muchByOrder.cls = RX3 ∧ yX3_muchByOrder.cls ≠ "java/lang/invoke/MethodHandle" ∧ yX3_muchByOrder.cls ≠ "java/lang/invoke/VarHandle" ∧ (parseMethodDescriptor yX3_muchByOrder.desc).map (fun d => d.parameters.length) = some 3 := by decide +kernel
theorem hy_X3_riseIf : yX3_riseIf.cls = RX3 ∧ yX3_riseIf.cls ≠ "java/lang/invoke/MethodHandle" ∧ yX3_riseIf.cls ≠ "java/lang/invoke/VarHandle" ∧ (parseMethodDescriptor yX3_riseIf.desc).map (fun d => d.parameters.length) = some 4 := by decide +kernel
theorem hy_X3_toNextOrder : yX3_toNextOrder.cls = RX3 ∧ yX3_toNextOrder.cls ≠ "java/lang/invoke/MethodHandle" ∧ yX3_toNextOrder.cls ≠ "java/lang/invoke/VarHandle" ∧ (parseMethodDescriptor yX3_toNextOrder.desc).map (fun d => d.parameters.length) = some 1 := by decide +kernel
theorem hy_X3_wouldHold : yX3_wouldHold.cls = RX3 ∧ yX3_wouldHold.cls ≠ "java/lang/invoke/MethodHandle" ∧ yX3_wouldHold.cls ≠ "java/lang/invoke/VarHandle" ∧ (parseMethodDescriptor yX3_wouldHold.desc).map (fun d => d.parameters.length) = some 4 := by decide +kernel
theorem hy_X4_addRule : yX4_addRule.cls = RX4 ∧ yX4_addRule.cls ≠ "java/lang/invoke/MethodHandle" ∧ yX4_addRule.cls ≠ "java/lang/invoke/VarHandle" ∧ (parseMethodDescriptor yX4_addRule.desc).map (fun d => d.parameters.length) = some 4 := by decide +kernel
theorem hy_X4_boilInEarnest : yX4_boilInEarnest.cls = RX4 ∧ yX4_boilInEarnest.cls ≠ "java/lang/invoke/MethodHandle" ∧ yX4_boilInEarnest.cls ≠ "java/lang/invoke/VarHandle" ∧ (parseMethodDescriptor yX4_boilInEarnest.desc).map (fun d => d.parameters.length) = some 2 := by decide +kernel
theorem hy_X4_boilRules : yX4_boilRules.cls = RX4 ∧ yX4_boilRules.cls ≠ "java/lang/invoke/MethodHandle" ∧ yX4_boilRules.cls ≠ "java/lang/invoke/VarHandle" ∧ (parseMethodDescriptor yX4_boilRules.desc).map (fun d => d.parameters.length) = some 1 := by decide +kernel
theorem hy_X4_burden : yX4_burden.cls = RX4 ∧ yX4_burden.cls ≠ "java/lang/invoke/MethodHandle" ∧ yX4_burden.cls ≠ "java/lang/invoke/VarHandle" ∧ (parseMethodDescriptor yX4_burden.desc).map (fun d => d.parameters.length) = some 1 := by decide +kernel
theorem hy_X4_canServe : yX4_canServe.cls = RX4 ∧ yX4_canServe.cls ≠ "java/lang/invoke/MethodHandle" ∧ yX4_canServe.cls ≠ "java/lang/invoke/VarHandle" ∧ (parseMethodDescriptor yX4_canServe.desc).map (fun d => d.parameters.length) = some 2 := by decide +kernel
theorem hy_X4_clear : yX4_clear.cls = RX4 ∧ yX4_clear.cls ≠ "java/lang/invoke/MethodHandle" ∧ yX4_clear.cls ≠ "java/lang/invoke/VarHandle" ∧ (parseMethodDescriptor yX4_clear.desc).map (fun d => d.parameters.length) = some 0 := by decide +kernel
theorem hy_X4_drawScum : yX4_drawScum.cls = RX4 ∧ yX4_drawScum.cls ≠ "java/lang/invoke/MethodHandle" ∧ yX4_drawScum.cls ≠ "java/lang/invoke/VarHandle" ∧ (parseMethodDescriptor yX4_drawScum.desc).map (fun d => d.parameters.length) = some 1 := by decide +kernel
theorem hy_X4_first : yX4_first.cls = RX4 ∧ yX4_first.cls ≠ "java/lang/invoke/MethodHandle" ∧ yX4_first.cls ≠ "java/lang/invoke/VarHandle" ∧ (parseMethodDescriptor yX4_first.desc).map (fun d => d.parameters.length) = some 1 := by decide +kernel
theorem hy_X4_has : yX4_has.cls = RX4 ∧ yX4_has.cls ≠ "java/lang/invoke/MethodHandle" ∧ yX4_has.cls ≠ "java/lang/invoke/VarHandle" ∧ (parseMethodDescriptor yX4_has.desc).map (fun d => d.parameters.length) = some 2 := by decide +kernel
theorem hy_X4_isBasin : yX4_isBasin.cls = RX4 ∧ yX4_isBasin.cls ≠ "java/lang/invoke/MethodHandle" ∧ yX4_isBasin.cls ≠ "java/lang/invoke/VarHandle" ∧ (parseMethodDescriptor yX4_isBasin.desc).map (fun d => d.parameters.length) = some 1 := by decide +kernel
theorem hy_X4_isKind : yX4_isKind.cls = RX4 ∧ yX4_isKind.cls ≠ "java/lang/invoke/MethodHandle" ∧ yX4_isKind.cls ≠ "java/lang/invoke/VarHandle" ∧ (parseMethodDescriptor yX4_isKind.desc).map (fun d => d.parameters.length) = some 1 := by decide +kernel
theorem hy_X4_isPerson : yX4_isPerson.cls = RX4 ∧ yX4_isPerson.cls ≠ "java/lang/invoke/MethodHandle" ∧ yX4_isPerson.cls ≠ "java/lang/invoke/VarHandle" ∧ (parseMethodDescriptor yX4_isPerson.desc).map (fun d => d.parameters.length) = some 1 := by decide +kernel
theorem hy_X4_isRisen : yX4_isRisen.cls = RX4 ∧ yX4_isRisen.cls ≠ "java/lang/invoke/MethodHandle" ∧ yX4_isRisen.cls ≠ "java/lang/invoke/VarHandle" ∧ (parseMethodDescriptor yX4_isRisen.desc).map (fun d => d.parameters.length) = some 1 := by decide +kernel
theorem hy_X4_lacking : yX4_lacking.cls = RX4 ∧ yX4_lacking.cls ≠ "java/lang/invoke/MethodHandle" ∧ yX4_lacking.cls ≠ "java/lang/invoke/VarHandle" ∧ (parseMethodDescriptor yX4_lacking.desc).map (fun d => d.parameters.length) = some 2 := by decide +kernel
theorem hy_X4_limit : yX4_limit.cls = RX4 ∧ yX4_limit.cls ≠ "java/lang/invoke/MethodHandle" ∧ yX4_limit.cls ≠ "java/lang/invoke/VarHandle" ∧ (parseMethodDescriptor yX4_limit.desc).map (fun d => d.parameters.length) = some 1 := by decide +kernel
theorem hy_X4_madeOf : yX4_madeOf.cls = RX4 ∧ yX4_madeOf.cls ≠ "java/lang/invoke/MethodHandle" ∧ yX4_madeOf.cls ≠ "java/lang/invoke/VarHandle" ∧ (parseMethodDescriptor yX4_madeOf.desc).map (fun d => d.parameters.length) = some 1 := by decide +kernel
theorem hy_X4_needs : yX4_needs.cls = RX4 ∧ yX4_needs.cls ≠ "java/lang/invoke/MethodHandle" ∧ yX4_needs.cls ≠ "java/lang/invoke/VarHandle" ∧ (parseMethodDescriptor yX4_needs.desc).map (fun d => d.parameters.length) = some 2 := by decide +kernel
theorem hy_X4_pour : yX4_pour.cls = RX4 ∧ yX4_pour.cls ≠ "java/lang/invoke/MethodHandle" ∧ yX4_pour.cls ≠ "java/lang/invoke/VarHandle" ∧ (parseMethodDescriptor yX4_pour.desc).map (fun d => d.parameters.length) = some 2 := by decide +kernel
theorem hy_X4_second : yX4_second.cls = RX4 ∧ yX4_second.cls ≠ "java/lang/invoke/MethodHandle" ∧ yX4_second.cls ≠ "java/lang/invoke/VarHandle" ∧ (parseMethodDescriptor yX4_second.desc).map (fun d => d.parameters.length) = some 1 := by decide +kernel
theorem hy_X4_tell : yX4_tell.cls = RX4 ∧ yX4_tell.cls ≠ "java/lang/invoke/MethodHandle" ∧ yX4_tell.cls ≠ "java/lang/invoke/VarHandle" ∧ (parseMethodDescriptor yX4_tell.desc).map (fun d => d.parameters.length) = some 2 := by decide +kernel
theorem hy_X4_third : yX4_third.cls = RX4 ∧ yX4_third.cls ≠ "java/lang/invoke/MethodHandle" ∧ yX4_third.cls ≠ "java/lang/invoke/VarHandle" ∧ (parseMethodDescriptor yX4_third.desc).map (fun d => d.parameters.length) = some 1 := by decide +kernel
theorem hy_X4_turn : yX4_turn.cls = RX4 ∧ yX4_turn.cls ≠ "java/lang/invoke/MethodHandle" ∧ yX4_turn.cls ≠ "java/lang/invoke/VarHandle" ∧ (parseMethodDescriptor yX4_turn.desc).map (fun d => d.parameters.length) = some 3 := by decide +kernel
theorem hy_X4_turning : yX4_turning.cls = RX4 ∧ yX4_turning.cls ≠ "java/lang/invoke/MethodHandle" ∧ yX4_turning.cls ≠ "java/lang/invoke/VarHandle" ∧ (parseMethodDescriptor yX4_turning.desc).map (fun d => d.parameters.length) = some 3 := by decide +kernel
theorem hy_X5_begin : yX5_begin.cls = RX5 ∧ yX5_begin.cls ≠ "java/lang/invoke/MethodHandle" ∧ yX5_begin.cls ≠ "java/lang/invoke/VarHandle" ∧ (parseMethodDescriptor yX5_begin.desc).map (fun d => d.parameters.length) = some 0 := by decide +kernel
theorem hy_X5_isAtEnd : yX5_isAtEnd.cls = RX5 ∧ yX5_isAtEnd.cls ≠ "java/lang/invoke/MethodHandle" ∧ yX5_isAtEnd.cls ≠ "java/lang/invoke/VarHandle" ∧ (parseMethodDescriptor yX5_isAtEnd.desc).map (fun d => d.parameters.length) = some 0 := by decide +kernel
theorem hy_X5_knownKind : yX5_knownKind.cls = RX5 ∧ yX5_knownKind.cls ≠ "java/lang/invoke/MethodHandle" ∧ yX5_knownKind.cls ≠ "java/lang/invoke/VarHandle" ∧ (parseMethodDescriptor yX5_knownKind.desc).map (fun d => d.parameters.length) = some 0 := by decide +kernel
theorem hy_X5_readBasin : yX5_readBasin.cls = RX5 ∧ yX5_readBasin.cls ≠ "java/lang/invoke/MethodHandle" ∧ yX5_readBasin.cls ≠ "java/lang/invoke/VarHandle" ∧ (parseMethodDescriptor yX5_readBasin.desc).map (fun d => d.parameters.length) = some 0 := by decide +kernel
theorem hy_X5_readDraw : yX5_readDraw.cls = RX5 ∧ yX5_readDraw.cls ≠ "java/lang/invoke/MethodHandle" ∧ yX5_readDraw.cls ≠ "java/lang/invoke/VarHandle" ∧ (parseMethodDescriptor yX5_readDraw.desc).map (fun d => d.parameters.length) = some 0 := by decide +kernel
theorem hy_X5_readFormula : yX5_readFormula.cls = RX5 ∧ yX5_readFormula.cls ≠ "java/lang/invoke/MethodHandle" ∧ yX5_readFormula.cls ≠ "java/lang/invoke/VarHandle" ∧ (parseMethodDescriptor yX5_readFormula.desc).map (fun d => d.parameters.length) = some 2 := by decide +kernel
theorem hy_X5_readKey : yX5_readKey.cls = RX5 ∧ yX5_readKey.cls ≠ "java/lang/invoke/MethodHandle" ∧ yX5_readKey.cls ≠ "java/lang/invoke/VarHandle" ∧ (parseMethodDescriptor yX5_readKey.desc).map (fun d => d.parameters.length) = some 1 := by decide +kernel
theorem hy_X5_readKind : yX5_readKind.cls = RX5 ∧ yX5_readKind.cls ≠ "java/lang/invoke/MethodHandle" ∧ yX5_readKind.cls ≠ "java/lang/invoke/VarHandle" ∧ (parseMethodDescriptor yX5_readKind.desc).map (fun d => d.parameters.length) = some 0 := by decide +kernel
theorem hy_X5_readKnownKind : yX5_readKnownKind.cls = RX5 ∧ yX5_readKnownKind.cls ≠ "java/lang/invoke/MethodHandle" ∧ yX5_readKnownKind.cls ≠ "java/lang/invoke/VarHandle" ∧ (parseMethodDescriptor yX5_readKnownKind.desc).map (fun d => d.parameters.length) = some 0 := by decide +kernel
theorem hy_X5_readLine : yX5_readLine.cls = RX5 ∧ yX5_readLine.cls ≠ "java/lang/invoke/MethodHandle" ∧ yX5_readLine.cls ≠ "java/lang/invoke/VarHandle" ∧ (parseMethodDescriptor yX5_readLine.desc).map (fun d => d.parameters.length) = some 0 := by decide +kernel
theorem hy_X5_readNewName : yX5_readNewName.cls = RX5 ∧ yX5_readNewName.cls ≠ "java/lang/invoke/MethodHandle" ∧ yX5_readNewName.cls ≠ "java/lang/invoke/VarHandle" ∧ (parseMethodDescriptor yX5_readNewName.desc).map (fun d => d.parameters.length) = some 2 := by decide +kernel
theorem hy_X5_readNot : yX5_readNot.cls = RX5 ∧ yX5_readNot.cls ≠ "java/lang/invoke/MethodHandle" ∧ yX5_readNot.cls ≠ "java/lang/invoke/VarHandle" ∧ (parseMethodDescriptor yX5_readNot.desc).map (fun d => d.parameters.length) = some 1 := by decide +kernel
theorem hy_X5_readNumber : yX5_readNumber.cls = RX5 ∧ yX5_readNumber.cls ≠ "java/lang/invoke/MethodHandle" ∧ yX5_readNumber.cls ≠ "java/lang/invoke/VarHandle" ∧ (parseMethodDescriptor yX5_readNumber.desc).map (fun d => d.parameters.length) = some 2 := by decide +kernel
theorem hy_X5_readPerson : yX5_readPerson.cls = RX5 ∧ yX5_readPerson.cls ≠ "java/lang/invoke/MethodHandle" ∧ yX5_readPerson.cls ≠ "java/lang/invoke/VarHandle" ∧ (parseMethodDescriptor yX5_readPerson.desc).map (fun d => d.parameters.length) = some 0 := by decide +kernel
theorem hy_X5_readPortions : yX5_readPortions.cls = RX5 ∧ yX5_readPortions.cls ≠ "java/lang/invoke/MethodHandle" ∧ yX5_readPortions.cls ≠ "java/lang/invoke/VarHandle" ∧ (parseMethodDescriptor yX5_readPortions.desc).map (fun d => d.parameters.length) = some 2 := by decide +kernel
theorem hy_X5_readRises : yX5_readRises.cls = RX5 ∧ yX5_readRises.cls ≠ "java/lang/invoke/MethodHandle" ∧ yX5_readRises.cls ≠ "java/lang/invoke/VarHandle" ∧ (parseMethodDescriptor yX5_readRises.desc).map (fun d => d.parameters.length) = some 0 := by decide +kernel
theorem hy_X5_readRule : yX5_readRule.cls = RX5 ∧ yX5_readRule.cls ≠ "java/lang/invoke/MethodHandle" ∧ yX5_readRule.cls ≠ "java/lang/invoke/VarHandle" ∧ (parseMethodDescriptor yX5_readRule.desc).map (fun d => d.parameters.length) = some 0 := by decide +kernel
theorem hy_X5_readScum : yX5_readScum.cls = RX5 ∧ yX5_readScum.cls ≠ "java/lang/invoke/MethodHandle" ∧ yX5_readScum.cls ≠ "java/lang/invoke/VarHandle" ∧ (parseMethodDescriptor yX5_readScum.desc).map (fun d => d.parameters.length) = some 0 := by decide +kernel
theorem hy_X5_readSign : yX5_readSign.cls = RX5 ∧ yX5_readSign.cls ≠ "java/lang/invoke/MethodHandle" ∧ yX5_readSign.cls ≠ "java/lang/invoke/VarHandle" ∧ (parseMethodDescriptor yX5_readSign.desc).map (fun d => d.parameters.length) = some 1 := by decide +kernel
theorem hy_X5_readUnit : yX5_readUnit.cls = RX5 ∧ yX5_readUnit.cls ≠ "java/lang/invoke/MethodHandle" ∧ yX5_readUnit.cls ≠ "java/lang/invoke/VarHandle" ∧ (parseMethodDescriptor yX5_readUnit.desc).map (fun d => d.parameters.length) = some 1 := by decide +kernel
theorem hy_X5_refuse : yX5_refuse.cls = RX5 ∧ yX5_refuse.cls ≠ "java/lang/invoke/MethodHandle" ∧ yX5_refuse.cls ≠ "java/lang/invoke/VarHandle" ∧ (parseMethodDescriptor yX5_refuse.desc).map (fun d => d.parameters.length) = some 1 := by decide +kernel
theorem hy_X5_signOfLevel : yX5_signOfLevel.cls = RX5 ∧ yX5_signOfLevel.cls ≠ "java/lang/invoke/MethodHandle" ∧ yX5_signOfLevel.cls ≠ "java/lang/invoke/VarHandle" ∧ (parseMethodDescriptor yX5_signOfLevel.desc).map (fun d => d.parameters.length) = some 1 := by decide +kernel
theorem hy_X6_add : yX6_add.cls = RX6 ∧ yX6_add.cls ≠ "java/lang/invoke/MethodHandle" ∧ yX6_add.cls ≠ "java/lang/invoke/VarHandle" ∧ (parseMethodDescriptor yX6_add.desc).map (fun d => d.parameters.length) = some 5 := by decide +kernel
theorem hy_X6_alike : yX6_alike.cls = RX6 ∧ yX6_alike.cls ≠ "java/lang/invoke/MethodHandle" ∧ yX6_alike.cls ≠ "java/lang/invoke/VarHandle" ∧ (parseMethodDescriptor yX6_alike.desc).map (fun d => d.parameters.length) = some 4 := by decide +kernel
theorem hy_X6_cell : yX6_cell.cls ≠ "java/lang/invoke/MethodHandle" ∧ yX6_cell.cls ≠ "java/lang/invoke/VarHandle" ∧ (parseMethodDescriptor yX6_cell.desc).map (fun d => d.parameters.length) = some 2 := by decide +kernel
theorem hy_X6_counts : yX6_counts.cls = RX6 ∧ yX6_counts.cls ≠ "java/lang/invoke/MethodHandle" ∧ yX6_counts.cls ≠ "java/lang/invoke/VarHandle" ∧ (parseMethodDescriptor yX6_counts.desc).map (fun d => d.parameters.length) = some 2 := by decide +kernel
theorem hy_X6_fitting : yX6_fitting.cls = RX6 ∧ yX6_fitting.cls ≠ "java/lang/invoke/MethodHandle" ∧ yX6_fitting.cls ≠ "java/lang/invoke/VarHandle" ∧ (parseMethodDescriptor yX6_fitting.desc).map (fun d => d.parameters.length) = some 2 := by decide +kernel
theorem hy_X6_followCourses : yX6_followCourses.cls = RX6 ∧ yX6_followCourses.cls ≠ "java/lang/invoke/MethodHandle" ∧ yX6_followCourses.cls ≠ "java/lang/invoke/VarHandle" ∧ (parseMethodDescriptor yX6_followCourses.desc).map (fun d => d.parameters.length) = some 1 := by decide +kernel
theorem hy_X6_forget : yX6_forget.cls = RX6 ∧ yX6_forget.cls ≠ "java/lang/invoke/MethodHandle" ∧ yX6_forget.cls ≠ "java/lang/invoke/VarHandle" ∧ (parseMethodDescriptor yX6_forget.desc).map (fun d => d.parameters.length) = some 0 := by decide +kernel
theorem hy_X6_isBorneOut : yX6_isBorneOut.cls = RX6 ∧ yX6_isBorneOut.cls ≠ "java/lang/invoke/MethodHandle" ∧ yX6_isBorneOut.cls ≠ "java/lang/invoke/VarHandle" ∧ (parseMethodDescriptor yX6_isBorneOut.desc).map (fun d => d.parameters.length) = some 2 := by decide +kernel
theorem hy_X6_leftAtMost : yX6_leftAtMost.cls = RX6 ∧ yX6_leftAtMost.cls ≠ "java/lang/invoke/MethodHandle" ∧ yX6_leftAtMost.cls ≠ "java/lang/invoke/VarHandle" ∧ (parseMethodDescriptor yX6_leftAtMost.desc).map (fun d => d.parameters.length) = some 3 := by decide +kernel
theorem hy_X6_takeBack : yX6_takeBack.cls = RX6 ∧ yX6_takeBack.cls ≠ "java/lang/invoke/MethodHandle" ∧ yX6_takeBack.cls ≠ "java/lang/invoke/VarHandle" ∧ (parseMethodDescriptor yX6_takeBack.desc).map (fun d => d.parameters.length) = some 2 := by decide +kernel
theorem hy_X6_tellAll : yX6_tellAll.cls = RX6 ∧ yX6_tellAll.cls ≠ "java/lang/invoke/MethodHandle" ∧ yX6_tellAll.cls ≠ "java/lang/invoke/VarHandle" ∧ (parseMethodDescriptor yX6_tellAll.desc).map (fun d => d.parameters.length) = some 2 := by decide +kernel
theorem hy_X7_append : yX7_append.cls = RX7 ∧ yX7_append.cls ≠ "java/lang/invoke/MethodHandle" ∧ yX7_append.cls ≠ "java/lang/invoke/VarHandle" ∧ (parseMethodDescriptor yX7_append.desc).map (fun d => d.parameters.length) = some 1 := by decide +kernel
theorem hy_X7_find : yX7_find.cls ≠ "java/lang/invoke/MethodHandle" ∧ yX7_find.cls ≠ "java/lang/invoke/VarHandle" ∧ (parseMethodDescriptor yX7_find.desc).map (fun d => d.parameters.length) = some 3 := by decide +kernel
theorem hy_X7_isBlank : yX7_isBlank.cls ≠ "java/lang/invoke/MethodHandle" ∧ yX7_isBlank.cls ≠ "java/lang/invoke/VarHandle" ∧ (parseMethodDescriptor yX7_isBlank.desc).map (fun d => d.parameters.length) = some 1 := by decide +kernel
theorem hy_X7_isDigit : yX7_isDigit.cls ≠ "java/lang/invoke/MethodHandle" ∧ yX7_isDigit.cls ≠ "java/lang/invoke/VarHandle" ∧ (parseMethodDescriptor yX7_isDigit.desc).map (fun d => d.parameters.length) = some 1 := by decide +kernel
theorem hy_X7_isLetter : yX7_isLetter.cls ≠ "java/lang/invoke/MethodHandle" ∧ yX7_isLetter.cls ≠ "java/lang/invoke/VarHandle" ∧ (parseMethodDescriptor yX7_isLetter.desc).map (fun d => d.parameters.length) = some 1 := by decide +kernel
theorem hy_X7_isName : yX7_isName.cls = RX7 ∧ yX7_isName.cls ≠ "java/lang/invoke/MethodHandle" ∧ yX7_isName.cls ≠ "java/lang/invoke/VarHandle" ∧ (parseMethodDescriptor yX7_isName.desc).map (fun d => d.parameters.length) = some 0 := by decide +kernel
theorem hy_X7_readFirst : yX7_readFirst.cls = RX7 ∧ yX7_readFirst.cls ≠ "java/lang/invoke/MethodHandle" ∧ yX7_readFirst.cls ≠ "java/lang/invoke/VarHandle" ∧ (parseMethodDescriptor yX7_readFirst.desc).map (fun d => d.parameters.length) = some 0 := by decide +kernel
theorem hy_X7_readNext : yX7_readNext.cls = RX7 ∧ yX7_readNext.cls ≠ "java/lang/invoke/MethodHandle" ∧ yX7_readNext.cls ≠ "java/lang/invoke/VarHandle" ∧ (parseMethodDescriptor yX7_readNext.desc).map (fun d => d.parameters.length) = some 0 := by decide +kernel
theorem hy_X7_readNumber : yX7_readNumber.cls = RX7 ∧ yX7_readNumber.cls ≠ "java/lang/invoke/MethodHandle" ∧ yX7_readNumber.cls ≠ "java/lang/invoke/VarHandle" ∧ (parseMethodDescriptor yX7_readNumber.desc).map (fun d => d.parameters.length) = some 0 := by decide +kernel
theorem hy_X7_readSign : yX7_readSign.cls = RX7 ∧ yX7_readSign.cls ≠ "java/lang/invoke/MethodHandle" ∧ yX7_readSign.cls ≠ "java/lang/invoke/VarHandle" ∧ (parseMethodDescriptor yX7_readSign.desc).map (fun d => d.parameters.length) = some 0 := by decide +kernel
theorem hy_X7_readWord : yX7_readWord.cls = RX7 ∧ yX7_readWord.cls ≠ "java/lang/invoke/MethodHandle" ∧ yX7_readWord.cls ≠ "java/lang/invoke/VarHandle" ∧ (parseMethodDescriptor yX7_readWord.desc).map (fun d => d.parameters.length) = some 0 := by decide +kernel
theorem hy_X7_spelled : yX7_spelled.cls ≠ "java/lang/invoke/MethodHandle" ∧ yX7_spelled.cls ≠ "java/lang/invoke/VarHandle" ∧ (parseMethodDescriptor yX7_spelled.desc).map (fun d => d.parameters.length) = some 2 := by decide +kernel
theorem hy_X8_all : yX8_all.cls = RX8 ∧ yX8_all.cls ≠ "java/lang/invoke/MethodHandle" ∧ yX8_all.cls ≠ "java/lang/invoke/VarHandle" ∧ (parseMethodDescriptor yX8_all.desc).map (fun d => d.parameters.length) = some 0 := by decide +kernel
theorem hy_X8_begin : yX8_begin.cls = RX8 ∧ yX8_begin.cls ≠ "java/lang/invoke/MethodHandle" ∧ yX8_begin.cls ≠ "java/lang/invoke/VarHandle" ∧ (parseMethodDescriptor yX8_begin.desc).map (fun d => d.parameters.length) = some 1 := by decide +kernel
theorem hy_X8_copy : yX8_copy.cls = RX8 ∧ yX8_copy.cls ≠ "java/lang/invoke/MethodHandle" ∧ yX8_copy.cls ≠ "java/lang/invoke/VarHandle" ∧ (parseMethodDescriptor yX8_copy.desc).map (fun d => d.parameters.length) = some 1 := by decide +kernel
theorem hy_X8_load : yX8_load.cls = RX8 ∧ yX8_load.cls ≠ "java/lang/invoke/MethodHandle" ∧ yX8_load.cls ≠ "java/lang/invoke/VarHandle" ∧ (parseMethodDescriptor yX8_load.desc).map (fun d => d.parameters.length) = some 2 := by decide +kernel
theorem hy_X8_save : yX8_save.cls = RX8 ∧ yX8_save.cls ≠ "java/lang/invoke/MethodHandle" ∧ yX8_save.cls ≠ "java/lang/invoke/VarHandle" ∧ (parseMethodDescriptor yX8_save.desc).map (fun d => d.parameters.length) = some 2 := by decide +kernel
theorem hy_X9_about : yX9_about.cls = RX9 ∧ yX9_about.cls ≠ "java/lang/invoke/MethodHandle" ∧ yX9_about.cls ≠ "java/lang/invoke/VarHandle" ∧ (parseMethodDescriptor yX9_about.desc).map (fun d => d.parameters.length) = some 1 := by decide +kernel
theorem hy_X9_alive : yX9_alive.cls = RX9 ∧ yX9_alive.cls ≠ "java/lang/invoke/MethodHandle" ∧ yX9_alive.cls ≠ "java/lang/invoke/VarHandle" ∧ (parseMethodDescriptor yX9_alive.desc).map (fun d => d.parameters.length) = some 0 := by decide +kernel
theorem hy_X9_ask : yX9_ask.cls = RX9 ∧ yX9_ask.cls ≠ "java/lang/invoke/MethodHandle" ∧ yX9_ask.cls ≠ "java/lang/invoke/VarHandle" ∧ (parseMethodDescriptor yX9_ask.desc).map (fun d => d.parameters.length) = some 3 := by decide +kernel
theorem hy_X9_back : yX9_back.cls = RX9 ∧ yX9_back.cls ≠ "java/lang/invoke/MethodHandle" ∧ yX9_back.cls ≠ "java/lang/invoke/VarHandle" ∧ (parseMethodDescriptor yX9_back.desc).map (fun d => d.parameters.length) = some 1 := by decide +kernel
theorem hy_X9_balm : yX9_balm.cls = RX9 ∧ yX9_balm.cls ≠ "java/lang/invoke/MethodHandle" ∧ yX9_balm.cls ≠ "java/lang/invoke/VarHandle" ∧ (parseMethodDescriptor yX9_balm.desc).map (fun d => d.parameters.length) = some 2 := by decide +kernel
theorem hy_X9_boil : yX9_boil.cls = RX9 ∧ yX9_boil.cls ≠ "java/lang/invoke/MethodHandle" ∧ yX9_boil.cls ≠ "java/lang/invoke/VarHandle" ∧ (parseMethodDescriptor yX9_boil.desc).map (fun d => d.parameters.length) = some 0 := by decide +kernel
theorem hy_X9_choir : yX9_choir.cls = RX9 ∧ yX9_choir.cls ≠ "java/lang/invoke/MethodHandle" ∧ yX9_choir.cls ≠ "java/lang/invoke/VarHandle" ∧ (parseMethodDescriptor yX9_choir.desc).map (fun d => d.parameters.length) = some 2 := by decide +kernel
theorem hy_X9_comes : yX9_comes.cls = RX9 ∧ yX9_comes.cls ≠ "java/lang/invoke/MethodHandle" ∧ yX9_comes.cls ≠ "java/lang/invoke/VarHandle" ∧ (parseMethodDescriptor yX9_comes.desc).map (fun d => d.parameters.length) = some 1 := by decide +kernel
theorem hy_X9_commonDivisor : yX9_commonDivisor.cls ≠ "java/lang/invoke/MethodHandle" ∧ yX9_commonDivisor.cls ≠ "java/lang/invoke/VarHandle" ∧ (parseMethodDescriptor yX9_commonDivisor.desc).map (fun d => d.parameters.length) = some 2 := by decide +kernel
theorem hy_X9_confess : yX9_confess.cls = RX9 ∧ yX9_confess.cls ≠ "java/lang/invoke/MethodHandle" ∧ yX9_confess.cls ≠ "java/lang/invoke/VarHandle" ∧ (parseMethodDescriptor yX9_confess.desc).map (fun d => d.parameters.length) = some 1 := by decide +kernel
theorem hy_X9_cook : yX9_cook.cls = RX9 ∧ yX9_cook.cls ≠ "java/lang/invoke/MethodHandle" ∧ yX9_cook.cls ≠ "java/lang/invoke/VarHandle" ∧ (parseMethodDescriptor yX9_cook.desc).map (fun d => d.parameters.length) = some 1 := by decide +kernel
theorem hy_X9_countOrBits : yX9_countOrBits.cls ≠ "java/lang/invoke/MethodHandle" ∧ yX9_countOrBits.cls ≠ "java/lang/invoke/VarHandle" ∧ (parseMethodDescriptor yX9_countOrBits.desc).map (fun d => d.parameters.length) = some 2 := by decide +kernel
theorem hy_X9_duel : yX9_duel.cls = RX9 ∧ yX9_duel.cls ≠ "java/lang/invoke/MethodHandle" ∧ yX9_duel.cls ≠ "java/lang/invoke/VarHandle" ∧ (parseMethodDescriptor yX9_duel.desc).map (fun d => d.parameters.length) = some 2 := by decide +kernel
theorem hy_X9_end : yX9_end.cls = RX9 ∧ yX9_end.cls ≠ "java/lang/invoke/MethodHandle" ∧ yX9_end.cls ≠ "java/lang/invoke/VarHandle" ∧ (parseMethodDescriptor yX9_end.desc).map (fun d => d.parameters.length) = some 1 := by decide +kernel
theorem hy_X9_fault : yX9_fault.cls = RX9 ∧ yX9_fault.cls ≠ "java/lang/invoke/MethodHandle" ∧ yX9_fault.cls ≠ "java/lang/invoke/VarHandle" ∧ (parseMethodDescriptor yX9_fault.desc).map (fun d => d.parameters.length) = some 1 := by decide +kernel
theorem hy_X9_feed : yX9_feed.cls = RX9 ∧ yX9_feed.cls ≠ "java/lang/invoke/MethodHandle" ∧ yX9_feed.cls ≠ "java/lang/invoke/VarHandle" ∧ (parseMethodDescriptor yX9_feed.desc).map (fun d => d.parameters.length) = some 5 := by decide +kernel
theorem hy_X9_fits : yX9_fits.cls = RX9 ∧ yX9_fits.cls ≠ "java/lang/invoke/MethodHandle" ∧ yX9_fits.cls ≠ "java/lang/invoke/VarHandle" ∧ (parseMethodDescriptor yX9_fits.desc).map (fun d => d.parameters.length) = some 1 := by decide +kernel
theorem hy_X9_heaviest : yX9_heaviest.cls = RX9 ∧ yX9_heaviest.cls ≠ "java/lang/invoke/MethodHandle" ∧ yX9_heaviest.cls ≠ "java/lang/invoke/VarHandle" ∧ (parseMethodDescriptor yX9_heaviest.desc).map (fun d => d.parameters.length) = some 0 := by decide +kernel
theorem hy_X9_image : yX9_image.cls = RX9 ∧ yX9_image.cls ≠ "java/lang/invoke/MethodHandle" ∧ yX9_image.cls ≠ "java/lang/invoke/VarHandle" ∧ (parseMethodDescriptor yX9_image.desc).map (fun d => d.parameters.length) = some 1 := by decide +kernel
theorem hy_X9_inert : yX9_inert.cls = RX9 ∧ yX9_inert.cls ≠ "java/lang/invoke/MethodHandle" ∧ yX9_inert.cls ≠ "java/lang/invoke/VarHandle" ∧ (parseMethodDescriptor yX9_inert.desc).map (fun d => d.parameters.length) = some 0 := by decide +kernel
theorem hy_X9_isEased : yX9_isEased.cls = RX9 ∧ yX9_isEased.cls ≠ "java/lang/invoke/MethodHandle" ∧ yX9_isEased.cls ≠ "java/lang/invoke/VarHandle" ∧ (parseMethodDescriptor yX9_isEased.desc).map (fun d => d.parameters.length) = some 1 := by decide +kernel
theorem hy_X9_isFewer : yX9_isFewer.cls ≠ "java/lang/invoke/MethodHandle" ∧ yX9_isFewer.cls ≠ "java/lang/invoke/VarHandle" ∧ (parseMethodDescriptor yX9_isFewer.desc).map (fun d => d.parameters.length) = some 2 := by decide +kernel
theorem hy_X9_isSilent : yX9_isSilent.cls = RX9 ∧ yX9_isSilent.cls ≠ "java/lang/invoke/MethodHandle" ∧ yX9_isSilent.cls ≠ "java/lang/invoke/VarHandle" ∧ (parseMethodDescriptor yX9_isSilent.desc).map (fun d => d.parameters.length) = some 1 := by decide +kernel
theorem hy_X9_lacks : yX9_lacks.cls = RX9 ∧ yX9_lacks.cls ≠ "java/lang/invoke/MethodHandle" ∧ yX9_lacks.cls ≠ "java/lang/invoke/VarHandle" ∧ (parseMethodDescriptor yX9_lacks.desc).map (fun d => d.parameters.length) = some 1 := by decide +kernel
theorem hy_X9_later : yX9_later.cls = RX9 ∧ yX9_later.cls ≠ "java/lang/invoke/MethodHandle" ∧ yX9_later.cls ≠ "java/lang/invoke/VarHandle" ∧ (parseMethodDescriptor yX9_later.desc).map (fun d => d.parameters.length) = some 1 := by decide +kernel
theorem hy_X9_law : yX9_law.cls = RX9 ∧ yX9_law.cls ≠ "java/lang/invoke/MethodHandle" ∧ yX9_law.cls ≠ "java/lang/invoke/VarHandle" ∧ (parseMethodDescriptor yX9_law.desc).map (fun d => d.parameters.length) = some 1 := by decide +kernel
theorem hy_X9_lies : yX9_lies.cls = RX9 ∧ yX9_lies.cls ≠ "java/lang/invoke/MethodHandle" ∧ yX9_lies.cls ≠ "java/lang/invoke/VarHandle" ∧ (parseMethodDescriptor yX9_lies.desc).map (fun d => d.parameters.length) = some 1 := by decide +kernel
theorem hy_X9_makers : yX9_makers.cls = RX9 ∧ yX9_makers.cls ≠ "java/lang/invoke/MethodHandle" ∧ yX9_makers.cls ≠ "java/lang/invoke/VarHandle" ∧ (parseMethodDescriptor yX9_makers.desc).map (fun d => d.parameters.length) = some 1 := by decide +kernel
theorem hy_X9_mind : yX9_mind.cls = RX9 ∧ yX9_mind.cls ≠ "java/lang/invoke/MethodHandle" ∧ yX9_mind.cls ≠ "java/lang/invoke/VarHandle" ∧ (parseMethodDescriptor yX9_mind.desc).map (fun d => d.parameters.length) = some 2 := by decide +kernel
theorem hy_X9_mission : yX9_mission.cls = RX9 ∧ yX9_mission.cls ≠ "java/lang/invoke/MethodHandle" ∧ yX9_mission.cls ≠ "java/lang/invoke/VarHandle" ∧ (parseMethodDescriptor yX9_mission.desc).map (fun d => d.parameters.length) = some 0 := by decide +kernel
theorem hy_X9_nearest : yX9_nearest.cls = RX9 ∧ yX9_nearest.cls ≠ "java/lang/invoke/MethodHandle" ∧ yX9_nearest.cls ≠ "java/lang/invoke/VarHandle" ∧ (parseMethodDescriptor yX9_nearest.desc).map (fun d => d.parameters.length) = some 0 := by decide +kernel
theorem hy_X9_odds : yX9_odds.cls = RX9 ∧ yX9_odds.cls ≠ "java/lang/invoke/MethodHandle" ∧ yX9_odds.cls ≠ "java/lang/invoke/VarHandle" ∧ (parseMethodDescriptor yX9_odds.desc).map (fun d => d.parameters.length) = some 2 := by decide +kernel
theorem hy_X9_order : yX9_order.cls = RX9 ∧ yX9_order.cls ≠ "java/lang/invoke/MethodHandle" ∧ yX9_order.cls ≠ "java/lang/invoke/VarHandle" ∧ (parseMethodDescriptor yX9_order.desc).map (fun d => d.parameters.length) = some 1 := by decide +kernel
theorem hy_X9_power : yX9_power.cls = RX9 ∧ yX9_power.cls ≠ "java/lang/invoke/MethodHandle" ∧ yX9_power.cls ≠ "java/lang/invoke/VarHandle" ∧ (parseMethodDescriptor yX9_power.desc).map (fun d => d.parameters.length) = some 1 := by decide +kernel
theorem hy_X9_redo : yX9_redo.cls = RX9 ∧ yX9_redo.cls ≠ "java/lang/invoke/MethodHandle" ∧ yX9_redo.cls ≠ "java/lang/invoke/VarHandle" ∧ (parseMethodDescriptor yX9_redo.desc).map (fun d => d.parameters.length) = some 0 := by decide +kernel
theorem hy_X9_rest : yX9_rest.cls = RX9 ∧ yX9_rest.cls ≠ "java/lang/invoke/MethodHandle" ∧ yX9_rest.cls ≠ "java/lang/invoke/VarHandle" ∧ (parseMethodDescriptor yX9_rest.desc).map (fun d => d.parameters.length) = some 0 := by decide +kernel
theorem hy_X9_rise : yX9_rise.cls = RX9 ∧ yX9_rise.cls ≠ "java/lang/invoke/MethodHandle" ∧ yX9_rise.cls ≠ "java/lang/invoke/VarHandle" ∧ (parseMethodDescriptor yX9_rise.desc).map (fun d => d.parameters.length) = some 0 := by decide +kernel
theorem hy_X9_rouser : yX9_rouser.cls = RX9 ∧ yX9_rouser.cls ≠ "java/lang/invoke/MethodHandle" ∧ yX9_rouser.cls ≠ "java/lang/invoke/VarHandle" ∧ (parseMethodDescriptor yX9_rouser.desc).map (fun d => d.parameters.length) = some 1 := by decide +kernel
theorem hy_X9_rule : yX9_rule.cls = RX9 ∧ yX9_rule.cls ≠ "java/lang/invoke/MethodHandle" ∧ yX9_rule.cls ≠ "java/lang/invoke/VarHandle" ∧ (parseMethodDescriptor yX9_rule.desc).map (fun d => d.parameters.length) = some 2 := by decide +kernel
theorem hy_X9_seen : yX9_seen.cls = RX9 ∧ yX9_seen.cls ≠ "java/lang/invoke/MethodHandle" ∧ yX9_seen.cls ≠ "java/lang/invoke/VarHandle" ∧ (parseMethodDescriptor yX9_seen.desc).map (fun d => d.parameters.length) = some 4 := by decide +kernel
theorem hy_X9_serve : yX9_serve.cls = RX9 ∧ yX9_serve.cls ≠ "java/lang/invoke/MethodHandle" ∧ yX9_serve.cls ≠ "java/lang/invoke/VarHandle" ∧ (parseMethodDescriptor yX9_serve.desc).map (fun d => d.parameters.length) = some 1 := by decide +kernel
theorem hy_X9_silentOnes : yX9_silentOnes.cls = RX9 ∧ yX9_silentOnes.cls ≠ "java/lang/invoke/MethodHandle" ∧ yX9_silentOnes.cls ≠ "java/lang/invoke/VarHandle" ∧ (parseMethodDescriptor yX9_silentOnes.desc).map (fun d => d.parameters.length) = some 0 := by decide +kernel
theorem hy_X9_sinners : yX9_sinners.cls = RX9 ∧ yX9_sinners.cls ≠ "java/lang/invoke/MethodHandle" ∧ yX9_sinners.cls ≠ "java/lang/invoke/VarHandle" ∧ (parseMethodDescriptor yX9_sinners.desc).map (fun d => d.parameters.length) = some 1 := by decide +kernel
theorem hy_X9_steps : yX9_steps.cls = RX9 ∧ yX9_steps.cls ≠ "java/lang/invoke/MethodHandle" ∧ yX9_steps.cls ≠ "java/lang/invoke/VarHandle" ∧ (parseMethodDescriptor yX9_steps.desc).map (fun d => d.parameters.length) = some 2 := by decide +kernel
theorem hy_X9_sure : yX9_sure.cls = RX9 ∧ yX9_sure.cls ≠ "java/lang/invoke/MethodHandle" ∧ yX9_sure.cls ≠ "java/lang/invoke/VarHandle" ∧ (parseMethodDescriptor yX9_sure.desc).map (fun d => d.parameters.length) = some 2 := by decide +kernel
theorem hy_X9_sweep : yX9_sweep.cls = RX9 ∧ yX9_sweep.cls ≠ "java/lang/invoke/MethodHandle" ∧ yX9_sweep.cls ≠ "java/lang/invoke/VarHandle" ∧ (parseMethodDescriptor yX9_sweep.desc).map (fun d => d.parameters.length) = some 1 := by decide +kernel
theorem hy_X9_thickest : yX9_thickest.cls = RX9 ∧ yX9_thickest.cls ≠ "java/lang/invoke/MethodHandle" ∧ yX9_thickest.cls ≠ "java/lang/invoke/VarHandle" ∧ (parseMethodDescriptor yX9_thickest.desc).map (fun d => d.parameters.length) = some 0 := by decide +kernel
theorem hy_X9_thinnest : yX9_thinnest.cls = RX9 ∧ yX9_thinnest.cls ≠ "java/lang/invoke/MethodHandle" ∧ yX9_thinnest.cls ≠ "java/lang/invoke/VarHandle" ∧ (parseMethodDescriptor yX9_thinnest.desc).map (fun d => d.parameters.length) = some 0 := by decide +kernel
theorem hy_X9_undo : yX9_undo.cls = RX9 ∧ yX9_undo.cls ≠ "java/lang/invoke/MethodHandle" ∧ yX9_undo.cls ≠ "java/lang/invoke/VarHandle" ∧ (parseMethodDescriptor yX9_undo.desc).map (fun d => d.parameters.length) = some 0 := by decide +kernel
theorem hy_X9_untell : yX9_untell.cls = RX9 ∧ yX9_untell.cls ≠ "java/lang/invoke/MethodHandle" ∧ yX9_untell.cls ≠ "java/lang/invoke/VarHandle" ∧ (parseMethodDescriptor yX9_untell.desc).map (fun d => d.parameters.length) = some 1 := by decide +kernel
theorem hy_X9_vat : yX9_vat.cls = RX9 ∧ yX9_vat.cls ≠ "java/lang/invoke/MethodHandle" ∧ yX9_vat.cls ≠ "java/lang/invoke/VarHandle" ∧ (parseMethodDescriptor yX9_vat.desc).map (fun d => d.parameters.length) = some 1 := by decide +kernel
theorem hy_X9_wanted : yX9_wanted.cls = RX9 ∧ yX9_wanted.cls ≠ "java/lang/invoke/MethodHandle" ∧ yX9_wanted.cls ≠ "java/lang/invoke/VarHandle" ∧ (parseMethodDescriptor yX9_wanted.desc).map (fun d => d.parameters.length) = some 1 := by decide +kernel
theorem hy_X9_wants : yX9_wants.cls = RX9 ∧ yX9_wants.cls ≠ "java/lang/invoke/MethodHandle" ∧ yX9_wants.cls ≠ "java/lang/invoke/VarHandle" ∧ (parseMethodDescriptor yX9_wants.desc).map (fun d => d.parameters.length) = some 2 := by decide +kernel
theorem hy_X9_wash : yX9_wash.cls = RX9 ∧ yX9_wash.cls ≠ "java/lang/invoke/MethodHandle" ∧ yX9_wash.cls ≠ "java/lang/invoke/VarHandle" ∧ (parseMethodDescriptor yX9_wash.desc).map (fun d => d.parameters.length) = some 1 := by decide +kernel
theorem hy_X9_will : yX9_will.cls = RX9 ∧ yX9_will.cls ≠ "java/lang/invoke/MethodHandle" ∧ yX9_will.cls ≠ "java/lang/invoke/VarHandle" ∧ (parseMethodDescriptor yX9_will.desc).map (fun d => d.parameters.length) = some 3 := by decide +kernel
theorem hy_X9_works : yX9_works.cls = RX9 ∧ yX9_works.cls ≠ "java/lang/invoke/MethodHandle" ∧ yX9_works.cls ≠ "java/lang/invoke/VarHandle" ∧ (parseMethodDescriptor yX9_works.desc).map (fun d => d.parameters.length) = some 0 := by decide +kernel
theorem kn_X9_233 : Cond.constant RX9 233 (2147483647) ∈ sw_T := sw_T_of (i := 1085) (by decide +kernel) rfl
theorem kn_X9_271 : Cond.constant RX9 271 (100000) ∈ sw_T := sw_T_of (i := 1168) (by decide +kernel) rfl
theorem kn_X10_506 : Cond.constant RX10 506 (100000) ∈ sw_T := sw_T_of (i := 1956) (by decide +kernel) rfl
theorem kn_J11_76 : Cond.constant RJ11 76 (56320) ∈ sw_T := sw_T_of (i := 651) (by decide +kernel) rfl
theorem kn_J11_110 : Cond.constant RJ11 110 (55232) ∈ sw_T := sw_T_of (i := 647) (by decide +kernel) rfl
theorem kn_J6_264 : Cond.constant RJ6 264 (65536) ∈ sw_T := sw_T_of (i := 1080) (by decide +kernel) rfl
theorem kn_J6_265 : Cond.constant RJ6 265 (1431655765) ∈ sw_T := sw_T_of (i := 899) (by decide +kernel) rfl
theorem kn_J6_266 : Cond.constant RJ6 266 (858993459) ∈ sw_T := sw_T_of (i := 900) (by decide +kernel) rfl
theorem kn_J6_267 : Cond.constant RJ6 267 (252645135) ∈ sw_T := sw_T_of (i := 901) (by decide +kernel) rfl
theorem kn_J2_227 : Cond.constant RJ2 227 (65536) ∈ sw_T := sw_T_of (i := 622) (by decide +kernel) rfl
theorem kn_X7_96 : Cond.constantLong RX7 96 (27) ∈ sw_T := sw_T_of (i := 195) (by decide +kernel) rfl
theorem kn_X7_98 : Cond.constantLong RX7 98 (97) ∈ sw_T := sw_T_of (i := 196) (by decide +kernel) rfl
theorem kn_X10_161 : Cond.constantLong RX10 161 (1802071652) ∈ sw_T := sw_T_of (i := 1522) (by decide +kernel) rfl
theorem kn_X10_163 : Cond.constantLong RX10 163 (123581014175598) ∈ sw_T := sw_T_of (i := 1543) (by decide +kernel) rfl
theorem kn_X10_165 : Cond.constantLong RX10 165 (6840691) ∈ sw_T := sw_T_of (i := 1544) (by decide +kernel) rfl
theorem kn_X10_167 : Cond.constantLong RX10 167 (422775975027) ∈ sw_T := sw_T_of (i := 1545) (by decide +kernel) rfl
theorem kn_X10_169 : Cond.constantLong RX10 169 (1768846447) ∈ sw_T := sw_T_of (i := 1546) (by decide +kernel) rfl
theorem kn_X10_171 : Cond.constantLong RX10 171 (422541748590) ∈ sw_T := sw_T_of (i := 1547) (by decide +kernel) rfl
theorem kn_X10_173 : Cond.constantLong RX10 173 (512735736947) ∈ sw_T := sw_T_of (i := 1548) (by decide +kernel) rfl
theorem kn_X10_175 : Cond.constantLong RX10 175 (491395442035) ∈ sw_T := sw_T_of (i := 1549) (by decide +kernel) rfl
theorem kn_X10_177 : Cond.constantLong RX10 177 (1935897965) ∈ sw_T := sw_T_of (i := 1550) (by decide +kernel) rfl
theorem kn_X10_179 : Cond.constantLong RX10 179 (1685217655) ∈ sw_T := sw_T_of (i := 1551) (by decide +kernel) rfl
theorem kn_X10_181 : Cond.constantLong RX10 181 (6384748) ∈ sw_T := sw_T_of (i := 1552) (by decide +kernel) rfl
theorem kn_X10_183 : Cond.constantLong RX10 183 (461330343027) ∈ sw_T := sw_T_of (i := 1553) (by decide +kernel) rfl
theorem kn_X10_185 : Cond.constantLong RX10 185 (1836020596) ∈ sw_T := sw_T_of (i := 1554) (by decide +kernel) rfl
theorem kn_X10_187 : Cond.constantLong RX10 187 (465557353332) ∈ sw_T := sw_T_of (i := 1555) (by decide +kernel) rfl
theorem kn_X10_189 : Cond.constantLong RX10 189 (32762613647897203) ∈ sw_T := sw_T_of (i := 1556) (by decide +kernel) rfl
theorem kn_X10_191 : Cond.constantLong RX10 191 (6578553) ∈ sw_T := sw_T_of (i := 1557) (by decide +kernel) rfl
theorem kn_X10_193 : Cond.constantLong RX10 193 (6385252) ∈ sw_T := sw_T_of (i := 1558) (by decide +kernel) rfl
theorem kn_X10_195 : Cond.constantLong RX10 195 (28530) ∈ sw_T := sw_T_of (i := 1559) (by decide +kernel) rfl
theorem kn_X10_197 : Cond.constantLong RX10 197 (7237492) ∈ sw_T := sw_T_of (i := 1560) (by decide +kernel) rfl
theorem ac_X0_22 : Cond.methodLink RX0 22 arraycopyName ∈ sw_T := sw_T_of (i := 819) (by decide +kernel) rfl
theorem ac_X3_83 : Cond.methodLink RX3 83 arraycopyName ∈ sw_T := sw_T_of (i := 1038) (by decide +kernel) rfl
theorem ac_X6_78 : Cond.methodLink RX6 78 arraycopyName ∈ sw_T := sw_T_of (i := 1191) (by decide +kernel) rfl
theorem ac_X8_37 : Cond.methodLink RX8 37 arraycopyName ∈ sw_T := sw_T_of (i := 826) (by decide +kernel) rfl
theorem ac_nat : Cond.native arraycopyName ∈ sw_T := sw_T_of (i := 821) (by decide +kernel) rfl
theorem ac_sta : Cond.static arraycopyName ∈ sw_T := sw_T_of (i := 820) (by decide +kernel) rfl
theorem ac_ini : Cond.initialized "java/lang/System" ∈ sw_T := sw_T_of (i := 118) (by decide +kernel) rfl
end LINKS
end
section
section MORE
variable {l : Launch} {E : sw_E} {K : Nat} {own : String} {cc : ByteArray} {nL : Nat} {ret : Option FieldType} {pc : Nat} {lv lv' : List (Nat × Value)} {st st0 : List Value} {σ σ' : sw_M} {r : Option Value}
theorem sw_refj {i : Nat} (j : Nat) (h : i = j) (k : sw_Go l E K own cc nL ret pc lv (.ref j :: st) σ r σ') : sw_Go l E K own cc nL ret pc lv (.ref i :: st) σ r σ' := h ▸ k
theorem sw_enter2 {y : MethodName} {As : List Value} (hy : plainName y.cls = true) (hn : (lg_sl As).length ≤ nL) (hown : y.cls = own) (hlv : lv_args 0 As = lv)
    (h : sw_Go l E K own cc nL ret 0 lv [] σ r σ') : sw_Ct l E K y cc nL ret As σ r σ' := by
  subst hown; subst hlv
  exact sw_enter hy hn h
theorem sw_iincv {i : Nat} {n : Int} {x c v : Int32} (j : Nat) (hk : lv[j]? = some (i, .int x)) (hv : v = x + c) (hd : decode cc pc = .ok (.iinc i n, 3)) (hc : Int32.ofInt n = c) (hn : i < nL) (hl2 : (i, Value.int v) :: lv.filter (fun q => !(q.1 == i) && !(q.1 + 1 == i && q.2.category == 2)) = lv') (k : sw_Go l E K own cc nL ret (pc + 3) lv' st σ r σ') : sw_Go l E K own cc nL ret pc lv st σ r σ' := by
  subst hv
  exact sw_iinc j hk hd hc hn hl2 k
theorem sw_putP {i ci k0 index N c : Nat} {CN : String} {T : u_T} {P : Nat} {D : String} (ty0 : Nat → FieldType) (hc : sw_cl[ci]? = some (CN, T, N)) (hin : ∀ w ∈ u_ws CN T N, w ∈ sw_T) (hty : ∀ k, k < N → parseFieldDescriptor (T k).2.2.1 = some (ty0 k)) (hnm : ∀ a, a < N → ∀ b, b < N → a ≠ b → (T a).2.1 ≠ (T b).2.1) (hk : k0 < N) (hlink : Cond.fieldLink own index (T k0).1 (T k0).2.1 (T k0).2.2.1 ∈ sw_T) (hfin : (T k0).2.2.2 = false) (hdd : parseFieldDescriptor (T k0).2.2.1 = some (.object D))
    (hk0 : (sw_fk.getD ci [])[k0]? = some (902 + c)) (hP : sw_isP P) (hi : i < 84) (hs : sw_s i = (0, ci)) (hset : sw_fs (sw_wP σ c P) i ci = (sw_fs σ i ci).set k0 (.ref (sw_pl P))) (ho : ∀ a, a ≠ i → sw_ce E (sw_wP σ c P) a = sw_ce E σ a) (hd : decode cc pc = .ok (.putfield index, 3)) (k : sw_Go l E K own cc nL ret (pc + 3) lv st (sw_wP σ c P) r σ') : sw_Go l E K own cc nL ret pc lv (.ref P :: .ref i :: st) σ r σ' := by
  rw [sw_pl_id hP] at hset
  exact sw_put (v := .ref P) ty0 hc hin hty hnm hk hlink hfin hdd (List.getElem?_eq_some_iff.mp hk0).1 hi hs rfl rfl hset ho hd k
end MORE
theorem sw_fs_wP (σ : sw_M) (i ci c P : Nat) (h : ∀ x ∈ sw_fk.getD ci [], x ≠ 902 + c) : sw_fs (sw_wP σ c P) i ci = sw_fs σ i ci := by
  apply List.ext_getElem?
  intro j
  rw [sw_fs_at, sw_fs_at]
  cases hc : (sw_fk.getD ci [])[j]? with
  | none => simp
  | some x =>
    have hx := h x (List.mem_of_getElem? hc)
    simp only [Option.map_some]
    apply congrArg some
    match x, hx with
    | 0, _ => simp [sw_fv, sw_wP]
    | 1, _ => simp [sw_fv, sw_wP]
    | x + 2, hx =>
      simp only [sw_fv]
      split
      · rfl
      · next hlt =>
        have : x - 900 ≠ c := by omega
        simp [sw_wP, this]
set_option maxRecDepth 100000 in
theorem sw_fs_wP9 (σ : sw_M) (i P : Nat) : sw_fs (sw_wP σ 0 P) i 9 = (sw_fs σ i 9).set 1 (.ref (sw_pl P)) := rfl
set_option maxRecDepth 100000 in
theorem sw_fs_wP5 (σ : sw_M) (i P : Nat) : sw_fs (sw_wP σ 1 P) i 5 = (sw_fs σ i 5).set 1 (.ref (sw_pl P)) := rfl
theorem sw_sh_wP : ∀ a, a < 84 → ∀ c, c < 2 → a ≠ c → ∀ x ∈ sw_fk.getD (sw_s a).2 [], (sw_s a).1 = 0 → x ≠ 902 + c := by decide +kernel
theorem sw_ce_wP (E : sw_E) (σ : sw_M) (c P : Nat) (hc : c < 2) : ∀ a, a ≠ c → sw_ce E (sw_wP σ c P) a = sw_ce E σ a := by
  intro a ha
  by_cases h0 : (sw_s a).1 = 0
  · by_cases h84 : a < 84
    · have hf : sw_fs (sw_wP σ c P) a (sw_s a).2 = sw_fs σ a (sw_s a).2 := sw_fs_wP σ a _ c P (fun x hx => sw_sh_wP a h84 c hc ha x hx h0)
      simp only [sw_ce, h0, if_true, hf]
    · have h9 : (sw_s a).1 = 1 := by
        have : sw_s a = (1, 0) := by
          unfold sw_s
          rw [List.getD_eq_getElem?_getD, List.getElem?_eq_none (by show 84 ≤ a; omega)]
          rfl
        rw [this]
      omega
  · simp only [sw_ce, h0, if_false]
    rfl
section PUTP
variable {l : Launch} {E : sw_E} {K : Nat} {cc : ByteArray} {nL : Nat} {ret : Option FieldType} {pc P : Nat} {lv : List (Nat × Value)} {st : List Value} {σ σ' : sw_M} {r : Option Value}
set_option maxRecDepth 100000 in
theorem pf_X9_19 (hP : sw_isP P) (hd : decode cc pc = .ok (.putfield 19, 3)) (k : sw_Go l E K RX9 cc nL ret (pc + 3) lv st (sw_wP σ 0 P) r σ') : sw_Go l E K RX9 cc nL ret pc lv (.ref P :: .ref 0 :: st) σ r σ' :=
  sw_putP (ci := 9) (k0 := 1) tyX9 rfl sw_in9 tyX9_ok nmX9 (by decide) lk_X9_19 rfl (tyX9_ok 1 (by decide)) rfl hP (by decide) rfl (sw_fs_wP9 σ 0 P) (sw_ce_wP E σ 0 P (by decide)) hd k
set_option maxRecDepth 100000 in
theorem pf_X9_86 (hP : sw_isP P) (hd : decode cc pc = .ok (.putfield 86, 3)) (k : sw_Go l E K RX9 cc nL ret (pc + 3) lv st (sw_wP σ 1 P) r σ') : sw_Go l E K RX9 cc nL ret pc lv (.ref P :: .ref 1 :: st) σ r σ' :=
  sw_putP (ci := 5) (k0 := 1) tyX5 rfl sw_in5 tyX5_ok nmX5 (by decide) lk_X9_86 rfl (tyX5_ok 1 (by decide)) rfl hP (by decide) rfl (sw_fs_wP5 σ 1 P) (sw_ce_wP E σ 1 P (by decide)) hd k
end PUTP
end
