section
-- ===== PART A: goes FIRST, ahead of the names: the tables' words, and 'selects' of the private methods out of them =====
/-- a private method of a class that the tables say can be made, by its rows of tables_1 -/
def lw_okq (q : MethodName × Nat) : Prop := (q.1.cls ≠ "java/lang/invoke/MethodHandle" ∧ q.1.cls ≠ "java/lang/invoke/VarHandle") ∧ Cond.instantiable q.1.cls q.2 ∈ tables_1 ∧ Cond.privateMethod q.1 ∈ tables_1 ∧ Cond.instanceMethod q.1 ∈ tables_1
theorem lw_p0 : lw_okq (⟨"SoapWorks$Tape", "readWord", "()V"⟩, 10) := ⟨⟨by decide +kernel, by decide +kernel⟩, List.mem_of_getElem? (i := 36) (by decide +kernel), List.mem_of_getElem? (i := 476) (by decide +kernel), List.mem_of_getElem? (i := 477) (by decide +kernel)⟩
theorem lw_p1 : lw_okq (⟨"SoapWorks$Tape", "readNumber", "()V"⟩, 10) := ⟨⟨by decide +kernel, by decide +kernel⟩, List.mem_of_getElem? (i := 36) (by decide +kernel), List.mem_of_getElem? (i := 486) (by decide +kernel), List.mem_of_getElem? (i := 487) (by decide +kernel)⟩
theorem lw_p2 : lw_okq (⟨"SoapWorks$Tape", "readSign", "()V"⟩, 10) := ⟨⟨by decide +kernel, by decide +kernel⟩, List.mem_of_getElem? (i := 36) (by decide +kernel), List.mem_of_getElem? (i := 490) (by decide +kernel), List.mem_of_getElem? (i := 491) (by decide +kernel)⟩
theorem lw_p3 : lw_okq (⟨"SoapWorks$Reader", "readKind", "()Z"⟩, 5) := ⟨⟨by decide +kernel, by decide +kernel⟩, List.mem_of_getElem? (i := 30) (by decide +kernel), List.mem_of_getElem? (i := 562) (by decide +kernel), List.mem_of_getElem? (i := 563) (by decide +kernel)⟩
theorem lw_p4 : lw_okq (⟨"SoapWorks$Reader", "refuse", "(I)Z"⟩, 5) := ⟨⟨by decide +kernel, by decide +kernel⟩, List.mem_of_getElem? (i := 30) (by decide +kernel), List.mem_of_getElem? (i := 566) (by decide +kernel), List.mem_of_getElem? (i := 567) (by decide +kernel)⟩
theorem lw_p5 : lw_okq (⟨"SoapWorks$Reader", "readNewName", "([JI)Z"⟩, 5) := ⟨⟨by decide +kernel, by decide +kernel⟩, List.mem_of_getElem? (i := 30) (by decide +kernel), List.mem_of_getElem? (i := 571) (by decide +kernel), List.mem_of_getElem? (i := 572) (by decide +kernel)⟩
theorem lw_p6 : lw_okq (⟨"SoapWorks$Reader", "readSign", "(I)Z"⟩, 5) := ⟨⟨by decide +kernel, by decide +kernel⟩, List.mem_of_getElem? (i := 30) (by decide +kernel), List.mem_of_getElem? (i := 580) (by decide +kernel), List.mem_of_getElem? (i := 581) (by decide +kernel)⟩
theorem lw_p7 : lw_okq (⟨"SoapWorks$Reader", "readPerson", "()Z"⟩, 5) := ⟨⟨by decide +kernel, by decide +kernel⟩, List.mem_of_getElem? (i := 30) (by decide +kernel), List.mem_of_getElem? (i := 584) (by decide +kernel), List.mem_of_getElem? (i := 585) (by decide +kernel)⟩
theorem lw_p8 : lw_okq (⟨"SoapWorks$Reader", "readKey", "(I)Z"⟩, 5) := ⟨⟨by decide +kernel, by decide +kernel⟩, List.mem_of_getElem? (i := 30) (by decide +kernel), List.mem_of_getElem? (i := 588) (by decide +kernel), List.mem_of_getElem? (i := 589) (by decide +kernel)⟩
theorem lw_p9 : lw_okq (⟨"SoapWorks$Reader", "readPortions", "([II)Z"⟩, 5) := ⟨⟨by decide +kernel, by decide +kernel⟩, List.mem_of_getElem? (i := 30) (by decide +kernel), List.mem_of_getElem? (i := 592) (by decide +kernel), List.mem_of_getElem? (i := 593) (by decide +kernel)⟩
theorem lw_p10 : lw_okq (⟨"SoapWorks$Reader", "knownKind", "()I"⟩, 5) := ⟨⟨by decide +kernel, by decide +kernel⟩, List.mem_of_getElem? (i := 30) (by decide +kernel), List.mem_of_getElem? (i := 596) (by decide +kernel), List.mem_of_getElem? (i := 597) (by decide +kernel)⟩
theorem lw_p11 : lw_okq (⟨"SoapWorks$Reader", "readNumber", "(II)I"⟩, 5) := ⟨⟨by decide +kernel, by decide +kernel⟩, List.mem_of_getElem? (i := 30) (by decide +kernel), List.mem_of_getElem? (i := 600) (by decide +kernel), List.mem_of_getElem? (i := 601) (by decide +kernel)⟩
theorem lw_p12 : lw_okq (⟨"SoapWorks$Reader", "readRule", "()Z"⟩, 5) := ⟨⟨by decide +kernel, by decide +kernel⟩, List.mem_of_getElem? (i := 30) (by decide +kernel), List.mem_of_getElem? (i := 604) (by decide +kernel), List.mem_of_getElem? (i := 605) (by decide +kernel)⟩
theorem lw_p13 : lw_okq (⟨"SoapWorks$Reader", "readKnownKind", "()I"⟩, 5) := ⟨⟨by decide +kernel, by decide +kernel⟩, List.mem_of_getElem? (i := 30) (by decide +kernel), List.mem_of_getElem? (i := 608) (by decide +kernel), List.mem_of_getElem? (i := 609) (by decide +kernel)⟩
theorem lw_p14 : lw_okq (⟨"SoapWorks$Reader", "readBasin", "()Z"⟩, 5) := ⟨⟨by decide +kernel, by decide +kernel⟩, List.mem_of_getElem? (i := 30) (by decide +kernel), List.mem_of_getElem? (i := 616) (by decide +kernel), List.mem_of_getElem? (i := 617) (by decide +kernel)⟩
theorem lw_p15 : lw_okq (⟨"SoapWorks$Reader", "readRises", "()Z"⟩, 5) := ⟨⟨by decide +kernel, by decide +kernel⟩, List.mem_of_getElem? (i := 30) (by decide +kernel), List.mem_of_getElem? (i := 620) (by decide +kernel), List.mem_of_getElem? (i := 621) (by decide +kernel)⟩
def lw_privs_1 : List (MethodName × Nat) := [(⟨"SoapWorks$Tape", "readWord", "()V"⟩, 10), (⟨"SoapWorks$Tape", "readNumber", "()V"⟩, 10), (⟨"SoapWorks$Tape", "readSign", "()V"⟩, 10), (⟨"SoapWorks$Reader", "readKind", "()Z"⟩, 5), (⟨"SoapWorks$Reader", "refuse", "(I)Z"⟩, 5), (⟨"SoapWorks$Reader", "readNewName", "([JI)Z"⟩, 5), (⟨"SoapWorks$Reader", "readSign", "(I)Z"⟩, 5), (⟨"SoapWorks$Reader", "readPerson", "()Z"⟩, 5), (⟨"SoapWorks$Reader", "readKey", "(I)Z"⟩, 5), (⟨"SoapWorks$Reader", "readPortions", "([II)Z"⟩, 5), (⟨"SoapWorks$Reader", "knownKind", "()I"⟩, 5), (⟨"SoapWorks$Reader", "readNumber", "(II)I"⟩, 5), (⟨"SoapWorks$Reader", "readRule", "()Z"⟩, 5), (⟨"SoapWorks$Reader", "readKnownKind", "()I"⟩, 5), (⟨"SoapWorks$Reader", "readBasin", "()Z"⟩, 5), (⟨"SoapWorks$Reader", "readRises", "()Z"⟩, 5)]
theorem lw_r1 : ∀ q ∈ lw_privs_1, lw_okq q := List.forall_mem_cons.mpr ⟨lw_p0, List.forall_mem_cons.mpr ⟨lw_p1, List.forall_mem_cons.mpr ⟨lw_p2, List.forall_mem_cons.mpr ⟨lw_p3, List.forall_mem_cons.mpr ⟨lw_p4, List.forall_mem_cons.mpr ⟨lw_p5, List.forall_mem_cons.mpr ⟨lw_p6, List.forall_mem_cons.mpr ⟨lw_p7, List.forall_mem_cons.mpr ⟨lw_p8, List.forall_mem_cons.mpr ⟨lw_p9, List.forall_mem_cons.mpr ⟨lw_p10, List.forall_mem_cons.mpr ⟨lw_p11, List.forall_mem_cons.mpr ⟨lw_p12, List.forall_mem_cons.mpr ⟨lw_p13, List.forall_mem_cons.mpr ⟨lw_p14, List.forall_mem_cons.mpr ⟨lw_p15, fun _ h => absurd h List.not_mem_nil⟩⟩⟩⟩⟩⟩⟩⟩⟩⟩⟩⟩⟩⟩⟩⟩
theorem lw_p16 : lw_okq (⟨"SoapWorks$Reader", "readFormula", "(II)Z"⟩, 5) := ⟨⟨by decide +kernel, by decide +kernel⟩, List.mem_of_getElem? (i := 30) (by decide +kernel), List.mem_of_getElem? (i := 624) (by decide +kernel), List.mem_of_getElem? (i := 625) (by decide +kernel)⟩
theorem lw_p17 : lw_okq (⟨"SoapWorks$Reader", "readUnit", "(I)Z"⟩, 5) := ⟨⟨by decide +kernel, by decide +kernel⟩, List.mem_of_getElem? (i := 30) (by decide +kernel), List.mem_of_getElem? (i := 628) (by decide +kernel), List.mem_of_getElem? (i := 629) (by decide +kernel)⟩
theorem lw_p18 : lw_okq (⟨"SoapWorks$Reader", "readNot", "(I)Z"⟩, 5) := ⟨⟨by decide +kernel, by decide +kernel⟩, List.mem_of_getElem? (i := 30) (by decide +kernel), List.mem_of_getElem? (i := 636) (by decide +kernel), List.mem_of_getElem? (i := 637) (by decide +kernel)⟩
theorem lw_p19 : lw_okq (⟨"SoapWorks$Reader", "signOfLevel", "(I)I"⟩, 5) := ⟨⟨by decide +kernel, by decide +kernel⟩, List.mem_of_getElem? (i := 30) (by decide +kernel), List.mem_of_getElem? (i := 640) (by decide +kernel), List.mem_of_getElem? (i := 641) (by decide +kernel)⟩
theorem lw_p20 : lw_okq (⟨"SoapWorks$Reader", "readScum", "()Z"⟩, 5) := ⟨⟨by decide +kernel, by decide +kernel⟩, List.mem_of_getElem? (i := 30) (by decide +kernel), List.mem_of_getElem? (i := 644) (by decide +kernel), List.mem_of_getElem? (i := 645) (by decide +kernel)⟩
theorem lw_p21 : lw_okq (⟨"SoapWorks$Reader", "readDraw", "()Z"⟩, 5) := ⟨⟨by decide +kernel, by decide +kernel⟩, List.mem_of_getElem? (i := 30) (by decide +kernel), List.mem_of_getElem? (i := 648) (by decide +kernel), List.mem_of_getElem? (i := 649) (by decide +kernel)⟩
theorem lw_p22 : lw_okq (⟨"SoapWorks", "isSilent", "(I)Z"⟩, 10) := ⟨⟨by decide +kernel, by decide +kernel⟩, List.mem_of_getElem? (i := 22) (by decide +kernel), List.mem_of_getElem? (i := 713) (by decide +kernel), List.mem_of_getElem? (i := 714) (by decide +kernel)⟩
theorem lw_p23 : lw_okq (⟨"SoapWorks$Plan", "drawScum", "(LSoapWorks$Vat;)V"⟩, 16) := ⟨⟨by decide +kernel, by decide +kernel⟩, List.mem_of_getElem? (i := 139) (by decide +kernel), List.mem_of_getElem? (i := 779) (by decide +kernel), List.mem_of_getElem? (i := 780) (by decide +kernel)⟩
theorem lw_p24 : lw_okq (⟨"SoapWorks$Formula", "measure", "(LSoapWorks$Vat;I)V"⟩, 6) := ⟨⟨by decide +kernel, by decide +kernel⟩, List.mem_of_getElem? (i := 145) (by decide +kernel), List.mem_of_getElem? (i := 792) (by decide +kernel), List.mem_of_getElem? (i := 793) (by decide +kernel)⟩
theorem lw_p25 : lw_okq (⟨"SoapWorks", "isEased", "(I)Z"⟩, 10) := ⟨⟨by decide +kernel, by decide +kernel⟩, List.mem_of_getElem? (i := 22) (by decide +kernel), List.mem_of_getElem? (i := 811) (by decide +kernel), List.mem_of_getElem? (i := 812) (by decide +kernel)⟩
theorem lw_p26 : lw_okq (⟨"SoapWorks", "silentOnes", "()I"⟩, 10) := ⟨⟨by decide +kernel, by decide +kernel⟩, List.mem_of_getElem? (i := 22) (by decide +kernel), List.mem_of_getElem? (i := 876) (by decide +kernel), List.mem_of_getElem? (i := 877) (by decide +kernel)⟩
theorem lw_p27 : lw_okq (⟨"SoapWorks$Outlook", "muchByOrder", "(LSoapWorks$Plan;LSoapWorks$Vat;I)I"⟩, 3) := ⟨⟨by decide +kernel, by decide +kernel⟩, List.mem_of_getElem? (i := 344) (by decide +kernel), List.mem_of_getElem? (i := 936) (by decide +kernel), List.mem_of_getElem? (i := 937) (by decide +kernel)⟩
theorem lw_p28 : lw_okq (⟨"SoapWorks$Outlook", "toNextOrder", "(I)Z"⟩, 3) := ⟨⟨by decide +kernel, by decide +kernel⟩, List.mem_of_getElem? (i := 344) (by decide +kernel), List.mem_of_getElem? (i := 943) (by decide +kernel), List.mem_of_getElem? (i := 944) (by decide +kernel)⟩
theorem lw_p29 : lw_okq (⟨"SoapWorks$Outlook", "exchange", "(II)V"⟩, 3) := ⟨⟨by decide +kernel, by decide +kernel⟩, List.mem_of_getElem? (i := 344) (by decide +kernel), List.mem_of_getElem? (i := 947) (by decide +kernel), List.mem_of_getElem? (i := 948) (by decide +kernel)⟩
theorem lw_p30 : lw_okq (⟨"SoapWorks$Sightings", "followCourses", "(LSoapWorks$Plan;)V"⟩, 10) := ⟨⟨by decide +kernel, by decide +kernel⟩, List.mem_of_getElem? (i := 362) (by decide +kernel), List.mem_of_getElem? (i := 1079) (by decide +kernel), List.mem_of_getElem? (i := 1080) (by decide +kernel)⟩
theorem lw_p31 : lw_okq (⟨"SoapWorks$Sightings", "tellAll", "(LSoapWorks$Plan;I)V"⟩, 10) := ⟨⟨by decide +kernel, by decide +kernel⟩, List.mem_of_getElem? (i := 362) (by decide +kernel), List.mem_of_getElem? (i := 1083) (by decide +kernel), List.mem_of_getElem? (i := 1084) (by decide +kernel)⟩
def lw_privs_2 : List (MethodName × Nat) := [(⟨"SoapWorks$Reader", "readFormula", "(II)Z"⟩, 5), (⟨"SoapWorks$Reader", "readUnit", "(I)Z"⟩, 5), (⟨"SoapWorks$Reader", "readNot", "(I)Z"⟩, 5), (⟨"SoapWorks$Reader", "signOfLevel", "(I)I"⟩, 5), (⟨"SoapWorks$Reader", "readScum", "()Z"⟩, 5), (⟨"SoapWorks$Reader", "readDraw", "()Z"⟩, 5), (⟨"SoapWorks", "isSilent", "(I)Z"⟩, 10), (⟨"SoapWorks$Plan", "drawScum", "(LSoapWorks$Vat;)V"⟩, 16), (⟨"SoapWorks$Formula", "measure", "(LSoapWorks$Vat;I)V"⟩, 6), (⟨"SoapWorks", "isEased", "(I)Z"⟩, 10), (⟨"SoapWorks", "silentOnes", "()I"⟩, 10), (⟨"SoapWorks$Outlook", "muchByOrder", "(LSoapWorks$Plan;LSoapWorks$Vat;I)I"⟩, 3), (⟨"SoapWorks$Outlook", "toNextOrder", "(I)Z"⟩, 3), (⟨"SoapWorks$Outlook", "exchange", "(II)V"⟩, 3), (⟨"SoapWorks$Sightings", "followCourses", "(LSoapWorks$Plan;)V"⟩, 10), (⟨"SoapWorks$Sightings", "tellAll", "(LSoapWorks$Plan;I)V"⟩, 10)]
theorem lw_r2 : ∀ q ∈ lw_privs_2, lw_okq q := List.forall_mem_cons.mpr ⟨lw_p16, List.forall_mem_cons.mpr ⟨lw_p17, List.forall_mem_cons.mpr ⟨lw_p18, List.forall_mem_cons.mpr ⟨lw_p19, List.forall_mem_cons.mpr ⟨lw_p20, List.forall_mem_cons.mpr ⟨lw_p21, List.forall_mem_cons.mpr ⟨lw_p22, List.forall_mem_cons.mpr ⟨lw_p23, List.forall_mem_cons.mpr ⟨lw_p24, List.forall_mem_cons.mpr ⟨lw_p25, List.forall_mem_cons.mpr ⟨lw_p26, List.forall_mem_cons.mpr ⟨lw_p27, List.forall_mem_cons.mpr ⟨lw_p28, List.forall_mem_cons.mpr ⟨lw_p29, List.forall_mem_cons.mpr ⟨lw_p30, List.forall_mem_cons.mpr ⟨lw_p31, fun _ h => absurd h List.not_mem_nil⟩⟩⟩⟩⟩⟩⟩⟩⟩⟩⟩⟩⟩⟩⟩⟩
theorem lw_p32 : lw_okq (⟨"SoapWorks$Sightings", "isBorneOut", "(II)Z"⟩, 10) := ⟨⟨by decide +kernel, by decide +kernel⟩, List.mem_of_getElem? (i := 362) (by decide +kernel), List.mem_of_getElem? (i := 1095) (by decide +kernel), List.mem_of_getElem? (i := 1096) (by decide +kernel)⟩
theorem lw_p33 : lw_okq (⟨"SoapWorks$Sightings", "counts", "(II)Z"⟩, 10) := ⟨⟨by decide +kernel, by decide +kernel⟩, List.mem_of_getElem? (i := 362) (by decide +kernel), List.mem_of_getElem? (i := 1099) (by decide +kernel), List.mem_of_getElem? (i := 1100) (by decide +kernel)⟩
theorem lw_p34 : lw_okq (⟨"SoapWorks$Sightings", "alike", "(IIII)I"⟩, 10) := ⟨⟨by decide +kernel, by decide +kernel⟩, List.mem_of_getElem? (i := 362) (by decide +kernel), List.mem_of_getElem? (i := 1118) (by decide +kernel), List.mem_of_getElem? (i := 1119) (by decide +kernel)⟩
theorem lw_p35 : lw_okq (⟨"SoapWorksModel", "four", "(I)V"⟩, 73) := ⟨⟨by decide +kernel, by decide +kernel⟩, List.mem_of_getElem? (i := 1157) (by decide +kernel), List.mem_of_getElem? (i := 1387) (by decide +kernel), List.mem_of_getElem? (i := 1388) (by decide +kernel)⟩
theorem lw_p36 : lw_okq (⟨"SoapWorksModel", "readAll", "()V"⟩, 73) := ⟨⟨by decide +kernel, by decide +kernel⟩, List.mem_of_getElem? (i := 1157) (by decide +kernel), List.mem_of_getElem? (i := 1399) (by decide +kernel), List.mem_of_getElem? (i := 1400) (by decide +kernel)⟩
theorem lw_p37 : lw_okq (⟨"SoapWorksModel", "token", "()V"⟩, 73) := ⟨⟨by decide +kernel, by decide +kernel⟩, List.mem_of_getElem? (i := 1157) (by decide +kernel), List.mem_of_getElem? (i := 1403) (by decide +kernel), List.mem_of_getElem? (i := 1404) (by decide +kernel)⟩
theorem lw_p38 : lw_okq (⟨"SoapWorksModel", "here", "(I)I"⟩, 73) := ⟨⟨by decide +kernel, by decide +kernel⟩, List.mem_of_getElem? (i := 1157) (by decide +kernel), List.mem_of_getElem? (i := 1407) (by decide +kernel), List.mem_of_getElem? (i := 1408) (by decide +kernel)⟩
theorem lw_p39 : lw_okq (⟨"SoapWorksModel", "readLine", "()V"⟩, 73) := ⟨⟨by decide +kernel, by decide +kernel⟩, List.mem_of_getElem? (i := 1157) (by decide +kernel), List.mem_of_getElem? (i := 1420) (by decide +kernel), List.mem_of_getElem? (i := 1421) (by decide +kernel)⟩
theorem lw_p40 : lw_okq (⟨"SoapWorksModel", "isWord", "(J)Z"⟩, 73) := ⟨⟨by decide +kernel, by decide +kernel⟩, List.mem_of_getElem? (i := 1157) (by decide +kernel), List.mem_of_getElem? (i := 1425) (by decide +kernel), List.mem_of_getElem? (i := 1426) (by decide +kernel)⟩
theorem lw_p41 : lw_okq (⟨"SoapWorksModel", "readKind", "()V"⟩, 73) := ⟨⟨by decide +kernel, by decide +kernel⟩, List.mem_of_getElem? (i := 1157) (by decide +kernel), List.mem_of_getElem? (i := 1429) (by decide +kernel), List.mem_of_getElem? (i := 1430) (by decide +kernel)⟩
theorem lw_p42 : lw_okq (⟨"SoapWorksModel", "newName", "(II)V"⟩, 73) := ⟨⟨by decide +kernel, by decide +kernel⟩, List.mem_of_getElem? (i := 1157) (by decide +kernel), List.mem_of_getElem? (i := 1433) (by decide +kernel), List.mem_of_getElem? (i := 1434) (by decide +kernel)⟩
theorem lw_p43 : lw_okq (⟨"SoapWorksModel", "isName", "()Z"⟩, 73) := ⟨⟨by decide +kernel, by decide +kernel⟩, List.mem_of_getElem? (i := 1157) (by decide +kernel), List.mem_of_getElem? (i := 1437) (by decide +kernel), List.mem_of_getElem? (i := 1438) (by decide +kernel)⟩
theorem lw_p44 : lw_okq (⟨"SoapWorksModel", "isOwn", "()Z"⟩, 73) := ⟨⟨by decide +kernel, by decide +kernel⟩, List.mem_of_getElem? (i := 1157) (by decide +kernel), List.mem_of_getElem? (i := 1441) (by decide +kernel), List.mem_of_getElem? (i := 1442) (by decide +kernel)⟩
theorem lw_p45 : lw_okq (⟨"SoapWorksModel", "wrong", "(I)V"⟩, 73) := ⟨⟨by decide +kernel, by decide +kernel⟩, List.mem_of_getElem? (i := 1157) (by decide +kernel), List.mem_of_getElem? (i := 1463) (by decide +kernel), List.mem_of_getElem? (i := 1464) (by decide +kernel)⟩
theorem lw_p46 : lw_okq (⟨"SoapWorksModel", "find", "(II)I"⟩, 73) := ⟨⟨by decide +kernel, by decide +kernel⟩, List.mem_of_getElem? (i := 1157) (by decide +kernel), List.mem_of_getElem? (i := 1467) (by decide +kernel), List.mem_of_getElem? (i := 1468) (by decide +kernel)⟩
theorem lw_p47 : lw_okq (⟨"SoapWorksModel", "readPerson", "()V"⟩, 73) := ⟨⟨by decide +kernel, by decide +kernel⟩, List.mem_of_getElem? (i := 1157) (by decide +kernel), List.mem_of_getElem? (i := 1471) (by decide +kernel), List.mem_of_getElem? (i := 1472) (by decide +kernel)⟩
def lw_privs_3 : List (MethodName × Nat) := [(⟨"SoapWorks$Sightings", "isBorneOut", "(II)Z"⟩, 10), (⟨"SoapWorks$Sightings", "counts", "(II)Z"⟩, 10), (⟨"SoapWorks$Sightings", "alike", "(IIII)I"⟩, 10), (⟨"SoapWorksModel", "four", "(I)V"⟩, 73), (⟨"SoapWorksModel", "readAll", "()V"⟩, 73), (⟨"SoapWorksModel", "token", "()V"⟩, 73), (⟨"SoapWorksModel", "here", "(I)I"⟩, 73), (⟨"SoapWorksModel", "readLine", "()V"⟩, 73), (⟨"SoapWorksModel", "isWord", "(J)Z"⟩, 73), (⟨"SoapWorksModel", "readKind", "()V"⟩, 73), (⟨"SoapWorksModel", "newName", "(II)V"⟩, 73), (⟨"SoapWorksModel", "isName", "()Z"⟩, 73), (⟨"SoapWorksModel", "isOwn", "()Z"⟩, 73), (⟨"SoapWorksModel", "wrong", "(I)V"⟩, 73), (⟨"SoapWorksModel", "find", "(II)I"⟩, 73), (⟨"SoapWorksModel", "readPerson", "()V"⟩, 73)]
theorem lw_r3 : ∀ q ∈ lw_privs_3, lw_okq q := List.forall_mem_cons.mpr ⟨lw_p32, List.forall_mem_cons.mpr ⟨lw_p33, List.forall_mem_cons.mpr ⟨lw_p34, List.forall_mem_cons.mpr ⟨lw_p35, List.forall_mem_cons.mpr ⟨lw_p36, List.forall_mem_cons.mpr ⟨lw_p37, List.forall_mem_cons.mpr ⟨lw_p38, List.forall_mem_cons.mpr ⟨lw_p39, List.forall_mem_cons.mpr ⟨lw_p40, List.forall_mem_cons.mpr ⟨lw_p41, List.forall_mem_cons.mpr ⟨lw_p42, List.forall_mem_cons.mpr ⟨lw_p43, List.forall_mem_cons.mpr ⟨lw_p44, List.forall_mem_cons.mpr ⟨lw_p45, List.forall_mem_cons.mpr ⟨lw_p46, List.forall_mem_cons.mpr ⟨lw_p47, fun _ h => absurd h List.not_mem_nil⟩⟩⟩⟩⟩⟩⟩⟩⟩⟩⟩⟩⟩⟩⟩⟩
theorem lw_p48 : lw_okq (⟨"SoapWorksModel", "want", "(J)V"⟩, 73) := ⟨⟨by decide +kernel, by decide +kernel⟩, List.mem_of_getElem? (i := 1157) (by decide +kernel), List.mem_of_getElem? (i := 1475) (by decide +kernel), List.mem_of_getElem? (i := 1476) (by decide +kernel)⟩
theorem lw_p49 : lw_okq (⟨"SoapWorksModel", "readAllOf", "([II)V"⟩, 73) := ⟨⟨by decide +kernel, by decide +kernel⟩, List.mem_of_getElem? (i := 1157) (by decide +kernel), List.mem_of_getElem? (i := 1479) (by decide +kernel), List.mem_of_getElem? (i := 1480) (by decide +kernel)⟩
theorem lw_p50 : lw_okq (⟨"SoapWorksModel", "readSome", "([II)V"⟩, 73) := ⟨⟨by decide +kernel, by decide +kernel⟩, List.mem_of_getElem? (i := 1157) (by decide +kernel), List.mem_of_getElem? (i := 1483) (by decide +kernel), List.mem_of_getElem? (i := 1484) (by decide +kernel)⟩
theorem lw_p51 : lw_okq (⟨"SoapWorksModel", "oldKind", "()I"⟩, 73) := ⟨⟨by decide +kernel, by decide +kernel⟩, List.mem_of_getElem? (i := 1157) (by decide +kernel), List.mem_of_getElem? (i := 1487) (by decide +kernel), List.mem_of_getElem? (i := 1488) (by decide +kernel)⟩
theorem lw_p52 : lw_okq (⟨"SoapWorksModel", "toldNumber", "(II)I"⟩, 73) := ⟨⟨by decide +kernel, by decide +kernel⟩, List.mem_of_getElem? (i := 1157) (by decide +kernel), List.mem_of_getElem? (i := 1491) (by decide +kernel), List.mem_of_getElem? (i := 1492) (by decide +kernel)⟩
theorem lw_p53 : lw_okq (⟨"SoapWorksModel", "readRule", "()V"⟩, 73) := ⟨⟨by decide +kernel, by decide +kernel⟩, List.mem_of_getElem? (i := 1157) (by decide +kernel), List.mem_of_getElem? (i := 1495) (by decide +kernel), List.mem_of_getElem? (i := 1496) (by decide +kernel)⟩
theorem lw_p54 : lw_okq (⟨"SoapWorksModel", "readBasin", "()V"⟩, 73) := ⟨⟨by decide +kernel, by decide +kernel⟩, List.mem_of_getElem? (i := 1157) (by decide +kernel), List.mem_of_getElem? (i := 1499) (by decide +kernel), List.mem_of_getElem? (i := 1500) (by decide +kernel)⟩
theorem lw_p55 : lw_okq (⟨"SoapWorksModel", "formula", "()V"⟩, 73) := ⟨⟨by decide +kernel, by decide +kernel⟩, List.mem_of_getElem? (i := 1157) (by decide +kernel), List.mem_of_getElem? (i := 1503) (by decide +kernel), List.mem_of_getElem? (i := 1504) (by decide +kernel)⟩
theorem lw_p56 : lw_okq (⟨"SoapWorksModel", "unit", "()V"⟩, 73) := ⟨⟨by decide +kernel, by decide +kernel⟩, List.mem_of_getElem? (i := 1157) (by decide +kernel), List.mem_of_getElem? (i := 1507) (by decide +kernel), List.mem_of_getElem? (i := 1508) (by decide +kernel)⟩
theorem lw_p57 : lw_okq (⟨"SoapWorksModel", "mayNot", "()Z"⟩, 73) := ⟨⟨by decide +kernel, by decide +kernel⟩, List.mem_of_getElem? (i := 1157) (by decide +kernel), List.mem_of_getElem? (i := 1511) (by decide +kernel), List.mem_of_getElem? (i := 1512) (by decide +kernel)⟩
theorem lw_p58 : lw_okq (⟨"SoapWorksModel", "openUp", "(I)V"⟩, 73) := ⟨⟨by decide +kernel, by decide +kernel⟩, List.mem_of_getElem? (i := 1157) (by decide +kernel), List.mem_of_getElem? (i := 1518) (by decide +kernel), List.mem_of_getElem? (i := 1519) (by decide +kernel)⟩
theorem lw_p59 : lw_okq (⟨"SoapWorksModel", "isFull", "()Z"⟩, 73) := ⟨⟨by decide +kernel, by decide +kernel⟩, List.mem_of_getElem? (i := 1157) (by decide +kernel), List.mem_of_getElem? (i := 1522) (by decide +kernel), List.mem_of_getElem? (i := 1523) (by decide +kernel)⟩
theorem lw_p60 : lw_okq (⟨"SoapWorksModel", "countUnit", "()V"⟩, 73) := ⟨⟨by decide +kernel, by decide +kernel⟩, List.mem_of_getElem? (i := 1157) (by decide +kernel), List.mem_of_getElem? (i := 1526) (by decide +kernel), List.mem_of_getElem? (i := 1527) (by decide +kernel)⟩
theorem lw_p61 : lw_okq (⟨"SoapWorksModel", "asked", "()I"⟩, 73) := ⟨⟨by decide +kernel, by decide +kernel⟩, List.mem_of_getElem? (i := 1157) (by decide +kernel), List.mem_of_getElem? (i := 1530) (by decide +kernel), List.mem_of_getElem? (i := 1531) (by decide +kernel)⟩
theorem lw_p62 : lw_okq (⟨"SoapWorksModel", "add", "(II)V"⟩, 73) := ⟨⟨by decide +kernel, by decide +kernel⟩, List.mem_of_getElem? (i := 1157) (by decide +kernel), List.mem_of_getElem? (i := 1534) (by decide +kernel), List.mem_of_getElem? (i := 1535) (by decide +kernel)⟩
theorem lw_p63 : lw_okq (⟨"SoapWorksModel", "sign", "()I"⟩, 73) := ⟨⟨by decide +kernel, by decide +kernel⟩, List.mem_of_getElem? (i := 1157) (by decide +kernel), List.mem_of_getElem? (i := 1538) (by decide +kernel), List.mem_of_getElem? (i := 1539) (by decide +kernel)⟩
def lw_privs_4 : List (MethodName × Nat) := [(⟨"SoapWorksModel", "want", "(J)V"⟩, 73), (⟨"SoapWorksModel", "readAllOf", "([II)V"⟩, 73), (⟨"SoapWorksModel", "readSome", "([II)V"⟩, 73), (⟨"SoapWorksModel", "oldKind", "()I"⟩, 73), (⟨"SoapWorksModel", "toldNumber", "(II)I"⟩, 73), (⟨"SoapWorksModel", "readRule", "()V"⟩, 73), (⟨"SoapWorksModel", "readBasin", "()V"⟩, 73), (⟨"SoapWorksModel", "formula", "()V"⟩, 73), (⟨"SoapWorksModel", "unit", "()V"⟩, 73), (⟨"SoapWorksModel", "mayNot", "()Z"⟩, 73), (⟨"SoapWorksModel", "openUp", "(I)V"⟩, 73), (⟨"SoapWorksModel", "isFull", "()Z"⟩, 73), (⟨"SoapWorksModel", "countUnit", "()V"⟩, 73), (⟨"SoapWorksModel", "asked", "()I"⟩, 73), (⟨"SoapWorksModel", "add", "(II)V"⟩, 73), (⟨"SoapWorksModel", "sign", "()I"⟩, 73)]
theorem lw_r4 : ∀ q ∈ lw_privs_4, lw_okq q := List.forall_mem_cons.mpr ⟨lw_p48, List.forall_mem_cons.mpr ⟨lw_p49, List.forall_mem_cons.mpr ⟨lw_p50, List.forall_mem_cons.mpr ⟨lw_p51, List.forall_mem_cons.mpr ⟨lw_p52, List.forall_mem_cons.mpr ⟨lw_p53, List.forall_mem_cons.mpr ⟨lw_p54, List.forall_mem_cons.mpr ⟨lw_p55, List.forall_mem_cons.mpr ⟨lw_p56, List.forall_mem_cons.mpr ⟨lw_p57, List.forall_mem_cons.mpr ⟨lw_p58, List.forall_mem_cons.mpr ⟨lw_p59, List.forall_mem_cons.mpr ⟨lw_p60, List.forall_mem_cons.mpr ⟨lw_p61, List.forall_mem_cons.mpr ⟨lw_p62, List.forall_mem_cons.mpr ⟨lw_p63, fun _ h => absurd h List.not_mem_nil⟩⟩⟩⟩⟩⟩⟩⟩⟩⟩⟩⟩⟩⟩⟩⟩
theorem lw_p64 : lw_okq (⟨"SoapWorksModel", "hasBracket", "()Z"⟩, 73) := ⟨⟨by decide +kernel, by decide +kernel⟩, List.mem_of_getElem? (i := 1157) (by decide +kernel), List.mem_of_getElem? (i := 1542) (by decide +kernel), List.mem_of_getElem? (i := 1543) (by decide +kernel)⟩
theorem lw_p65 : lw_okq (⟨"SoapWorksModel", "close", "(I)V"⟩, 73) := ⟨⟨by decide +kernel, by decide +kernel⟩, List.mem_of_getElem? (i := 1157) (by decide +kernel), List.mem_of_getElem? (i := 1546) (by decide +kernel), List.mem_of_getElem? (i := 1547) (by decide +kernel)⟩
theorem lw_p66 : lw_okq (⟨"SoapWorksModel", "hasRelation", "()Z"⟩, 73) := ⟨⟨by decide +kernel, by decide +kernel⟩, List.mem_of_getElem? (i := 1157) (by decide +kernel), List.mem_of_getElem? (i := 1550) (by decide +kernel), List.mem_of_getElem? (i := 1551) (by decide +kernel)⟩
theorem lw_p67 : lw_okq (⟨"SoapWorksModel", "told", "(JII)I"⟩, 73) := ⟨⟨by decide +kernel, by decide +kernel⟩, List.mem_of_getElem? (i := 1157) (by decide +kernel), List.mem_of_getElem? (i := 1554) (by decide +kernel), List.mem_of_getElem? (i := 1555) (by decide +kernel)⟩
theorem lw_p68 : lw_okq (⟨"SoapWorksModel", "isKind", "(I)Z"⟩, 73) := ⟨⟨by decide +kernel, by decide +kernel⟩, List.mem_of_getElem? (i := 1157) (by decide +kernel), List.mem_of_getElem? (i := 1566) (by decide +kernel), List.mem_of_getElem? (i := 1567) (by decide +kernel)⟩
theorem lw_p69 : lw_okq (⟨"SoapWorksModel", "isPerson", "(I)Z"⟩, 73) := ⟨⟨by decide +kernel, by decide +kernel⟩, List.mem_of_getElem? (i := 1157) (by decide +kernel), List.mem_of_getElem? (i := 1577) (by decide +kernel), List.mem_of_getElem? (i := 1578) (by decide +kernel)⟩
theorem lw_p70 : lw_okq (⟨"SoapWorksModel", "isBasin", "(I)Z"⟩, 73) := ⟨⟨by decide +kernel, by decide +kernel⟩, List.mem_of_getElem? (i := 1157) (by decide +kernel), List.mem_of_getElem? (i := 1585) (by decide +kernel), List.mem_of_getElem? (i := 1586) (by decide +kernel)⟩
theorem lw_p71 : lw_okq (⟨"SoapWorksModel", "isRule", "(I)Z"⟩, 73) := ⟨⟨by decide +kernel, by decide +kernel⟩, List.mem_of_getElem? (i := 1157) (by decide +kernel), List.mem_of_getElem? (i := 1593) (by decide +kernel), List.mem_of_getElem? (i := 1594) (by decide +kernel)⟩
theorem lw_p72 : lw_okq (⟨"SoapWorksModel", "hasTold", "(I)Z"⟩, 73) := ⟨⟨by decide +kernel, by decide +kernel⟩, List.mem_of_getElem? (i := 1157) (by decide +kernel), List.mem_of_getElem? (i := 1601) (by decide +kernel), List.mem_of_getElem? (i := 1602) (by decide +kernel)⟩
theorem lw_p73 : lw_okq (⟨"SoapWorksModel", "act", "()V"⟩, 73) := ⟨⟨by decide +kernel, by decide +kernel⟩, List.mem_of_getElem? (i := 1157) (by decide +kernel), List.mem_of_getElem? (i := 1605) (by decide +kernel), List.mem_of_getElem? (i := 1606) (by decide +kernel)⟩
theorem lw_p74 : lw_okq (⟨"SoapWorksModel", "fill", "()V"⟩, 73) := ⟨⟨by decide +kernel, by decide +kernel⟩, List.mem_of_getElem? (i := 1157) (by decide +kernel), List.mem_of_getElem? (i := 1609) (by decide +kernel), List.mem_of_getElem? (i := 1610) (by decide +kernel)⟩
theorem lw_p75 : lw_okq (⟨"SoapWorksModel", "tells", "(I)V"⟩, 73) := ⟨⟨by decide +kernel, by decide +kernel⟩, List.mem_of_getElem? (i := 1157) (by decide +kernel), List.mem_of_getElem? (i := 1613) (by decide +kernel), List.mem_of_getElem? (i := 1614) (by decide +kernel)⟩
theorem lw_p76 : lw_okq (⟨"SoapWorksModel", "keepAir", "()V"⟩, 73) := ⟨⟨by decide +kernel, by decide +kernel⟩, List.mem_of_getElem? (i := 1157) (by decide +kernel), List.mem_of_getElem? (i := 1620) (by decide +kernel), List.mem_of_getElem? (i := 1621) (by decide +kernel)⟩
theorem lw_p77 : lw_okq (⟨"SoapWorksModel", "allOf", "()I"⟩, 73) := ⟨⟨by decide +kernel, by decide +kernel⟩, List.mem_of_getElem? (i := 1157) (by decide +kernel), List.mem_of_getElem? (i := 1624) (by decide +kernel), List.mem_of_getElem? (i := 1625) (by decide +kernel)⟩
theorem lw_p78 : lw_okq (⟨"SoapWorksModel", "goBoiling", "(Z)Z"⟩, 73) := ⟨⟨by decide +kernel, by decide +kernel⟩, List.mem_of_getElem? (i := 1157) (by decide +kernel), List.mem_of_getElem? (i := 1632) (by decide +kernel), List.mem_of_getElem? (i := 1633) (by decide +kernel)⟩
theorem lw_p79 : lw_okq (⟨"SoapWorksModel", "boilAll", "()V"⟩, 73) := ⟨⟨by decide +kernel, by decide +kernel⟩, List.mem_of_getElem? (i := 1157) (by decide +kernel), List.mem_of_getElem? (i := 1636) (by decide +kernel), List.mem_of_getElem? (i := 1637) (by decide +kernel)⟩
def lw_privs_5 : List (MethodName × Nat) := [(⟨"SoapWorksModel", "hasBracket", "()Z"⟩, 73), (⟨"SoapWorksModel", "close", "(I)V"⟩, 73), (⟨"SoapWorksModel", "hasRelation", "()Z"⟩, 73), (⟨"SoapWorksModel", "told", "(JII)I"⟩, 73), (⟨"SoapWorksModel", "isKind", "(I)Z"⟩, 73), (⟨"SoapWorksModel", "isPerson", "(I)Z"⟩, 73), (⟨"SoapWorksModel", "isBasin", "(I)Z"⟩, 73), (⟨"SoapWorksModel", "isRule", "(I)Z"⟩, 73), (⟨"SoapWorksModel", "hasTold", "(I)Z"⟩, 73), (⟨"SoapWorksModel", "act", "()V"⟩, 73), (⟨"SoapWorksModel", "fill", "()V"⟩, 73), (⟨"SoapWorksModel", "tells", "(I)V"⟩, 73), (⟨"SoapWorksModel", "keepAir", "()V"⟩, 73), (⟨"SoapWorksModel", "allOf", "()I"⟩, 73), (⟨"SoapWorksModel", "goBoiling", "(Z)Z"⟩, 73), (⟨"SoapWorksModel", "boilAll", "()V"⟩, 73)]
theorem lw_r5 : ∀ q ∈ lw_privs_5, lw_okq q := List.forall_mem_cons.mpr ⟨lw_p64, List.forall_mem_cons.mpr ⟨lw_p65, List.forall_mem_cons.mpr ⟨lw_p66, List.forall_mem_cons.mpr ⟨lw_p67, List.forall_mem_cons.mpr ⟨lw_p68, List.forall_mem_cons.mpr ⟨lw_p69, List.forall_mem_cons.mpr ⟨lw_p70, List.forall_mem_cons.mpr ⟨lw_p71, List.forall_mem_cons.mpr ⟨lw_p72, List.forall_mem_cons.mpr ⟨lw_p73, List.forall_mem_cons.mpr ⟨lw_p74, List.forall_mem_cons.mpr ⟨lw_p75, List.forall_mem_cons.mpr ⟨lw_p76, List.forall_mem_cons.mpr ⟨lw_p77, List.forall_mem_cons.mpr ⟨lw_p78, List.forall_mem_cons.mpr ⟨lw_p79, fun _ h => absurd h List.not_mem_nil⟩⟩⟩⟩⟩⟩⟩⟩⟩⟩⟩⟩⟩⟩⟩⟩
theorem lw_p80 : lw_okq (⟨"SoapWorksModel", "boilBy", "(II)V"⟩, 73) := ⟨⟨by decide +kernel, by decide +kernel⟩, List.mem_of_getElem? (i := 1157) (by decide +kernel), List.mem_of_getElem? (i := 1640) (by decide +kernel), List.mem_of_getElem? (i := 1641) (by decide +kernel)⟩
theorem lw_p81 : lw_okq (⟨"SoapWorksModel", "makes", "(II)I"⟩, 73) := ⟨⟨by decide +kernel, by decide +kernel⟩, List.mem_of_getElem? (i := 1157) (by decide +kernel), List.mem_of_getElem? (i := 1644) (by decide +kernel), List.mem_of_getElem? (i := 1645) (by decide +kernel)⟩
theorem lw_p82 : lw_okq (⟨"SoapWorksModel", "skims", "()V"⟩, 73) := ⟨⟨by decide +kernel, by decide +kernel⟩, List.mem_of_getElem? (i := 1157) (by decide +kernel), List.mem_of_getElem? (i := 1648) (by decide +kernel), List.mem_of_getElem? (i := 1649) (by decide +kernel)⟩
theorem lw_p83 : lw_okq (⟨"SoapWorksModel", "isRisen", "()Z"⟩, 73) := ⟨⟨by decide +kernel, by decide +kernel⟩, List.mem_of_getElem? (i := 1157) (by decide +kernel), List.mem_of_getElem? (i := 1655) (by decide +kernel), List.mem_of_getElem? (i := 1656) (by decide +kernel)⟩
theorem lw_p84 : lw_okq (⟨"SoapWorksModel", "isEased", "(I)Z"⟩, 73) := ⟨⟨by decide +kernel, by decide +kernel⟩, List.mem_of_getElem? (i := 1157) (by decide +kernel), List.mem_of_getElem? (i := 1672) (by decide +kernel), List.mem_of_getElem? (i := 1673) (by decide +kernel)⟩
theorem lw_p85 : lw_okq (⟨"SoapWorksModel", "holds", "(I)Z"⟩, 73) := ⟨⟨by decide +kernel, by decide +kernel⟩, List.mem_of_getElem? (i := 1157) (by decide +kernel), List.mem_of_getElem? (i := 1676) (by decide +kernel), List.mem_of_getElem? (i := 1677) (by decide +kernel)⟩
theorem lw_p86 : lw_okq (⟨"SoapWorksModel", "exchange", "(I)V"⟩, 73) := ⟨⟨by decide +kernel, by decide +kernel⟩, List.mem_of_getElem? (i := 1157) (by decide +kernel), List.mem_of_getElem? (i := 1688) (by decide +kernel), List.mem_of_getElem? (i := 1689) (by decide +kernel)⟩
theorem lw_p87 : lw_okq (⟨"SoapWorksModel", "risesIn", "(I)I"⟩, 73) := ⟨⟨by decide +kernel, by decide +kernel⟩, List.mem_of_getElem? (i := 1157) (by decide +kernel), List.mem_of_getElem? (i := 1704) (by decide +kernel), List.mem_of_getElem? (i := 1705) (by decide +kernel)⟩
theorem lw_p88 : lw_okq (⟨"SoapWorksModel", "silent", "()I"⟩, 73) := ⟨⟨by decide +kernel, by decide +kernel⟩, List.mem_of_getElem? (i := 1157) (by decide +kernel), List.mem_of_getElem? (i := 1716) (by decide +kernel), List.mem_of_getElem? (i := 1717) (by decide +kernel)⟩
theorem lw_p89 : lw_okq (⟨"SoapWorksModel", "tellAll", "(I)V"⟩, 73) := ⟨⟨by decide +kernel, by decide +kernel⟩, List.mem_of_getElem? (i := 1157) (by decide +kernel), List.mem_of_getElem? (i := 1720) (by decide +kernel), List.mem_of_getElem? (i := 1721) (by decide +kernel)⟩
theorem lw_p90 : lw_okq (⟨"SoapWorksModel", "risesWith", "(I)Z"⟩, 73) := ⟨⟨by decide +kernel, by decide +kernel⟩, List.mem_of_getElem? (i := 1157) (by decide +kernel), List.mem_of_getElem? (i := 1728) (by decide +kernel), List.mem_of_getElem? (i := 1729) (by decide +kernel)⟩
theorem lw_p91 : lw_okq (⟨"SoapWorksModel", "lackOf", "(I)I"⟩, 73) := ⟨⟨by decide +kernel, by decide +kernel⟩, List.mem_of_getElem? (i := 1157) (by decide +kernel), List.mem_of_getElem? (i := 1748) (by decide +kernel), List.mem_of_getElem? (i := 1749) (by decide +kernel)⟩
theorem lw_p92 : lw_okq (⟨"SoapWorksModel", "nextRow", "()Z"⟩, 73) := ⟨⟨by decide +kernel, by decide +kernel⟩, List.mem_of_getElem? (i := 1157) (by decide +kernel), List.mem_of_getElem? (i := 1760) (by decide +kernel), List.mem_of_getElem? (i := 1761) (by decide +kernel)⟩
theorem lw_p93 : lw_okq (⟨"SoapWorksModel", "swap", "(II)V"⟩, 73) := ⟨⟨by decide +kernel, by decide +kernel⟩, List.mem_of_getElem? (i := 1157) (by decide +kernel), List.mem_of_getElem? (i := 1764) (by decide +kernel), List.mem_of_getElem? (i := 1765) (by decide +kernel)⟩
theorem lw_p94 : lw_okq (⟨"SoapWorksModel", "comesOf", "(I)I"⟩, 73) := ⟨⟨by decide +kernel, by decide +kernel⟩, List.mem_of_getElem? (i := 1157) (by decide +kernel), List.mem_of_getElem? (i := 1772) (by decide +kernel), List.mem_of_getElem? (i := 1773) (by decide +kernel)⟩
theorem lw_p95 : lw_okq (⟨"SoapWorksModel", "mindOf", "(I)I"⟩, 73) := ⟨⟨by decide +kernel, by decide +kernel⟩, List.mem_of_getElem? (i := 1157) (by decide +kernel), List.mem_of_getElem? (i := 1784) (by decide +kernel), List.mem_of_getElem? (i := 1785) (by decide +kernel)⟩
def lw_privs_6 : List (MethodName × Nat) := [(⟨"SoapWorksModel", "boilBy", "(II)V"⟩, 73), (⟨"SoapWorksModel", "makes", "(II)I"⟩, 73), (⟨"SoapWorksModel", "skims", "()V"⟩, 73), (⟨"SoapWorksModel", "isRisen", "()Z"⟩, 73), (⟨"SoapWorksModel", "isEased", "(I)Z"⟩, 73), (⟨"SoapWorksModel", "holds", "(I)Z"⟩, 73), (⟨"SoapWorksModel", "exchange", "(I)V"⟩, 73), (⟨"SoapWorksModel", "risesIn", "(I)I"⟩, 73), (⟨"SoapWorksModel", "silent", "()I"⟩, 73), (⟨"SoapWorksModel", "tellAll", "(I)V"⟩, 73), (⟨"SoapWorksModel", "risesWith", "(I)Z"⟩, 73), (⟨"SoapWorksModel", "lackOf", "(I)I"⟩, 73), (⟨"SoapWorksModel", "nextRow", "()Z"⟩, 73), (⟨"SoapWorksModel", "swap", "(II)V"⟩, 73), (⟨"SoapWorksModel", "comesOf", "(I)I"⟩, 73), (⟨"SoapWorksModel", "mindOf", "(I)I"⟩, 73)]
theorem lw_r6 : ∀ q ∈ lw_privs_6, lw_okq q := List.forall_mem_cons.mpr ⟨lw_p80, List.forall_mem_cons.mpr ⟨lw_p81, List.forall_mem_cons.mpr ⟨lw_p82, List.forall_mem_cons.mpr ⟨lw_p83, List.forall_mem_cons.mpr ⟨lw_p84, List.forall_mem_cons.mpr ⟨lw_p85, List.forall_mem_cons.mpr ⟨lw_p86, List.forall_mem_cons.mpr ⟨lw_p87, List.forall_mem_cons.mpr ⟨lw_p88, List.forall_mem_cons.mpr ⟨lw_p89, List.forall_mem_cons.mpr ⟨lw_p90, List.forall_mem_cons.mpr ⟨lw_p91, List.forall_mem_cons.mpr ⟨lw_p92, List.forall_mem_cons.mpr ⟨lw_p93, List.forall_mem_cons.mpr ⟨lw_p94, List.forall_mem_cons.mpr ⟨lw_p95, fun _ h => absurd h List.not_mem_nil⟩⟩⟩⟩⟩⟩⟩⟩⟩⟩⟩⟩⟩⟩⟩⟩
theorem lw_p96 : lw_okq (⟨"SoapWorksModel", "layFits", "(I)I"⟩, 73) := ⟨⟨by decide +kernel, by decide +kernel⟩, List.mem_of_getElem? (i := 1157) (by decide +kernel), List.mem_of_getElem? (i := 1863) (by decide +kernel), List.mem_of_getElem? (i := 1864) (by decide +kernel)⟩
theorem lw_p97 : lw_okq (⟨"SoapWorksModel", "fitsMuch", "(II)Z"⟩, 73) := ⟨⟨by decide +kernel, by decide +kernel⟩, List.mem_of_getElem? (i := 1157) (by decide +kernel), List.mem_of_getElem? (i := 1867) (by decide +kernel), List.mem_of_getElem? (i := 1868) (by decide +kernel)⟩
theorem lw_p98 : lw_okq (⟨"SoapWorksModel", "leftBy", "(II)I"⟩, 73) := ⟨⟨by decide +kernel, by decide +kernel⟩, List.mem_of_getElem? (i := 1157) (by decide +kernel), List.mem_of_getElem? (i := 1879) (by decide +kernel), List.mem_of_getElem? (i := 1880) (by decide +kernel)⟩
def lw_privs_7 : List (MethodName × Nat) := [(⟨"SoapWorksModel", "layFits", "(I)I"⟩, 73), (⟨"SoapWorksModel", "fitsMuch", "(II)Z"⟩, 73), (⟨"SoapWorksModel", "leftBy", "(II)I"⟩, 73)]
theorem lw_r7 : ∀ q ∈ lw_privs_7, lw_okq q := List.forall_mem_cons.mpr ⟨lw_p96, List.forall_mem_cons.mpr ⟨lw_p97, List.forall_mem_cons.mpr ⟨lw_p98, fun _ h => absurd h List.not_mem_nil⟩⟩⟩
def lw_privs : List (MethodName × Nat) := lw_privs_1 ++ (lw_privs_2 ++ (lw_privs_3 ++ (lw_privs_4 ++ (lw_privs_5 ++ (lw_privs_6 ++ (lw_privs_7))))))
def lw_tbl : List Cond := k2_sels lw_privs ++ tables_1
theorem lw_privs_ok : ∀ q ∈ lw_privs, lw_okq q := by
  show ∀ q ∈ lw_privs_1 ++ (lw_privs_2 ++ (lw_privs_3 ++ (lw_privs_4 ++ (lw_privs_5 ++ (lw_privs_6 ++ (lw_privs_7)))))), lw_okq q
  exact List.forall_mem_append.mpr ⟨lw_r1, List.forall_mem_append.mpr ⟨lw_r2, List.forall_mem_append.mpr ⟨lw_r3, List.forall_mem_append.mpr ⟨lw_r4, List.forall_mem_append.mpr ⟨lw_r5, List.forall_mem_append.mpr ⟨lw_r6, lw_r7⟩⟩⟩⟩⟩⟩
def RX0 : String := "SoapWorks$Acts"
def TX0 : u_T := fun k => match k with
  | 0 => ("SoapWorks$Acts", "lines", "[I", true)
  | 1 => ("SoapWorks$Acts", "here", "I", false)
  | _ => ("SoapWorks$Acts", "last", "I", false)
def tyX0 : Nat → FieldType := fun k => match k with
  | 0 => .array .int
  | 1 => .int
  | _ => .int
abbrev wsX00 : List Cond := u_ws RX0 TX0 3
theorem nmX0 : ∀ a, a < 3 → ∀ b, b < 3 → a ≠ b → (TX0 a).2.1 ≠ (TX0 b).2.1 := by decide +kernel
theorem tyX0_ok : ∀ k, k < 3 → parseFieldDescriptor (TX0 k).2.2.1 = some (tyX0 k) := by decide +kernel
abbrev cX0_init : ByteArray := prog_2_method_1_code
def yX0_init : MethodName := ⟨RX0, "<init>", "()V"⟩
abbrev cX0_forget : ByteArray := prog_2_method_2_code
def yX0_forget : MethodName := ⟨RX0, "forget", "()V"⟩
abbrev cX0_undoable : ByteArray := prog_2_method_3_code
def yX0_undoable : MethodName := ⟨RX0, "undoable", "()I"⟩
abbrev cX0_redoable : ByteArray := prog_2_method_4_code
def yX0_redoable : MethodName := ⟨RX0, "redoable", "()I"⟩
abbrev cX0_keep : ByteArray := prog_2_method_5_code
def yX0_keep : MethodName := ⟨RX0, "keep", "(LSoapWorks$Vat;)V"⟩
abbrev cX0_takeBack : ByteArray := prog_2_method_6_code
def yX0_takeBack : MethodName := ⟨RX0, "takeBack", "(LSoapWorks$Vat;)Z"⟩
abbrev cX0_doAgain : ByteArray := prog_2_method_7_code
def yX0_doAgain : MethodName := ⟨RX0, "doAgain", "(LSoapWorks$Vat;)Z"⟩
def RX1 : String := "SoapWorks$Boxes"
def TX1 : u_T := fun k => match k with
  | 0 => ("SoapWorks$Boxes", "full", "[Z", true)
  | _ => ("SoapWorks$Boxes", "lines", "[I", true)
def tyX1 : Nat → FieldType := fun k => match k with
  | 0 => .array .boolean
  | _ => .array .int
abbrev wsX10 : List Cond := u_ws RX1 TX1 2
theorem nmX1 : ∀ a, a < 2 → ∀ b, b < 2 → a ≠ b → (TX1 a).2.1 ≠ (TX1 b).2.1 := by decide +kernel
theorem tyX1_ok : ∀ k, k < 2 → parseFieldDescriptor (TX1 k).2.2.1 = some (tyX1 k) := by decide +kernel
abbrev cX1_init : ByteArray := prog_3_method_1_code
def yX1_init : MethodName := ⟨RX1, "<init>", "()V"⟩
abbrev cX1_forget : ByteArray := prog_3_method_2_code
def yX1_forget : MethodName := ⟨RX1, "forget", "()V"⟩
abbrev cX1_isBox : ByteArray := prog_3_method_3_code
def yX1_isBox : MethodName := ⟨RX1, "isBox", "(I)Z"⟩
abbrev cX1_put : ByteArray := prog_3_method_4_code
def yX1_put : MethodName := ⟨RX1, "put", "(ILSoapWorks$Vat;)V"⟩
abbrev cX1_take : ByteArray := prog_3_method_5_code
def yX1_take : MethodName := ⟨RX1, "take", "(ILSoapWorks$Vat;)V"⟩
def RX2 : String := "SoapWorks$Formula"
def TX2 : u_T := fun k => match k with
  | 0 => ("SoapWorks$Formula", "units", "I", false)
  | 1 => ("SoapWorks$Formula", "hasDay", "Z", false)
  | 2 => ("SoapWorks$Formula", "size", "I", false)
  | 3 => ("SoapWorks$Formula", "program", "[I", true)
  | 4 => ("SoapWorks$Formula", "stack", "[I", true)
  | _ => ("SoapWorks$Formula", "known", "[I", true)
def tyX2 : Nat → FieldType := fun k => match k with
  | 0 => .int
  | 1 => .boolean
  | 2 => .int
  | 3 => .array .int
  | 4 => .array .int
  | _ => .array .int
abbrev wsX20 : List Cond := u_ws RX2 TX2 6
theorem nmX2 : ∀ a, a < 6 → ∀ b, b < 6 → a ≠ b → (TX2 a).2.1 ≠ (TX2 b).2.1 := by decide +kernel
theorem tyX2_ok : ∀ k, k < 6 → parseFieldDescriptor (TX2 k).2.2.1 = some (tyX2 k) := by decide +kernel
abbrev cX2_init : ByteArray := prog_4_method_1_code
def yX2_init : MethodName := ⟨RX2, "<init>", "()V"⟩
abbrev cX2_clear : ByteArray := prog_4_method_2_code
def yX2_clear : MethodName := ⟨RX2, "clear", "()V"⟩
abbrev cX2_add : ByteArray := prog_4_method_3_code
def yX2_add : MethodName := ⟨RX2, "add", "(I)V"⟩
abbrev cX2_worth : ByteArray := prog_4_method_4_code
def yX2_worth : MethodName := ⟨RX2, "worth", "(LSoapWorks$Vat;I)I"⟩
abbrev cX2_measure : ByteArray := prog_4_method_5_code
def yX2_measure : MethodName := ⟨RX2, "measure", "(LSoapWorks$Vat;I)V"⟩
abbrev cX2_joined : ByteArray := prog_4_method_6_code
def yX2_joined : MethodName := ⟨RX2, "joined", "(III)I"⟩
def RX3 : String := "SoapWorks$Outlook"
def TX3 : u_T := fun k => match k with
  | 0 => ("SoapWorks$Outlook", "ahead", "LSoapWorks$Vat;", true)
  | 1 => ("SoapWorks$Outlook", "trial", "[I", true)
  | _ => ("SoapWorks$Outlook", "inOrder", "[I", true)
def tyX3 : Nat → FieldType := fun k => match k with
  | 0 => .object "SoapWorks$Vat"
  | 1 => .array .int
  | _ => .array .int
abbrev wsX30 : List Cond := u_ws RX3 TX3 3
theorem nmX3 : ∀ a, a < 3 → ∀ b, b < 3 → a ≠ b → (TX3 a).2.1 ≠ (TX3 b).2.1 := by decide +kernel
theorem tyX3_ok : ∀ k, k < 3 → parseFieldDescriptor (TX3 k).2.2.1 = some (tyX3 k) := by decide +kernel
abbrev cX3_init : ByteArray := prog_5_method_1_code
def yX3_init : MethodName := ⟨RX3, "<init>", "()V"⟩
abbrev cX3_riseIf : ByteArray := prog_5_method_2_code
def yX3_riseIf : MethodName := ⟨RX3, "riseIf", "(LSoapWorks$Plan;LSoapWorks$Vat;II)I"⟩
abbrev cX3_muchBehind : ByteArray := prog_5_method_3_code
def yX3_muchBehind : MethodName := ⟨RX3, "muchBehind", "(LSoapWorks$Plan;LSoapWorks$Vat;IIZ)I"⟩
abbrev cX3_wouldHold : ByteArray := prog_5_method_4_code
def yX3_wouldHold : MethodName := ⟨RX3, "wouldHold", "(LSoapWorks$Plan;LSoapWorks$Vat;II)Z"⟩
abbrev cX3_boilingsTill : ByteArray := prog_5_method_5_code
def yX3_boilingsTill : MethodName := ⟨RX3, "boilingsTill", "(LSoapWorks$Plan;LSoapWorks$Vat;I)I"⟩
abbrev cX3_boilingsToRest : ByteArray := prog_5_method_6_code
def yX3_boilingsToRest : MethodName := ⟨RX3, "boilingsToRest", "(LSoapWorks$Plan;LSoapWorks$Vat;)I"⟩
abbrev cX3_allUnderLaw : ByteArray := prog_5_method_7_code
def yX3_allUnderLaw : MethodName := ⟨RX3, "allUnderLaw", "(LSoapWorks$Plan;LSoapWorks$Vat;I)I"⟩
abbrev cX3_mostByOrder : ByteArray := prog_5_method_8_code
def yX3_mostByOrder : MethodName := ⟨RX3, "mostByOrder", "(LSoapWorks$Plan;LSoapWorks$Vat;I[I)I"⟩
abbrev cX3_muchByOrder : ByteArray := prog_5_method_9_code
def yX3_muchByOrder : MethodName := ⟨RX3, "muchByOrder", "(LSoapWorks$Plan;LSoapWorks$Vat;I)I"⟩
abbrev cX3_toNextOrder : ByteArray := prog_5_method_10_code
def yX3_toNextOrder : MethodName := ⟨RX3, "toNextOrder", "(I)Z"⟩
abbrev cX3_exchange : ByteArray := prog_5_method_11_code
def yX3_exchange : MethodName := ⟨RX3, "exchange", "(II)V"⟩
abbrev cX3_duelRests : ByteArray := prog_5_method_12_code
def yX3_duelRests : MethodName := ⟨RX3, "duelRests", "(LSoapWorks$Plan;LSoapWorks$Vat;II)I"⟩
abbrev cX3_gain : ByteArray := prog_5_method_13_code
def yX3_gain : MethodName := ⟨RX3, "gain", "(IIII)I"⟩
def RX4 : String := "SoapWorks$Plan"
def TX4 : u_T := fun k => match k with
  | 0 => ("SoapWorks$Plan", "kinds", "I", false)
  | 1 => ("SoapWorks$Plan", "people", "I", false)
  | 2 => ("SoapWorks$Plan", "rules", "I", false)
  | 3 => ("SoapWorks$Plan", "basins", "I", false)
  | 4 => ("SoapWorks$Plan", "scum", "I", false)
  | 5 => ("SoapWorks$Plan", "draw", "I", false)
  | 6 => ("SoapWorks$Plan", "scumTold", "Z", false)
  | 7 => ("SoapWorks$Plan", "drawTold", "Z", false)
  | 8 => ("SoapWorks$Plan", "lastKind", "I", false)
  | 9 => ("SoapWorks$Plan", "kindNames", "[J", true)
  | 10 => ("SoapWorks$Plan", "personNames", "[J", true)
  | 11 => ("SoapWorks$Plan", "basinNames", "[J", true)
  | 12 => ("SoapWorks$Plan", "minds", "[I", true)
  | 13 => ("SoapWorks$Plan", "basinNeeds", "[I", true)
  | 14 => ("SoapWorks$Plan", "ruleParts", "[I", true)
  | _ => ("SoapWorks$Plan", "rises", "LSoapWorks$Formula;", true)
def tyX4 : Nat → FieldType := fun k => match k with
  | 0 => .int
  | 1 => .int
  | 2 => .int
  | 3 => .int
  | 4 => .int
  | 5 => .int
  | 6 => .boolean
  | 7 => .boolean
  | 8 => .int
  | 9 => .array .long
  | 10 => .array .long
  | 11 => .array .long
  | 12 => .array .int
  | 13 => .array .int
  | 14 => .array .int
  | _ => .object "SoapWorks$Formula"
abbrev wsX40 : List Cond := u_ws RX4 TX4 16
theorem nmX4 : ∀ a, a < 16 → ∀ b, b < 16 → a ≠ b → (TX4 a).2.1 ≠ (TX4 b).2.1 := by decide +kernel
theorem tyX4_ok : ∀ k, k < 16 → parseFieldDescriptor (TX4 k).2.2.1 = some (tyX4 k) := by decide +kernel
abbrev cX4_init : ByteArray := prog_6_method_1_code
def yX4_init : MethodName := ⟨RX4, "<init>", "()V"⟩
abbrev cX4_clear : ByteArray := prog_6_method_2_code
def yX4_clear : MethodName := ⟨RX4, "clear", "()V"⟩
abbrev cX4_addRule : ByteArray := prog_6_method_3_code
def yX4_addRule : MethodName := ⟨RX4, "addRule", "(IIII)V"⟩
abbrev cX4_isKind : ByteArray := prog_6_method_4_code
def yX4_isKind : MethodName := ⟨RX4, "isKind", "(I)Z"⟩
abbrev cX4_isPerson : ByteArray := prog_6_method_5_code
def yX4_isPerson : MethodName := ⟨RX4, "isPerson", "(I)Z"⟩
abbrev cX4_isBasin : ByteArray := prog_6_method_6_code
def yX4_isBasin : MethodName := ⟨RX4, "isBasin", "(I)Z"⟩
abbrev cX4_has : ByteArray := prog_6_method_7_code
def yX4_has : MethodName := ⟨RX4, "has", "(II)I"⟩
abbrev cX4_needs : ByteArray := prog_6_method_8_code
def yX4_needs : MethodName := ⟨RX4, "needs", "(II)I"⟩
abbrev cX4_first : ByteArray := prog_6_method_9_code
def yX4_first : MethodName := ⟨RX4, "first", "(I)I"⟩
abbrev cX4_second : ByteArray := prog_6_method_10_code
def yX4_second : MethodName := ⟨RX4, "second", "(I)I"⟩
abbrev cX4_third : ByteArray := prog_6_method_11_code
def yX4_third : MethodName := ⟨RX4, "third", "(I)I"⟩
abbrev cX4_limit : ByteArray := prog_6_method_12_code
def yX4_limit : MethodName := ⟨RX4, "limit", "(I)I"⟩
abbrev cX4_burden : ByteArray := prog_6_method_13_code
def yX4_burden : MethodName := ⟨RX4, "burden", "(I)I"⟩
abbrev cX4_tell : ByteArray := prog_6_method_14_code
def yX4_tell : MethodName := ⟨RX4, "tell", "(LSoapWorks$Vat;I)V"⟩
abbrev cX4_pour : ByteArray := prog_6_method_15_code
def yX4_pour : MethodName := ⟨RX4, "pour", "([II)V"⟩
abbrev cX4_lacking : ByteArray := prog_6_method_16_code
def yX4_lacking : MethodName := ⟨RX4, "lacking", "([II)I"⟩
abbrev cX4_canServe : ByteArray := prog_6_method_17_code
def yX4_canServe : MethodName := ⟨RX4, "canServe", "([II)Z"⟩
abbrev cX4_madeOf : ByteArray := prog_6_method_18_code
def yX4_madeOf : MethodName := ⟨RX4, "madeOf", "(I)I"⟩
abbrev cX4_turning : ByteArray := prog_6_method_19_code
def yX4_turning : MethodName := ⟨RX4, "turning", "([III)I"⟩
abbrev cX4_turn : ByteArray := prog_6_method_20_code
def yX4_turn : MethodName := ⟨RX4, "turn", "([III)I"⟩
abbrev cX4_boilRules : ByteArray := prog_6_method_21_code
def yX4_boilRules : MethodName := ⟨RX4, "boilRules", "([I)Z"⟩
abbrev cX4_isRisen : ByteArray := prog_6_method_22_code
def yX4_isRisen : MethodName := ⟨RX4, "isRisen", "(LSoapWorks$Vat;)Z"⟩
abbrev cX4_boilInEarnest : ByteArray := prog_6_method_23_code
def yX4_boilInEarnest : MethodName := ⟨RX4, "boilInEarnest", "(LSoapWorks$Vat;Z)Z"⟩
abbrev cX4_drawScum : ByteArray := prog_6_method_24_code
def yX4_drawScum : MethodName := ⟨RX4, "drawScum", "(LSoapWorks$Vat;)V"⟩
def RX5 : String := "SoapWorks$Reader"
def TX5 : u_T := fun k => match k with
  | 0 => ("SoapWorks$Reader", "tape", "LSoapWorks$Tape;", true)
  | 1 => ("SoapWorks$Reader", "plan", "LSoapWorks$Plan;", false)
  | 2 => ("SoapWorks$Reader", "faultNumber", "I", false)
  | 3 => ("SoapWorks$Reader", "faultPlace", "I", false)
  | _ => ("SoapWorks$Reader", "lastPortion", "I", false)
def tyX5 : Nat → FieldType := fun k => match k with
  | 0 => .object "SoapWorks$Tape"
  | 1 => .object "SoapWorks$Plan"
  | 2 => .int
  | 3 => .int
  | _ => .int
abbrev wsX50 : List Cond := u_ws RX5 TX5 5
theorem nmX5 : ∀ a, a < 5 → ∀ b, b < 5 → a ≠ b → (TX5 a).2.1 ≠ (TX5 b).2.1 := by decide +kernel
theorem tyX5_ok : ∀ k, k < 5 → parseFieldDescriptor (TX5 k).2.2.1 = some (tyX5 k) := by decide +kernel
abbrev cX5_init : ByteArray := prog_7_method_1_code
def yX5_init : MethodName := ⟨RX5, "<init>", "()V"⟩
abbrev cX5_begin : ByteArray := prog_7_method_2_code
def yX5_begin : MethodName := ⟨RX5, "begin", "()V"⟩
abbrev cX5_isAtEnd : ByteArray := prog_7_method_3_code
def yX5_isAtEnd : MethodName := ⟨RX5, "isAtEnd", "()Z"⟩
abbrev cX5_readLine : ByteArray := prog_7_method_4_code
def yX5_readLine : MethodName := ⟨RX5, "readLine", "()Z"⟩
abbrev cX5_refuse : ByteArray := prog_7_method_5_code
def yX5_refuse : MethodName := ⟨RX5, "refuse", "(I)Z"⟩
abbrev cX5_readKind : ByteArray := prog_7_method_6_code
def yX5_readKind : MethodName := ⟨RX5, "readKind", "()Z"⟩
abbrev cX5_readPerson : ByteArray := prog_7_method_7_code
def yX5_readPerson : MethodName := ⟨RX5, "readPerson", "()Z"⟩
abbrev cX5_readBasin : ByteArray := prog_7_method_8_code
def yX5_readBasin : MethodName := ⟨RX5, "readBasin", "()Z"⟩
abbrev cX5_readRule : ByteArray := prog_7_method_9_code
def yX5_readRule : MethodName := ⟨RX5, "readRule", "()Z"⟩
abbrev cX5_readRises : ByteArray := prog_7_method_10_code
def yX5_readRises : MethodName := ⟨RX5, "readRises", "()Z"⟩
abbrev cX5_readScum : ByteArray := prog_7_method_11_code
def yX5_readScum : MethodName := ⟨RX5, "readScum", "()Z"⟩
abbrev cX5_readDraw : ByteArray := prog_7_method_12_code
def yX5_readDraw : MethodName := ⟨RX5, "readDraw", "()Z"⟩
abbrev cX5_readPortions : ByteArray := prog_7_method_13_code
def yX5_readPortions : MethodName := ⟨RX5, "readPortions", "([II)Z"⟩
abbrev cX5_readNewName : ByteArray := prog_7_method_14_code
def yX5_readNewName : MethodName := ⟨RX5, "readNewName", "([JI)Z"⟩
abbrev cX5_knownKind : ByteArray := prog_7_method_15_code
def yX5_knownKind : MethodName := ⟨RX5, "knownKind", "()I"⟩
abbrev cX5_readKnownKind : ByteArray := prog_7_method_16_code
def yX5_readKnownKind : MethodName := ⟨RX5, "readKnownKind", "()I"⟩
abbrev cX5_readNumber : ByteArray := prog_7_method_17_code
def yX5_readNumber : MethodName := ⟨RX5, "readNumber", "(II)I"⟩
abbrev cX5_readKey : ByteArray := prog_7_method_18_code
def yX5_readKey : MethodName := ⟨RX5, "readKey", "(I)Z"⟩
abbrev cX5_readSign : ByteArray := prog_7_method_19_code
def yX5_readSign : MethodName := ⟨RX5, "readSign", "(I)Z"⟩
abbrev cX5_readFormula : ByteArray := prog_7_method_20_code
def yX5_readFormula : MethodName := ⟨RX5, "readFormula", "(II)Z"⟩
abbrev cX5_readNot : ByteArray := prog_7_method_21_code
def yX5_readNot : MethodName := ⟨RX5, "readNot", "(I)Z"⟩
abbrev cX5_readUnit : ByteArray := prog_7_method_22_code
def yX5_readUnit : MethodName := ⟨RX5, "readUnit", "(I)Z"⟩
abbrev cX5_signOfLevel : ByteArray := prog_7_method_23_code
def yX5_signOfLevel : MethodName := ⟨RX5, "signOfLevel", "(I)I"⟩
def RX6 : String := "SoapWorks$Sightings"
def TX6 : u_T := fun k => match k with
  | 0 => ("SoapWorks$Sightings", "count", "I", false)
  | 1 => ("SoapWorks$Sightings", "boilings", "[I", true)
  | 2 => ("SoapWorks$Sightings", "kinds", "[I", true)
  | 3 => ("SoapWorks$Sightings", "least", "[I", true)
  | 4 => ("SoapWorks$Sightings", "was", "[Z", true)
  | 5 => ("SoapWorks$Sightings", "toldAt", "[I", true)
  | 6 => ("SoapWorks$Sightings", "untoldAt", "[I", true)
  | 7 => ("SoapWorks$Sightings", "much", "[I", true)
  | 8 => ("SoapWorks$Sightings", "courses", "[I", true)
  | _ => ("SoapWorks$Sightings", "hasCourses", "Z", false)
def tyX6 : Nat → FieldType := fun k => match k with
  | 0 => .int
  | 1 => .array .int
  | 2 => .array .int
  | 3 => .array .int
  | 4 => .array .boolean
  | 5 => .array .int
  | 6 => .array .int
  | 7 => .array .int
  | 8 => .array .int
  | _ => .boolean
abbrev wsX60 : List Cond := u_ws RX6 TX6 10
theorem nmX6 : ∀ a, a < 10 → ∀ b, b < 10 → a ≠ b → (TX6 a).2.1 ≠ (TX6 b).2.1 := by decide +kernel
theorem tyX6_ok : ∀ k, k < 10 → parseFieldDescriptor (TX6 k).2.2.1 = some (tyX6 k) := by decide +kernel
abbrev cX6_init : ByteArray := prog_8_method_1_code
def yX6_init : MethodName := ⟨RX6, "<init>", "()V"⟩
abbrev cX6_forget : ByteArray := prog_8_method_2_code
def yX6_forget : MethodName := ⟨RX6, "forget", "()V"⟩
abbrev cX6_add : ByteArray := prog_8_method_3_code
def yX6_add : MethodName := ⟨RX6, "add", "(IIIZI)I"⟩
abbrev cX6_takeBack : ByteArray := prog_8_method_4_code
def yX6_takeBack : MethodName := ⟨RX6, "takeBack", "(II)Z"⟩
abbrev cX6_fitting : ByteArray := prog_8_method_5_code
def yX6_fitting : MethodName := ⟨RX6, "fitting", "(LSoapWorks$Plan;I)I"⟩
abbrev cX6_leftAtMost : ByteArray := prog_8_method_6_code
def yX6_leftAtMost : MethodName := ⟨RX6, "leftAtMost", "(III)I"⟩
abbrev cX6_alike : ByteArray := prog_8_method_7_code
def yX6_alike : MethodName := ⟨RX6, "alike", "(IIII)I"⟩
abbrev cX6_isBorneOut : ByteArray := prog_8_method_8_code
def yX6_isBorneOut : MethodName := ⟨RX6, "isBorneOut", "(II)Z"⟩
abbrev cX6_counts : ByteArray := prog_8_method_9_code
def yX6_counts : MethodName := ⟨RX6, "counts", "(II)Z"⟩
abbrev cX6_cell : ByteArray := prog_8_method_10_code
def yX6_cell : MethodName := ⟨RX6, "cell", "(II)I"⟩
abbrev cX6_followCourses : ByteArray := prog_8_method_11_code
def yX6_followCourses : MethodName := ⟨RX6, "followCourses", "(LSoapWorks$Plan;)V"⟩
abbrev cX6_tellAll : ByteArray := prog_8_method_12_code
def yX6_tellAll : MethodName := ⟨RX6, "tellAll", "(LSoapWorks$Plan;I)V"⟩
def RX7 : String := "SoapWorks$Tape"
def TX7 : u_T := fun k => match k with
  | 0 => ("SoapWorks$Tape", "bytes", "[B", true)
  | 1 => ("SoapWorks$Tape", "length", "I", false)
  | 2 => ("SoapWorks$Tape", "keys", "[J", true)
  | 3 => ("SoapWorks$Tape", "at", "I", false)
  | 4 => ("SoapWorks$Tape", "sort", "I", false)
  | 5 => ("SoapWorks$Tape", "place", "I", false)
  | 6 => ("SoapWorks$Tape", "spelling", "J", false)
  | 7 => ("SoapWorks$Tape", "key", "I", false)
  | 8 => ("SoapWorks$Tape", "number", "I", false)
  | _ => ("SoapWorks$Tape", "sign", "I", false)
def tyX7 : Nat → FieldType := fun k => match k with
  | 0 => .array .byte
  | 1 => .int
  | 2 => .array .long
  | 3 => .int
  | 4 => .int
  | 5 => .int
  | 6 => .long
  | 7 => .int
  | 8 => .int
  | _ => .int
abbrev wsX70 : List Cond := u_ws RX7 TX7 10
theorem nmX7 : ∀ a, a < 10 → ∀ b, b < 10 → a ≠ b → (TX7 a).2.1 ≠ (TX7 b).2.1 := by decide +kernel
theorem tyX7_ok : ∀ k, k < 10 → parseFieldDescriptor (TX7 k).2.2.1 = some (tyX7 k) := by decide +kernel
abbrev cX7_init : ByteArray := prog_9_method_1_code
def yX7_init : MethodName := ⟨RX7, "<init>", "()V"⟩
abbrev cX7_append : ByteArray := prog_9_method_2_code
def yX7_append : MethodName := ⟨RX7, "append", "(I)V"⟩
abbrev cX7_readFirst : ByteArray := prog_9_method_3_code
def yX7_readFirst : MethodName := ⟨RX7, "readFirst", "()V"⟩
abbrev cX7_readNext : ByteArray := prog_9_method_4_code
def yX7_readNext : MethodName := ⟨RX7, "readNext", "()V"⟩
abbrev cX7_isName : ByteArray := prog_9_method_5_code
def yX7_isName : MethodName := ⟨RX7, "isName", "()Z"⟩
abbrev cX7_readWord : ByteArray := prog_9_method_6_code
def yX7_readWord : MethodName := ⟨RX7, "readWord", "()V"⟩
abbrev cX7_readNumber : ByteArray := prog_9_method_7_code
def yX7_readNumber : MethodName := ⟨RX7, "readNumber", "()V"⟩
abbrev cX7_readSign : ByteArray := prog_9_method_8_code
def yX7_readSign : MethodName := ⟨RX7, "readSign", "()V"⟩
abbrev cX7_find : ByteArray := prog_9_method_9_code
def yX7_find : MethodName := ⟨RX7, "find", "([JIJ)I"⟩
abbrev cX7_spellings : ByteArray := prog_9_method_10_code
def yX7_spellings : MethodName := ⟨RX7, "spellings", "(Ljava/lang/String;)[J"⟩
abbrev cX7_spelled : ByteArray := prog_9_method_11_code
def yX7_spelled : MethodName := ⟨RX7, "spelled", "(JI)J"⟩
abbrev cX7_isBlank : ByteArray := prog_9_method_12_code
def yX7_isBlank : MethodName := ⟨RX7, "isBlank", "(I)Z"⟩
abbrev cX7_isLetter : ByteArray := prog_9_method_13_code
def yX7_isLetter : MethodName := ⟨RX7, "isLetter", "(I)Z"⟩
abbrev cX7_isDigit : ByteArray := prog_9_method_14_code
def yX7_isDigit : MethodName := ⟨RX7, "isDigit", "(I)Z"⟩
def RX8 : String := "SoapWorks$Vat"
def TX8 : u_T := fun k => match k with
  | 0 => ("SoapWorks$Vat", "much", "[I", true)
  | 1 => ("SoapWorks$Vat", "told", "I", false)
  | 2 => ("SoapWorks$Vat", "eased", "I", false)
  | 3 => ("SoapWorks$Vat", "street", "I", false)
  | 4 => ("SoapWorks$Vat", "day", "I", false)
  | _ => ("SoapWorks$Vat", "seed", "I", false)
def tyX8 : Nat → FieldType := fun k => match k with
  | 0 => .array .int
  | 1 => .int
  | 2 => .int
  | 3 => .int
  | 4 => .int
  | _ => .int
abbrev wsX80 : List Cond := u_ws RX8 TX8 6
theorem nmX8 : ∀ a, a < 6 → ∀ b, b < 6 → a ≠ b → (TX8 a).2.1 ≠ (TX8 b).2.1 := by decide +kernel
theorem tyX8_ok : ∀ k, k < 6 → parseFieldDescriptor (TX8 k).2.2.1 = some (tyX8 k) := by decide +kernel
abbrev cX8_init : ByteArray := prog_10_method_1_code
def yX8_init : MethodName := ⟨RX8, "<init>", "()V"⟩
abbrev cX8_begin : ByteArray := prog_10_method_2_code
def yX8_begin : MethodName := ⟨RX8, "begin", "(I)V"⟩
abbrev cX8_all : ByteArray := prog_10_method_3_code
def yX8_all : MethodName := ⟨RX8, "all", "()I"⟩
abbrev cX8_copy : ByteArray := prog_10_method_4_code
def yX8_copy : MethodName := ⟨RX8, "copy", "(LSoapWorks$Vat;)V"⟩
abbrev cX8_save : ByteArray := prog_10_method_5_code
def yX8_save : MethodName := ⟨RX8, "save", "([II)V"⟩
abbrev cX8_load : ByteArray := prog_10_method_6_code
def yX8_load : MethodName := ⟨RX8, "load", "([II)V"⟩
def RX9 : String := "SoapWorks"
def TX9 : u_T := fun k => match k with
  | 0 => ("SoapWorks", "reader", "LSoapWorks$Reader;", true)
  | 1 => ("SoapWorks", "plan", "LSoapWorks$Plan;", false)
  | 2 => ("SoapWorks", "now", "LSoapWorks$Vat;", true)
  | 3 => ("SoapWorks", "acts", "LSoapWorks$Acts;", true)
  | 4 => ("SoapWorks", "boxes", "LSoapWorks$Boxes;", true)
  | 5 => ("SoapWorks", "outlook", "LSoapWorks$Outlook;", true)
  | 6 => ("SoapWorks", "sightings", "LSoapWorks$Sightings;", true)
  | 7 => ("SoapWorks", "lying", "[I", true)
  | 8 => ("SoapWorks", "lyingCount", "I", false)
  | _ => ("SoapWorks", "time", "I", false)
def tyX9 : Nat → FieldType := fun k => match k with
  | 0 => .object "SoapWorks$Reader"
  | 1 => .object "SoapWorks$Plan"
  | 2 => .object "SoapWorks$Vat"
  | 3 => .object "SoapWorks$Acts"
  | 4 => .object "SoapWorks$Boxes"
  | 5 => .object "SoapWorks$Outlook"
  | 6 => .object "SoapWorks$Sightings"
  | 7 => .array .int
  | 8 => .int
  | _ => .int
abbrev wsX90 : List Cond := u_ws RX9 TX9 10
theorem nmX9 : ∀ a, a < 10 → ∀ b, b < 10 → a ≠ b → (TX9 a).2.1 ≠ (TX9 b).2.1 := by decide +kernel
theorem tyX9_ok : ∀ k, k < 10 → parseFieldDescriptor (TX9 k).2.2.1 = some (tyX9 k) := by decide +kernel
abbrev cX9_init : ByteArray := prog_1_method_1_code
def yX9_init : MethodName := ⟨RX9, "<init>", "()V"⟩
abbrev cX9_feed : ByteArray := prog_1_method_2_code
def yX9_feed : MethodName := ⟨RX9, "feed", "(IIIII)I"⟩
abbrev cX9_end : ByteArray := prog_1_method_3_code
def yX9_end : MethodName := ⟨RX9, "end", "(I)I"⟩
abbrev cX9_works : ByteArray := prog_1_method_4_code
def yX9_works : MethodName := ⟨RX9, "works", "()I"⟩
abbrev cX9_fault : ByteArray := prog_1_method_5_code
def yX9_fault : MethodName := ⟨RX9, "fault", "(I)I"⟩
abbrev cX9_vat : ByteArray := prog_1_method_6_code
def yX9_vat : MethodName := ⟨RX9, "vat", "(I)I"⟩
abbrev cX9_mind : ByteArray := prog_1_method_7_code
def yX9_mind : MethodName := ⟨RX9, "mind", "(II)I"⟩
abbrev cX9_wants : ByteArray := prog_1_method_8_code
def yX9_wants : MethodName := ⟨RX9, "wants", "(II)I"⟩
abbrev cX9_rule : ByteArray := prog_1_method_9_code
def yX9_rule : MethodName := ⟨RX9, "rule", "(II)I"⟩
abbrev cX9_confess : ByteArray := prog_1_method_10_code
def yX9_confess : MethodName := ⟨RX9, "confess", "(I)I"⟩
abbrev cX9_boil : ByteArray := prog_1_method_11_code
def yX9_boil : MethodName := ⟨RX9, "boil", "()I"⟩
abbrev cX9_wash : ByteArray := prog_1_method_12_code
def yX9_wash : MethodName := ⟨RX9, "wash", "(I)I"⟩
abbrev cX9_sweep : ByteArray := prog_1_method_13_code
def yX9_sweep : MethodName := ⟨RX9, "sweep", "(I)I"⟩
abbrev cX9_undo : ByteArray := prog_1_method_14_code
def yX9_undo : MethodName := ⟨RX9, "undo", "()Z"⟩
abbrev cX9_redo : ByteArray := prog_1_method_15_code
def yX9_redo : MethodName := ⟨RX9, "redo", "()Z"⟩
abbrev cX9_will : ByteArray := prog_1_method_16_code
def yX9_will : MethodName := ⟨RX9, "will", "(III)I"⟩
abbrev cX9_rise : ByteArray := prog_1_method_17_code
def yX9_rise : MethodName := ⟨RX9, "rise", "()I"⟩
abbrev cX9_rouser : ByteArray := prog_1_method_18_code
def yX9_rouser : MethodName := ⟨RX9, "rouser", "(I)I"⟩
abbrev cX9_choir : ByteArray := prog_1_method_19_code
def yX9_choir : MethodName := ⟨RX9, "choir", "(II)I"⟩
abbrev cX9_power : ByteArray := prog_1_method_20_code
def yX9_power : MethodName := ⟨RX9, "power", "(I)I"⟩
abbrev cX9_serve : ByteArray := prog_1_method_21_code
def yX9_serve : MethodName := ⟨RX9, "serve", "(I)I"⟩
abbrev cX9_balm : ByteArray := prog_1_method_22_code
def yX9_balm : MethodName := ⟨RX9, "balm", "(II)I"⟩
abbrev cX9_cook : ByteArray := prog_1_method_23_code
def yX9_cook : MethodName := ⟨RX9, "cook", "(I)I"⟩
abbrev cX9_lacks : ByteArray := prog_1_method_24_code
def yX9_lacks : MethodName := ⟨RX9, "lacks", "(I)I"⟩
abbrev cX9_rest : ByteArray := prog_1_method_25_code
def yX9_rest : MethodName := ⟨RX9, "rest", "()I"⟩
abbrev cX9_order : ByteArray := prog_1_method_26_code
def yX9_order : MethodName := ⟨RX9, "order", "(I)I"⟩
abbrev cX9_comes : ByteArray := prog_1_method_27_code
def yX9_comes : MethodName := ⟨RX9, "comes", "(I)I"⟩
abbrev cX9_steps : ByteArray := prog_1_method_28_code
def yX9_steps : MethodName := ⟨RX9, "steps", "(II)I"⟩
abbrev cX9_duel : ByteArray := prog_1_method_29_code
def yX9_duel : MethodName := ⟨RX9, "duel", "(II)I"⟩
abbrev cX9_nearest : ByteArray := prog_1_method_30_code
def yX9_nearest : MethodName := ⟨RX9, "nearest", "()I"⟩
abbrev cX9_wanted : ByteArray := prog_1_method_31_code
def yX9_wanted : MethodName := ⟨RX9, "wanted", "(I)I"⟩
abbrev cX9_sinners : ByteArray := prog_1_method_32_code
def yX9_sinners : MethodName := ⟨RX9, "sinners", "(I)I"⟩
abbrev cX9_inert : ByteArray := prog_1_method_33_code
def yX9_inert : MethodName := ⟨RX9, "inert", "()I"⟩
abbrev cX9_alive : ByteArray := prog_1_method_34_code
def yX9_alive : MethodName := ⟨RX9, "alive", "()I"⟩
abbrev cX9_thickest : ByteArray := prog_1_method_35_code
def yX9_thickest : MethodName := ⟨RX9, "thickest", "()I"⟩
abbrev cX9_thinnest : ByteArray := prog_1_method_36_code
def yX9_thinnest : MethodName := ⟨RX9, "thinnest", "()I"⟩
abbrev cX9_makers : ByteArray := prog_1_method_37_code
def yX9_makers : MethodName := ⟨RX9, "makers", "(I)I"⟩
abbrev cX9_heaviest : ByteArray := prog_1_method_38_code
def yX9_heaviest : MethodName := ⟨RX9, "heaviest", "()I"⟩
abbrev cX9_law : ByteArray := prog_1_method_39_code
def yX9_law : MethodName := ⟨RX9, "law", "(I)I"⟩
abbrev cX9_mission : ByteArray := prog_1_method_40_code
def yX9_mission : MethodName := ⟨RX9, "mission", "()I"⟩
abbrev cX9_odds : ByteArray := prog_1_method_41_code
def yX9_odds : MethodName := ⟨RX9, "odds", "(II)I"⟩
abbrev cX9_lies : ByteArray := prog_1_method_42_code
def yX9_lies : MethodName := ⟨RX9, "lies", "(I)I"⟩
abbrev cX9_seen : ByteArray := prog_1_method_43_code
def yX9_seen : MethodName := ⟨RX9, "seen", "(IIIZ)I"⟩
abbrev cX9_untell : ByteArray := prog_1_method_44_code
def yX9_untell : MethodName := ⟨RX9, "untell", "(I)Z"⟩
abbrev cX9_later : ByteArray := prog_1_method_45_code
def yX9_later : MethodName := ⟨RX9, "later", "(I)I"⟩
abbrev cX9_fits : ByteArray := prog_1_method_46_code
def yX9_fits : MethodName := ⟨RX9, "fits", "(I)I"⟩
abbrev cX9_sure : ByteArray := prog_1_method_47_code
def yX9_sure : MethodName := ⟨RX9, "sure", "(II)I"⟩
abbrev cX9_ask : ByteArray := prog_1_method_48_code
def yX9_ask : MethodName := ⟨RX9, "ask", "(III)I"⟩
abbrev cX9_image : ByteArray := prog_1_method_49_code
def yX9_image : MethodName := ⟨RX9, "image", "(I)I"⟩
abbrev cX9_back : ByteArray := prog_1_method_50_code
def yX9_back : MethodName := ⟨RX9, "back", "(I)I"⟩
abbrev cX9_about : ByteArray := prog_1_method_51_code
def yX9_about : MethodName := ⟨RX9, "about", "(I)I"⟩
abbrev cX9_isSilent : ByteArray := prog_1_method_52_code
def yX9_isSilent : MethodName := ⟨RX9, "isSilent", "(I)Z"⟩
abbrev cX9_silentOnes : ByteArray := prog_1_method_53_code
def yX9_silentOnes : MethodName := ⟨RX9, "silentOnes", "()I"⟩
abbrev cX9_isEased : ByteArray := prog_1_method_54_code
def yX9_isEased : MethodName := ⟨RX9, "isEased", "(I)Z"⟩
abbrev cX9_isFewer : ByteArray := prog_1_method_55_code
def yX9_isFewer : MethodName := ⟨RX9, "isFewer", "(II)Z"⟩
abbrev cX9_countOrBits : ByteArray := prog_1_method_56_code
def yX9_countOrBits : MethodName := ⟨RX9, "countOrBits", "(II)I"⟩
abbrev cX9_commonDivisor : ByteArray := prog_1_method_57_code
def yX9_commonDivisor : MethodName := ⟨RX9, "commonDivisor", "(II)I"⟩
def RX10 : String := "SoapWorksModel"
def TX10 : u_T := fun k => match k with
  | 0 => ("SoapWorksModel", "tape", "[I", true)
  | 1 => ("SoapWorksModel", "taped", "I", false)
  | 2 => ("SoapWorksModel", "fault", "I", false)
  | 3 => ("SoapWorksModel", "faultPlace", "I", false)
  | 4 => ("SoapWorksModel", "at", "I", false)
  | 5 => ("SoapWorksModel", "size", "I", false)
  | 6 => ("SoapWorksModel", "sort", "I", false)
  | 7 => ("SoapWorksModel", "place", "I", false)
  | 8 => ("SoapWorksModel", "number", "I", false)
  | 9 => ("SoapWorksModel", "word", "J", false)
  | 10 => ("SoapWorksModel", "nName", "[J", true)
  | 11 => ("SoapWorksModel", "nStep", "[I", true)
  | 12 => ("SoapWorksModel", "nArg", "[I", true)
  | 13 => ("SoapWorksModel", "step", "[I", true)
  | 14 => ("SoapWorksModel", "arg", "[I", true)
  | 15 => ("SoapWorksModel", "open", "[I", true)
  | 16 => ("SoapWorksModel", "values", "[I", true)
  | 17 => ("SoapWorksModel", "nMany", "I", false)
  | 18 => ("SoapWorksModel", "formSteps", "I", false)
  | 19 => ("SoapWorksModel", "opens", "I", false)
  | 20 => ("SoapWorksModel", "nUnits", "I", false)
  | 21 => ("SoapWorksModel", "units", "I", false)
  | 22 => ("SoapWorksModel", "ownUnits", "I", false)
  | 23 => ("SoapWorksModel", "deep", "I", false)
  | 24 => ("SoapWorksModel", "nHasForm", "Z", false)
  | 25 => ("SoapWorksModel", "hasForm", "Z", false)
  | 26 => ("SoapWorksModel", "asks", "[I", true)
  | 27 => ("SoapWorksModel", "nMind", "[I", true)
  | 28 => ("SoapWorksModel", "nWish", "[I", true)
  | 29 => ("SoapWorksModel", "nRule", "[I", true)
  | 30 => ("SoapWorksModel", "mind", "[I", true)
  | 31 => ("SoapWorksModel", "wish", "[I", true)
  | 32 => ("SoapWorksModel", "rules", "[I", true)
  | 33 => ("SoapWorksModel", "nKinds", "I", false)
  | 34 => ("SoapWorksModel", "nPeople", "I", false)
  | 35 => ("SoapWorksModel", "nBasins", "I", false)
  | 36 => ("SoapWorksModel", "nRules", "I", false)
  | 37 => ("SoapWorksModel", "nLastKind", "I", false)
  | 38 => ("SoapWorksModel", "nScum", "I", false)
  | 39 => ("SoapWorksModel", "nDraw", "I", false)
  | 40 => ("SoapWorksModel", "kinds", "I", false)
  | 41 => ("SoapWorksModel", "people", "I", false)
  | 42 => ("SoapWorksModel", "basins", "I", false)
  | 43 => ("SoapWorksModel", "ruleMany", "I", false)
  | 44 => ("SoapWorksModel", "lastKind", "I", false)
  | 45 => ("SoapWorksModel", "scum", "I", false)
  | 46 => ("SoapWorksModel", "nHasScum", "Z", false)
  | 47 => ("SoapWorksModel", "nHasDraw", "Z", false)
  | 48 => ("SoapWorksModel", "someKind", "I", false)
  | 49 => ("SoapWorksModel", "now", "[I", true)
  | 50 => ("SoapWorksModel", "air", "[I", true)
  | 51 => ("SoapWorksModel", "were", "[I", true)
  | 52 => ("SoapWorksModel", "acts", "I", false)
  | 53 => ("SoapWorksModel", "undone", "I", false)
  | 54 => ("SoapWorksModel", "before", "[I", true)
  | 55 => ("SoapWorksModel", "lies", "[I", true)
  | 56 => ("SoapWorksModel", "row", "[I", true)
  | 57 => ("SoapWorksModel", "lain", "I", false)
  | 58 => ("SoapWorksModel", "ones", "[I", true)
  | 59 => ("SoapWorksModel", "others", "[I", true)
  | 60 => ("SoapWorksModel", "sightAt", "[I", true)
  | 61 => ("SoapWorksModel", "sightKind", "[I", true)
  | 62 => ("SoapWorksModel", "sightMuch", "[I", true)
  | 63 => ("SoapWorksModel", "sightTold", "[I", true)
  | 64 => ("SoapWorksModel", "sightUntold", "[I", true)
  | 65 => ("SoapWorksModel", "sightIs", "[Z", true)
  | 66 => ("SoapWorksModel", "sights", "I", false)
  | 67 => ("SoapWorksModel", "time", "I", false)
  | 68 => ("SoapWorksModel", "was", "[I", true)
  | 69 => ("SoapWorksModel", "tally", "[I", true)
  | 70 => ("SoapWorksModel", "isFit", "[Z", true)
  | 71 => ("SoapWorksModel", "hasBox", "[Z", true)
  | _ => ("SoapWorksModel", "boxes", "[I", true)
def tyX10 : Nat → FieldType := fun k => match k with
  | 0 => .array .int
  | 1 => .int
  | 2 => .int
  | 3 => .int
  | 4 => .int
  | 5 => .int
  | 6 => .int
  | 7 => .int
  | 8 => .int
  | 9 => .long
  | 10 => .array .long
  | 11 => .array .int
  | 12 => .array .int
  | 13 => .array .int
  | 14 => .array .int
  | 15 => .array .int
  | 16 => .array .int
  | 17 => .int
  | 18 => .int
  | 19 => .int
  | 20 => .int
  | 21 => .int
  | 22 => .int
  | 23 => .int
  | 24 => .boolean
  | 25 => .boolean
  | 26 => .array .int
  | 27 => .array .int
  | 28 => .array .int
  | 29 => .array .int
  | 30 => .array .int
  | 31 => .array .int
  | 32 => .array .int
  | 33 => .int
  | 34 => .int
  | 35 => .int
  | 36 => .int
  | 37 => .int
  | 38 => .int
  | 39 => .int
  | 40 => .int
  | 41 => .int
  | 42 => .int
  | 43 => .int
  | 44 => .int
  | 45 => .int
  | 46 => .boolean
  | 47 => .boolean
  | 48 => .int
  | 49 => .array .int
  | 50 => .array .int
  | 51 => .array .int
  | 52 => .int
  | 53 => .int
  | 54 => .array .int
  | 55 => .array .int
  | 56 => .array .int
  | 57 => .int
  | 58 => .array .int
  | 59 => .array .int
  | 60 => .array .int
  | 61 => .array .int
  | 62 => .array .int
  | 63 => .array .int
  | 64 => .array .int
  | 65 => .array .boolean
  | 66 => .int
  | 67 => .int
  | 68 => .array .int
  | 69 => .array .int
  | 70 => .array .boolean
  | 71 => .array .boolean
  | _ => .array .int
abbrev wsX100 : List Cond := u_ws RX10 TX10 73
theorem nmX10 : ∀ a, a < 73 → ∀ b, b < 73 → a ≠ b → (TX10 a).2.1 ≠ (TX10 b).2.1 := by decide +kernel
theorem tyX10_ok : ∀ k, k < 73 → parseFieldDescriptor (TX10 k).2.2.1 = some (tyX10 k) := by decide +kernel
abbrev cX10_init : ByteArray := prog_12_method_1_code
def yX10_init : MethodName := ⟨RX10, "<init>", "()V"⟩
abbrev cX10_feed : ByteArray := prog_12_method_2_code
def yX10_feed : MethodName := ⟨RX10, "feed", "(IIIII)I"⟩
abbrev cX10_four : ByteArray := prog_12_method_3_code
def yX10_four : MethodName := ⟨RX10, "four", "(I)V"⟩
abbrev cX10_end : ByteArray := prog_12_method_4_code
def yX10_end : MethodName := ⟨RX10, "end", "(I)I"⟩
abbrev cX10_here : ByteArray := prog_12_method_5_code
def yX10_here : MethodName := ⟨RX10, "here", "(I)I"⟩
abbrev cX10_isLetter : ByteArray := prog_12_method_6_code
def yX10_isLetter : MethodName := ⟨RX10, "isLetter", "(I)Z"⟩
abbrev cX10_isDigit : ByteArray := prog_12_method_7_code
def yX10_isDigit : MethodName := ⟨RX10, "isDigit", "(I)Z"⟩
abbrev cX10_isSign : ByteArray := prog_12_method_8_code
def yX10_isSign : MethodName := ⟨RX10, "isSign", "(I)Z"⟩
abbrev cX10_token : ByteArray := prog_12_method_9_code
def yX10_token : MethodName := ⟨RX10, "token", "()V"⟩
abbrev cX10_wrong : ByteArray := prog_12_method_10_code
def yX10_wrong : MethodName := ⟨RX10, "wrong", "(I)V"⟩
abbrev cX10_isWord : ByteArray := prog_12_method_11_code
def yX10_isWord : MethodName := ⟨RX10, "isWord", "(J)Z"⟩
abbrev cX10_isOwn : ByteArray := prog_12_method_12_code
def yX10_isOwn : MethodName := ⟨RX10, "isOwn", "()Z"⟩
abbrev cX10_isName : ByteArray := prog_12_method_13_code
def yX10_isName : MethodName := ⟨RX10, "isName", "()Z"⟩
abbrev cX10_want : ByteArray := prog_12_method_14_code
def yX10_want : MethodName := ⟨RX10, "want", "(J)V"⟩
abbrev cX10_toldNumber : ByteArray := prog_12_method_15_code
def yX10_toldNumber : MethodName := ⟨RX10, "toldNumber", "(II)I"⟩
abbrev cX10_told : ByteArray := prog_12_method_16_code
def yX10_told : MethodName := ⟨RX10, "told", "(JII)I"⟩
abbrev cX10_find : ByteArray := prog_12_method_17_code
def yX10_find : MethodName := ⟨RX10, "find", "(II)I"⟩
abbrev cX10_newName : ByteArray := prog_12_method_18_code
def yX10_newName : MethodName := ⟨RX10, "newName", "(II)V"⟩
abbrev cX10_oldKind : ByteArray := prog_12_method_19_code
def yX10_oldKind : MethodName := ⟨RX10, "oldKind", "()I"⟩
abbrev cX10_add : ByteArray := prog_12_method_20_code
def yX10_add : MethodName := ⟨RX10, "add", "(II)V"⟩
abbrev cX10_tight : ByteArray := prog_12_method_21_code
def yX10_tight : MethodName := ⟨RX10, "tight", "(I)I"⟩
abbrev cX10_close : ByteArray := prog_12_method_22_code
def yX10_close : MethodName := ⟨RX10, "close", "(I)V"⟩
abbrev cX10_hasRelation : ByteArray := prog_12_method_23_code
def yX10_hasRelation : MethodName := ⟨RX10, "hasRelation", "()Z"⟩
abbrev cX10_mayNot : ByteArray := prog_12_method_24_code
def yX10_mayNot : MethodName := ⟨RX10, "mayNot", "()Z"⟩
abbrev cX10_asked : ByteArray := prog_12_method_25_code
def yX10_asked : MethodName := ⟨RX10, "asked", "()I"⟩
abbrev cX10_isFull : ByteArray := prog_12_method_26_code
def yX10_isFull : MethodName := ⟨RX10, "isFull", "()Z"⟩
abbrev cX10_countUnit : ByteArray := prog_12_method_27_code
def yX10_countUnit : MethodName := ⟨RX10, "countUnit", "()V"⟩
abbrev cX10_openUp : ByteArray := prog_12_method_28_code
def yX10_openUp : MethodName := ⟨RX10, "openUp", "(I)V"⟩
abbrev cX10_unit : ByteArray := prog_12_method_29_code
def yX10_unit : MethodName := ⟨RX10, "unit", "()V"⟩
abbrev cX10_sign : ByteArray := prog_12_method_30_code
def yX10_sign : MethodName := ⟨RX10, "sign", "()I"⟩
abbrev cX10_hasBracket : ByteArray := prog_12_method_31_code
def yX10_hasBracket : MethodName := ⟨RX10, "hasBracket", "()Z"⟩
abbrev cX10_formula : ByteArray := prog_12_method_32_code
def yX10_formula : MethodName := ⟨RX10, "formula", "()V"⟩
abbrev cX10_truth : ByteArray := prog_12_method_33_code
def yX10_truth : MethodName := ⟨RX10, "truth", "(Z)I"⟩
abbrev cX10_done : ByteArray := prog_12_method_34_code
def yX10_done : MethodName := ⟨RX10, "done", "(III)I"⟩
abbrev cX10_lesser : ByteArray := prog_12_method_35_code
def yX10_lesser : MethodName := ⟨RX10, "lesser", "(II)I"⟩
abbrev cX10_greater : ByteArray := prog_12_method_36_code
def yX10_greater : MethodName := ⟨RX10, "greater", "(II)I"⟩
abbrev cX10_members : ByteArray := prog_12_method_37_code
def yX10_members : MethodName := ⟨RX10, "members", "(I)I"⟩
abbrev cX10_allOf : ByteArray := prog_12_method_38_code
def yX10_allOf : MethodName := ⟨RX10, "allOf", "()I"⟩
abbrev cX10_isRisen : ByteArray := prog_12_method_39_code
def yX10_isRisen : MethodName := ⟨RX10, "isRisen", "()Z"⟩
abbrev cX10_readKind : ByteArray := prog_12_method_40_code
def yX10_readKind : MethodName := ⟨RX10, "readKind", "()V"⟩
abbrev cX10_readSome : ByteArray := prog_12_method_41_code
def yX10_readSome : MethodName := ⟨RX10, "readSome", "([II)V"⟩
abbrev cX10_readAllOf : ByteArray := prog_12_method_42_code
def yX10_readAllOf : MethodName := ⟨RX10, "readAllOf", "([II)V"⟩
abbrev cX10_readPerson : ByteArray := prog_12_method_43_code
def yX10_readPerson : MethodName := ⟨RX10, "readPerson", "()V"⟩
abbrev cX10_readBasin : ByteArray := prog_12_method_44_code
def yX10_readBasin : MethodName := ⟨RX10, "readBasin", "()V"⟩
abbrev cX10_readRule : ByteArray := prog_12_method_45_code
def yX10_readRule : MethodName := ⟨RX10, "readRule", "()V"⟩
abbrev cX10_readLine : ByteArray := prog_12_method_46_code
def yX10_readLine : MethodName := ⟨RX10, "readLine", "()V"⟩
abbrev cX10_readAll : ByteArray := prog_12_method_47_code
def yX10_readAll : MethodName := ⟨RX10, "readAll", "()V"⟩
abbrev cX10_works : ByteArray := prog_12_method_48_code
def yX10_works : MethodName := ⟨RX10, "works", "()I"⟩
abbrev cX10_fault : ByteArray := prog_12_method_49_code
def yX10_fault : MethodName := ⟨RX10, "fault", "(I)I"⟩
abbrev cX10_isIn : ByteArray := prog_12_method_50_code
def yX10_isIn : MethodName := ⟨RX10, "isIn", "(III)Z"⟩
abbrev cX10_isKind : ByteArray := prog_12_method_51_code
def yX10_isKind : MethodName := ⟨RX10, "isKind", "(I)Z"⟩
abbrev cX10_isPerson : ByteArray := prog_12_method_52_code
def yX10_isPerson : MethodName := ⟨RX10, "isPerson", "(I)Z"⟩
abbrev cX10_isBasin : ByteArray := prog_12_method_53_code
def yX10_isBasin : MethodName := ⟨RX10, "isBasin", "(I)Z"⟩
abbrev cX10_isRule : ByteArray := prog_12_method_54_code
def yX10_isRule : MethodName := ⟨RX10, "isRule", "(I)Z"⟩
abbrev cX10_fill : ByteArray := prog_12_method_55_code
def yX10_fill : MethodName := ⟨RX10, "fill", "()V"⟩
abbrev cX10_keepAir : ByteArray := prog_12_method_56_code
def yX10_keepAir : MethodName := ⟨RX10, "keepAir", "()V"⟩
abbrev cX10_hasTold : ByteArray := prog_12_method_57_code
def yX10_hasTold : MethodName := ⟨RX10, "hasTold", "(I)Z"⟩
abbrev cX10_isEased : ByteArray := prog_12_method_58_code
def yX10_isEased : MethodName := ⟨RX10, "isEased", "(I)Z"⟩
abbrev cX10_tells : ByteArray := prog_12_method_59_code
def yX10_tells : MethodName := ⟨RX10, "tells", "(I)V"⟩
abbrev cX10_tellAll : ByteArray := prog_12_method_60_code
def yX10_tellAll : MethodName := ⟨RX10, "tellAll", "(I)V"⟩
abbrev cX10_makes : ByteArray := prog_12_method_61_code
def yX10_makes : MethodName := ⟨RX10, "makes", "(II)I"⟩
abbrev cX10_boilBy : ByteArray := prog_12_method_62_code
def yX10_boilBy : MethodName := ⟨RX10, "boilBy", "(II)V"⟩
abbrev cX10_boilAll : ByteArray := prog_12_method_63_code
def yX10_boilAll : MethodName := ⟨RX10, "boilAll", "()V"⟩
abbrev cX10_skims : ByteArray := prog_12_method_64_code
def yX10_skims : MethodName := ⟨RX10, "skims", "()V"⟩
abbrev cX10_goBoiling : ByteArray := prog_12_method_65_code
def yX10_goBoiling : MethodName := ⟨RX10, "goBoiling", "(Z)Z"⟩
abbrev cX10_vat : ByteArray := prog_12_method_66_code
def yX10_vat : MethodName := ⟨RX10, "vat", "(I)I"⟩
abbrev cX10_mind : ByteArray := prog_12_method_67_code
def yX10_mind : MethodName := ⟨RX10, "mind", "(II)I"⟩
abbrev cX10_wants : ByteArray := prog_12_method_68_code
def yX10_wants : MethodName := ⟨RX10, "wants", "(II)I"⟩
abbrev cX10_rule : ByteArray := prog_12_method_69_code
def yX10_rule : MethodName := ⟨RX10, "rule", "(II)I"⟩
abbrev cX10_act : ByteArray := prog_12_method_70_code
def yX10_act : MethodName := ⟨RX10, "act", "()V"⟩
abbrev cX10_exchange : ByteArray := prog_12_method_71_code
def yX10_exchange : MethodName := ⟨RX10, "exchange", "(I)V"⟩
abbrev cX10_confess : ByteArray := prog_12_method_72_code
def yX10_confess : MethodName := ⟨RX10, "confess", "(I)I"⟩
abbrev cX10_boil : ByteArray := prog_12_method_73_code
def yX10_boil : MethodName := ⟨RX10, "boil", "()I"⟩
abbrev cX10_holds : ByteArray := prog_12_method_74_code
def yX10_holds : MethodName := ⟨RX10, "holds", "(I)Z"⟩
abbrev cX10_wash : ByteArray := prog_12_method_75_code
def yX10_wash : MethodName := ⟨RX10, "wash", "(I)I"⟩
abbrev cX10_sweep : ByteArray := prog_12_method_76_code
def yX10_sweep : MethodName := ⟨RX10, "sweep", "(I)I"⟩
abbrev cX10_undo : ByteArray := prog_12_method_77_code
def yX10_undo : MethodName := ⟨RX10, "undo", "()Z"⟩
abbrev cX10_redo : ByteArray := prog_12_method_78_code
def yX10_redo : MethodName := ⟨RX10, "redo", "()Z"⟩
abbrev cX10_will : ByteArray := prog_12_method_79_code
def yX10_will : MethodName := ⟨RX10, "will", "(III)I"⟩
abbrev cX10_risesIn : ByteArray := prog_12_method_80_code
def yX10_risesIn : MethodName := ⟨RX10, "risesIn", "(I)I"⟩
abbrev cX10_rise : ByteArray := prog_12_method_81_code
def yX10_rise : MethodName := ⟨RX10, "rise", "()I"⟩
abbrev cX10_rouser : ByteArray := prog_12_method_82_code
def yX10_rouser : MethodName := ⟨RX10, "rouser", "(I)I"⟩
abbrev cX10_silent : ByteArray := prog_12_method_83_code
def yX10_silent : MethodName := ⟨RX10, "silent", "()I"⟩
abbrev cX10_choir : ByteArray := prog_12_method_84_code
def yX10_choir : MethodName := ⟨RX10, "choir", "(II)I"⟩
abbrev cX10_risesWith : ByteArray := prog_12_method_85_code
def yX10_risesWith : MethodName := ⟨RX10, "risesWith", "(I)Z"⟩
abbrev cX10_power : ByteArray := prog_12_method_86_code
def yX10_power : MethodName := ⟨RX10, "power", "(I)I"⟩
abbrev cX10_serve : ByteArray := prog_12_method_87_code
def yX10_serve : MethodName := ⟨RX10, "serve", "(I)I"⟩
abbrev cX10_balm : ByteArray := prog_12_method_88_code
def yX10_balm : MethodName := ⟨RX10, "balm", "(II)I"⟩
abbrev cX10_cook : ByteArray := prog_12_method_89_code
def yX10_cook : MethodName := ⟨RX10, "cook", "(I)I"⟩
abbrev cX10_lackOf : ByteArray := prog_12_method_90_code
def yX10_lackOf : MethodName := ⟨RX10, "lackOf", "(I)I"⟩
abbrev cX10_lacks : ByteArray := prog_12_method_91_code
def yX10_lacks : MethodName := ⟨RX10, "lacks", "(I)I"⟩
abbrev cX10_rest : ByteArray := prog_12_method_92_code
def yX10_rest : MethodName := ⟨RX10, "rest", "()I"⟩
abbrev cX10_nextRow : ByteArray := prog_12_method_93_code
def yX10_nextRow : MethodName := ⟨RX10, "nextRow", "()Z"⟩
abbrev cX10_swap : ByteArray := prog_12_method_94_code
def yX10_swap : MethodName := ⟨RX10, "swap", "(II)V"⟩
abbrev cX10_order : ByteArray := prog_12_method_95_code
def yX10_order : MethodName := ⟨RX10, "order", "(I)I"⟩
abbrev cX10_comesOf : ByteArray := prog_12_method_96_code
def yX10_comesOf : MethodName := ⟨RX10, "comesOf", "(I)I"⟩
abbrev cX10_comes : ByteArray := prog_12_method_97_code
def yX10_comes : MethodName := ⟨RX10, "comes", "(I)I"⟩
abbrev cX10_steps : ByteArray := prog_12_method_98_code
def yX10_steps : MethodName := ⟨RX10, "steps", "(II)I"⟩
abbrev cX10_mindOf : ByteArray := prog_12_method_99_code
def yX10_mindOf : MethodName := ⟨RX10, "mindOf", "(I)I"⟩
abbrev cX10_duel : ByteArray := prog_12_method_100_code
def yX10_duel : MethodName := ⟨RX10, "duel", "(II)I"⟩
abbrev cX10_nearest : ByteArray := prog_12_method_101_code
def yX10_nearest : MethodName := ⟨RX10, "nearest", "()I"⟩
abbrev cX10_wanted : ByteArray := prog_12_method_102_code
def yX10_wanted : MethodName := ⟨RX10, "wanted", "(I)I"⟩
abbrev cX10_sinners : ByteArray := prog_12_method_103_code
def yX10_sinners : MethodName := ⟨RX10, "sinners", "(I)I"⟩
abbrev cX10_inert : ByteArray := prog_12_method_104_code
def yX10_inert : MethodName := ⟨RX10, "inert", "()I"⟩
abbrev cX10_alive : ByteArray := prog_12_method_105_code
def yX10_alive : MethodName := ⟨RX10, "alive", "()I"⟩
abbrev cX10_thickest : ByteArray := prog_12_method_106_code
def yX10_thickest : MethodName := ⟨RX10, "thickest", "()I"⟩
abbrev cX10_thinnest : ByteArray := prog_12_method_107_code
def yX10_thinnest : MethodName := ⟨RX10, "thinnest", "()I"⟩
abbrev cX10_makers : ByteArray := prog_12_method_108_code
def yX10_makers : MethodName := ⟨RX10, "makers", "(I)I"⟩
abbrev cX10_heaviest : ByteArray := prog_12_method_109_code
def yX10_heaviest : MethodName := ⟨RX10, "heaviest", "()I"⟩
abbrev cX10_law : ByteArray := prog_12_method_110_code
def yX10_law : MethodName := ⟨RX10, "law", "(I)I"⟩
abbrev cX10_mission : ByteArray := prog_12_method_111_code
def yX10_mission : MethodName := ⟨RX10, "mission", "()I"⟩
abbrev cX10_raised : ByteArray := prog_12_method_112_code
def yX10_raised : MethodName := ⟨RX10, "raised", "(II)I"⟩
abbrev cX10_divisor : ByteArray := prog_12_method_113_code
def yX10_divisor : MethodName := ⟨RX10, "divisor", "(II)I"⟩
abbrev cX10_odds : ByteArray := prog_12_method_114_code
def yX10_odds : MethodName := ⟨RX10, "odds", "(II)I"⟩
abbrev cX10_lies : ByteArray := prog_12_method_115_code
def yX10_lies : MethodName := ⟨RX10, "lies", "(I)I"⟩
abbrev cX10_seen : ByteArray := prog_12_method_116_code
def yX10_seen : MethodName := ⟨RX10, "seen", "(IIIZ)I"⟩
abbrev cX10_untell : ByteArray := prog_12_method_117_code
def yX10_untell : MethodName := ⟨RX10, "untell", "(I)Z"⟩
abbrev cX10_later : ByteArray := prog_12_method_118_code
def yX10_later : MethodName := ⟨RX10, "later", "(I)I"⟩
abbrev cX10_fitsMuch : ByteArray := prog_12_method_119_code
def yX10_fitsMuch : MethodName := ⟨RX10, "fitsMuch", "(II)Z"⟩
abbrev cX10_layFits : ByteArray := prog_12_method_120_code
def yX10_layFits : MethodName := ⟨RX10, "layFits", "(I)I"⟩
abbrev cX10_fits : ByteArray := prog_12_method_121_code
def yX10_fits : MethodName := ⟨RX10, "fits", "(I)I"⟩
abbrev cX10_sure : ByteArray := prog_12_method_122_code
def yX10_sure : MethodName := ⟨RX10, "sure", "(II)I"⟩
abbrev cX10_leftBy : ByteArray := prog_12_method_123_code
def yX10_leftBy : MethodName := ⟨RX10, "leftBy", "(II)I"⟩
abbrev cX10_ask : ByteArray := prog_12_method_124_code
def yX10_ask : MethodName := ⟨RX10, "ask", "(III)I"⟩
abbrev cX10_isBox : ByteArray := prog_12_method_125_code
def yX10_isBox : MethodName := ⟨RX10, "isBox", "(I)Z"⟩
abbrev cX10_image : ByteArray := prog_12_method_126_code
def yX10_image : MethodName := ⟨RX10, "image", "(I)I"⟩
abbrev cX10_back : ByteArray := prog_12_method_127_code
def yX10_back : MethodName := ⟨RX10, "back", "(I)I"⟩
abbrev cX10_about : ByteArray := prog_12_method_128_code
def yX10_about : MethodName := ⟨RX10, "about", "(I)I"⟩
def RJx145de : String := "java/io/Serializable"
def RJx9f9b0 : String := "java/lang/CharSequence"
def RJ11 : String := "java/lang/Character"
abbrev cJ11_isValidCodePoint_9a6ad : ByteArray := prog_13_method_11_code
def yJ11_isValidCodePoint_9a6ad : MethodName := ⟨RJ11, "isValidCodePoint", "(I)Z"⟩
abbrev cJ11_highSurrogate_5068e : ByteArray := prog_13_method_28_code
def yJ11_highSurrogate_5068e : MethodName := ⟨RJ11, "highSurrogate", "(I)C"⟩
abbrev cJ11_lowSurrogate_5068e : ByteArray := prog_13_method_29_code
def yJ11_lowSurrogate_5068e : MethodName := ⟨RJ11, "lowSurrogate", "(I)C"⟩
def RJxb160c : String := "java/lang/Comparable"
def RJ6 : String := "java/lang/Integer"
abbrev cJ6_numberOfLeadingZeros_0f7a4 : ByteArray := prog_14_method_47_code
def yJ6_numberOfLeadingZeros_0f7a4 : MethodName := ⟨RJ6, "numberOfLeadingZeros", "(I)I"⟩
abbrev cJ6_numberOfTrailingZeros_0f7a4 : ByteArray := prog_14_method_48_code
def yJ6_numberOfTrailingZeros_0f7a4 : MethodName := ⟨RJ6, "numberOfTrailingZeros", "(I)I"⟩
abbrev cJ6_bitCount_0f7a4 : ByteArray := prog_14_method_49_code
def yJ6_bitCount_0f7a4 : MethodName := ⟨RJ6, "bitCount", "(I)I"⟩
def RJ9 : String := "java/lang/Math"
abbrev cJ9_max_7cf53 : ByteArray := prog_15_method_65_code
def yJ9_max_7cf53 : MethodName := ⟨RJ9, "max", "(II)I"⟩
abbrev cJ9_min_7cf53 : ByteArray := prog_15_method_69_code
def yJ9_min_7cf53 : MethodName := ⟨RJ9, "min", "(II)I"⟩
def RJ0 : String := "java/lang/String"
abbrev cJ0_length_8abf5 : ByteArray := prog_16_method_54_code
def yJ0_length_8abf5 : MethodName := ⟨RJ0, "length", "()I"⟩
abbrev cJ0_charAt_5068e : ByteArray := prog_16_method_56_code
def yJ0_charAt_5068e : MethodName := ⟨RJ0, "charAt", "(I)C"⟩
abbrev cJ0_indexOf_0f7a4 : ByteArray := prog_16_method_79_code
def yJ0_indexOf_0f7a4 : MethodName := ⟨RJ0, "indexOf", "(I)I"⟩
abbrev cJ0_indexOf_7cf53 : ByteArray := prog_16_method_80_code
def yJ0_indexOf_7cf53 : MethodName := ⟨RJ0, "indexOf", "(II)I"⟩
abbrev cJ0_coder_7d493 : ByteArray := prog_16_method_152_code
def yJ0_coder_7d493 : MethodName := ⟨RJ0, "coder", "()B"⟩
abbrev cJ0_isLatin1_aae02 : ByteArray := prog_16_method_154_code
def yJ0_isLatin1_aae02 : MethodName := ⟨RJ0, "isLatin1", "()Z"⟩
abbrev cJ0_checkIndex_df160 : ByteArray := prog_16_method_155_code
def yJ0_checkIndex_df160 : MethodName := ⟨RJ0, "checkIndex", "(II)V"⟩
abbrev cJ0_checkBoundsBeginEnd_23922 : ByteArray := prog_16_method_158_code
def yJ0_checkBoundsBeginEnd_23922 : MethodName := ⟨RJ0, "checkBoundsBeginEnd", "(III)V"⟩
def RJ1 : String := "java/lang/StringLatin1"
abbrev cJ1_charAt_3b067 : ByteArray := prog_17_method_2_code
def yJ1_charAt_3b067 : MethodName := ⟨RJ1, "charAt", "([BI)C"⟩
abbrev cJ1_canEncode_9a6ad : ByteArray := prog_17_method_4_code
def yJ1_canEncode_9a6ad : MethodName := ⟨RJ1, "canEncode", "(I)Z"⟩
abbrev cJ1_indexOf_4cfef : ByteArray := prog_17_method_22_code
def yJ1_indexOf_4cfef : MethodName := ⟨RJ1, "indexOf", "([BIII)I"⟩
abbrev cJ1_indexOfChar_4cfef : ByteArray := prog_17_method_23_code
def yJ1_indexOfChar_4cfef : MethodName := ⟨RJ1, "indexOfChar", "([BIII)I"⟩
def RJ2 : String := "java/lang/StringUTF16"
abbrev cJ2_getChar_3b067 : ByteArray := prog_18_method_5_code
def yJ2_getChar_3b067 : MethodName := ⟨RJ2, "getChar", "([BI)C"⟩
abbrev cJ2_length_9d52b : ByteArray := prog_18_method_6_code
def yJ2_length_9d52b : MethodName := ⟨RJ2, "length", "([B)I"⟩
abbrev cJ2_indexOf_4cfef : ByteArray := prog_18_method_40_code
def yJ2_indexOf_4cfef : MethodName := ⟨RJ2, "indexOf", "([BIII)I"⟩
abbrev cJ2_indexOfChar_4cfef : ByteArray := prog_18_method_47_code
def yJ2_indexOfChar_4cfef : MethodName := ⟨RJ2, "indexOfChar", "([BIII)I"⟩
abbrev cJ2_indexOfCharUnsafe_4cfef : ByteArray := prog_18_method_48_code
def yJ2_indexOfCharUnsafe_4cfef : MethodName := ⟨RJ2, "indexOfCharUnsafe", "([BIII)I"⟩
abbrev cJ2_indexOfSupplementary_4cfef : ByteArray := prog_18_method_49_code
def yJ2_indexOfSupplementary_4cfef : MethodName := ⟨RJ2, "indexOfSupplementary", "([BIII)I"⟩
abbrev cJ2_charAt_3b067 : ByteArray := prog_18_method_83_code
def yJ2_charAt_3b067 : MethodName := ⟨RJ2, "charAt", "([BI)C"⟩
abbrev cJ2_checkIndex_2214a : ByteArray := prog_18_method_91_code
def yJ2_checkIndex_2214a : MethodName := ⟨RJ2, "checkIndex", "(I[B)V"⟩
abbrev cJ2_checkBoundsBeginEnd_d044e : ByteArray := prog_18_method_93_code
def yJ2_checkBoundsBeginEnd_d044e : MethodName := ⟨RJ2, "checkBoundsBeginEnd", "(II[B)V"⟩
def RJ10 : String := "java/lang/System"
def RJxfd54e : String := "java/lang/constant/Constable"
def RJx3cf43 : String := "java/lang/constant/ConstantDesc"
def RJ7 : String := "java/util/Arrays"
abbrev cJ7_fill_53178 : ByteArray := prog_20_method_103_code
def yJ7_fill_53178 : MethodName := ⟨RJ7, "fill", "([II)V"⟩
def RJ3 : String := "jdk/internal/util/Preconditions"
abbrev cJ3_checkIndex_8e157 : ByteArray := prog_21_method_11_code
def yJ3_checkIndex_8e157 : MethodName := ⟨RJ3, "checkIndex", "(IILjava/util/function/BiFunction;)I"⟩
abbrev cJ3_checkFromToIndex_8c36e : ByteArray := prog_21_method_12_code
def yJ3_checkFromToIndex_8c36e : MethodName := ⟨RJ3, "checkFromToIndex", "(IIILjava/util/function/BiFunction;)I"⟩
def RL : String := "SoapWorksLaw"
abbrev cL_law : ByteArray := code
def yL_law : MethodName := ⟨RL, "law", "([I)Z"⟩
end
section
/-! the cells of both systems, once they are made: 84 of them, in a fixed order; a memory gives what they hold -/
abbrev sw_cl : List vw_C := [(RX0, TX0, 3), (RX1, TX1, 2), (RX2, TX2, 6), (RX3, TX3, 3), (RX4, TX4, 16), (RX5, TX5, 5), (RX6, TX6, 10), (RX7, TX7, 10), (RX8, TX8, 6), (RX9, TX9, 10), (RX10, TX10, 73)]
abbrev sw_M : Type := (Nat → Nat → Int32) × (Nat → Nat → Int64) × (Nat → Nat)
abbrev sw_E : Type := (Nat → Nat) × (Nat → ClassId) × (Nat → ClassId) × (Nat → Nat → Nat) × ((Nat → Prop) → State → Heap → Prop)
def sw_sh : List (Nat × Nat) := [(0, 9), (0, 5), (0, 7), (2, 1600), (4, 19), (0, 4), (4, 5), (4, 7), (4, 4), (1, 35), (1, 20), (1, 24), (0, 2), (1, 270), (1, 31), (1, 6), (0, 4), (4, 5), (4, 7), (4, 4), (1, 35), (1, 20), (1, 24), (0, 2), (1, 270), (1, 31), (1, 6), (0, 8), (1, 5), (0, 0), (1, 410), (0, 1), (3, 3), (1, 30), (0, 3), (0, 8), (1, 5), (1, 5), (1, 6), (0, 6), (1, 30), (1, 30), (1, 30), (3, 30), (1, 30), (1, 30), (1, 5), (1, 2015), (1, 6), (0, 10), (1, 1600), (4, 16), (1, 320), (1, 320), (1, 320), (1, 320), (1, 160), (1, 64), (1, 6), (1, 35), (1, 20), (1, 24), (1, 35), (1, 20), (1, 24), (1, 10), (1, 10), (1, 400), (1, 5), (1, 6), (1, 6), (1, 4), (1, 4), (1, 30), (1, 30), (1, 30), (1, 30), (1, 30), (3, 30), (1, 2015), (1, 1000), (3, 31), (3, 3), (1, 30)]
def sw_s (i : Nat) : Nat × Nat := sw_sh.getD i (1, 0)
def sw_fk : List (List Nat) := [[3, 0, 0], [3, 4], [0, 0, 0, 3, 4, 5], [3, 5, 6], [0, 0, 0, 0, 0, 0, 0, 0, 0, 3, 4, 5, 6, 7, 8, 9], [3, 903, 0, 0, 0], [0, 3, 4, 5, 6, 7, 8, 9, 10, 0], [3, 0, 4, 0, 0, 0, 1, 0, 0, 0], [3, 0, 0, 0, 0, 0], [3, 902, 29, 31, 33, 36, 41, 50, 0, 0], [3, 0, 0, 0, 0, 0, 0, 0, 0, 1, 4, 5, 6, 7, 8, 9, 10, 0, 0, 0, 0, 0, 0, 0, 0, 0, 11, 12, 13, 14, 15, 16, 17, 0, 0, 0, 0, 0, 0, 0, 0, 0, 0, 0, 0, 0, 0, 0, 0, 18, 19, 20, 0, 0, 21, 22, 23, 0, 24, 25, 26, 27, 28, 29, 30, 31, 0, 0, 32, 33, 34, 35, 36]]
def sw_pl (n : Nat) : Nat := if n = 5 then 5 else 16
def sw_fv (σ : sw_M) (i k code : Nat) : Value := match code with
  | 0 => .int (σ.1 i k)
  | 1 => .long (σ.2.1 i k)
  | c + 2 => if c < 900 then .ref (i + c) else .ref (sw_pl (σ.2.2 (c - 900)))
def sw_fs (σ : sw_M) (i ci : Nat) : List Value := (sw_fk.getD ci []).zipIdx.map (fun q => sw_fv σ i q.2 q.1)
def sw_g (E : sw_E) : Value → Value
  | .ref i => .ref (E.1 i)
  | v => v
def sw_g2 (E : sw_E) (q : Nat × Value) : Nat × Value := (q.1, sw_g E q.2)
def sw_ce (E : sw_E) (σ : sw_M) (i : Nat) : va_E :=
  if (sw_s i).1 = 0 then .inr ((sw_s i).2, (sw_fs σ i (sw_s i).2).map (sw_g E))
  else if (sw_s i).1 = 4 then .inl (E.2.1 i, (sw_s i).2, .inr (.inl (σ.2.1 i)))
  else .inl (E.2.1 i, (sw_s i).2, .inl (σ.1 i))
def sw_wl (E : sw_E) (σ : sw_M) : va_W := (List.range 84).map fun i => (E.1 i, sw_ce E σ i)
def sw_tc : Nat → FieldType
  | 2 => .byte
  | 3 => .boolean
  | 4 => .long
  | _ => .int
def sw_ty (E : sw_E) : List (ClassId × FieldType) := (List.range 84).map fun i => (E.2.1 i, sw_tc (sw_s i).1)
abbrev sw_D (E : sw_E) : va_G := (E.2.2.1, E.2.2.2.1)
def sw_wA (σ : sw_M) (i : Nat) (f : Nat → Int32) : sw_M := (fun a => if a = i then f else σ.1 a, σ.2)
def sw_w (σ : sw_M) (i k : Nat) (x : Int32) : sw_M := sw_wA σ i (upd (σ.1 i) k x)
def sw_wL (σ : sw_M) (i k : Nat) (x : Int64) : sw_M := (σ.1, fun a => if a = i then vp_updL (σ.2.1 i) k x else σ.2.1 a, σ.2.2)
def sw_wP (σ : sw_M) (j r : Nat) : sw_M := (σ.1, σ.2.1, fun a => if a = j then r else σ.2.2 a)
theorem sw_wl_at (E : sw_E) (σ : sw_M) {i : Nat} (hi : i < 84) : (sw_wl E σ)[i]? = some (E.1 i, sw_ce E σ i) := by
  simp [sw_wl, hi]
theorem sw_ty_at (E : sw_E) {i : Nat} (hi : i < 84) : (sw_ty E)[i]? = some (E.2.1 i, sw_tc (sw_s i).1) := by
  simp [sw_ty, hi]
theorem sw_wl_set (E : sw_E) (σ σ' : sw_M) {i : Nat} {e : va_E} (he : sw_ce E σ' i = e) (ho : ∀ a, a ≠ i → sw_ce E σ' a = sw_ce E σ a) : (sw_wl E σ).set i (E.1 i, e) = sw_wl E σ' := by
  apply List.ext_getElem?
  intro j
  rw [List.getElem?_set]
  by_cases hj : j < 84
  · rw [sw_wl_at E σ' hj, sw_wl_at E σ hj]
    by_cases hij : i = j
    · subst hij
      have : i < (sw_wl E σ).length := by simp [sw_wl, hj]
      simp [this, he]
    · simp only [if_neg hij]
      rw [ho j (fun h => hij h.symm)]
  · have h1 : (sw_wl E σ)[j]? = none := by simp [sw_wl]; omega
    have h2 : (sw_wl E σ')[j]? = none := by simp [sw_wl]; omega
    have hl : (sw_wl E σ).length = 84 := by simp [sw_wl]
    rw [h1, h2]
    by_cases hij : i = j
    · subst hij
      simp [hl]; omega
    · simp [hij]
theorem sw_wl_D {E : sw_E} {A : Nat → Prop} {σ : sw_M} (σ' : sw_M) (h : va_D A (sw_wl E σ)) : va_D A (sw_wl E σ') := by
  have key : ∀ (k : Nat) (q : Nat × va_E), (sw_wl E σ')[k]? = some q → ∃ q0, (sw_wl E σ)[k]? = some q0 ∧ q0.1 = q.1 := by
    intro k q hq
    by_cases hk : k < 84
    · rw [sw_wl_at E σ' hk] at hq
      cases hq
      exact ⟨_, sw_wl_at E σ hk, rfl⟩
    · have : (sw_wl E σ')[k]? = none := by simp [sw_wl]; omega
      rw [this] at hq; cases hq
  refine ⟨fun i j p q hi hj hpq => ?_, fun k q hk => ?_⟩
  · obtain ⟨p0, h1, e1⟩ := key i p hi
    obtain ⟨q0, h2, e2⟩ := key j q hj
    exact h.1 i j p0 q0 h1 h2 (e1.trans (hpq.trans e2.symm))
  · obtain ⟨q0, h1, e1⟩ := key k q hk
    rw [← e1]; exact h.2 k q0 h1
theorem sw_wl_A (E : sw_E) (σ σ' : sw_M) (sz : Nat) : va_A (sw_wl E σ) sz = va_A (sw_wl E σ') sz := by
  have key : ∀ (τ τ' : sw_M) (q : Nat), (∃ (k : Nat) (e : va_E), (sw_wl E τ)[k]? = some (q, e)) → (∃ (k : Nat) (e : va_E), (sw_wl E τ')[k]? = some (q, e)) := by
    intro τ τ' q ⟨k, e, hk⟩
    by_cases h : k < 84
    · rw [sw_wl_at E τ h] at hk
      cases hk
      exact ⟨k, _, sw_wl_at E τ' h⟩
    · have : (sw_wl E τ)[k]? = none := by simp [sw_wl]; omega
      rw [this] at hk; cases hk
  funext q
  apply propext
  constructor
  · rintro (h | h)
    · exact Or.inl (key σ σ' q h)
    · exact Or.inr h
  · rintro (h | h)
    · exact Or.inl (key σ' σ q h)
    · exact Or.inr h
theorem sw_fs_len (σ : sw_M) (i ci : Nat) : (sw_fs σ i ci).length = (sw_fk.getD ci []).length := by simp [sw_fs]
theorem sw_fs_at (σ : sw_M) (i ci j : Nat) : (sw_fs σ i ci)[j]? = ((sw_fk.getD ci [])[j]?).map (fun c => sw_fv σ i j c) := by
  simp [sw_fs, List.getElem?_zipIdx, Function.comp_def]
theorem sw_fs_w (σ : sw_M) (i ci k : Nat) (x : Int32) (hk : (sw_fk.getD ci [])[k]? = some 0) : sw_fs (sw_w σ i k x) i ci = (sw_fs σ i ci).set k (.int x) := by
  apply List.ext_getElem?
  intro j
  have hl : k < (sw_fs σ i ci).length := by rw [sw_fs_len]; exact (List.getElem?_eq_some_iff.mp hk).1
  rw [List.getElem?_set, sw_fs_at, sw_fs_at]
  by_cases hkj : k = j
  · subst hkj
    simp only [hl, if_true]
    rw [hk]
    simp [sw_fv, sw_w, sw_wA, upd]
  · rw [if_neg hkj]
    cases h : (sw_fk.getD ci [])[j]? with
    | none => simp
    | some c =>
      simp only [Option.map_some]
      congr 1
      have hjk : ¬ j = k := fun e => hkj e.symm
      match c with
      | 0 => simp [sw_fv, sw_w, sw_wA, upd, hjk]
      | 1 => simp [sw_fv, sw_w, sw_wA]
      | c + 2 => simp [sw_fv, sw_w, sw_wA]
theorem sw_fs_wL (σ : sw_M) (i ci k : Nat) (x : Int64) (hk : (sw_fk.getD ci [])[k]? = some 1) : sw_fs (sw_wL σ i k x) i ci = (sw_fs σ i ci).set k (.long x) := by
  apply List.ext_getElem?
  intro j
  have hl : k < (sw_fs σ i ci).length := by rw [sw_fs_len]; exact (List.getElem?_eq_some_iff.mp hk).1
  rw [List.getElem?_set, sw_fs_at, sw_fs_at]
  by_cases hkj : k = j
  · subst hkj
    simp only [hl, if_true]
    rw [hk]
    simp [sw_fv, sw_wL, vp_updL]
  · rw [if_neg hkj]
    cases h : (sw_fk.getD ci [])[j]? with
    | none => simp
    | some c =>
      simp only [Option.map_some]
      congr 1
      have hjk : ¬ j = k := fun e => hkj e.symm
      match c with
      | 0 => simp [sw_fv, sw_wL]
      | 1 => simp [sw_fv, sw_wL, vp_updL, hjk]
      | c + 2 => simp [sw_fv, sw_wL]
theorem sw_fv_loc (σ σ' : sw_M) (i k c : Nat) (h1 : σ'.1 i = σ.1 i) (h2 : σ'.2.1 i = σ.2.1 i) (h3 : σ'.2.2 = σ.2.2) : sw_fv σ' i k c = sw_fv σ i k c := by
  match c with
  | 0 => simp [sw_fv, h1]
  | 1 => simp [sw_fv, h2]
  | c + 2 => simp [sw_fv, h3]
theorem sw_ce_loc (E : sw_E) (σ σ' : sw_M) (i : Nat) (h1 : σ'.1 i = σ.1 i) (h2 : σ'.2.1 i = σ.2.1 i) (h3 : σ'.2.2 = σ.2.2) : sw_ce E σ' i = sw_ce E σ i := by
  have hf : ∀ ci, sw_fs σ' i ci = sw_fs σ i ci := by
    intro ci
    simp only [sw_fs]
    congr 1
    funext q
    exact sw_fv_loc σ σ' i q.2 q.1 h1 h2 h3
  simp only [sw_ce, hf, h1, h2]
theorem sw_ce_wA (E : sw_E) (σ : sw_M) (i : Nat) (f : Nat → Int32) : ∀ a, a ≠ i → sw_ce E (sw_wA σ i f) a = sw_ce E σ a :=
  fun a h => sw_ce_loc E σ _ a (by simp [sw_wA, h]) rfl rfl
theorem sw_ce_wL (E : sw_E) (σ : sw_M) (i k : Nat) (x : Int64) : ∀ a, a ≠ i → sw_ce E (sw_wL σ i k x) a = sw_ce E σ a :=
  fun a h => sw_ce_loc E σ _ a rfl (by simp [sw_wL, h]) rfl
theorem sw_ce_o {E : sw_E} {σ : sw_M} {i ci : Nat} (h : sw_s i = (0, ci)) : sw_ce E σ i = .inr (ci, (sw_fs σ i ci).map (sw_g E)) := by
  simp [sw_ce, h]
theorem sw_ce_i {E : sw_E} {σ : sw_M} {i t n : Nat} (h : sw_s i = (t, n)) (h0 : t ≠ 0) (h4 : t ≠ 4) : sw_ce E σ i = .inl (E.2.1 i, n, .inl (σ.1 i)) := by
  simp [sw_ce, h, h0, h4]
theorem sw_ce_l {E : sw_E} {σ : sw_M} {i n : Nat} (h : sw_s i = (4, n)) : sw_ce E σ i = .inl (E.2.1 i, n, .inr (.inl (σ.2.1 i))) := by
  simp [sw_ce, h]
theorem sw_wA_self (σ : sw_M) (i : Nat) (f : Nat → Int32) : (sw_wA σ i f).1 i = f := by simp [sw_wA]
theorem sw_wL_self (σ : sw_M) (i k : Nat) (x : Int64) : (sw_wL σ i k x).2.1 i = vp_updL (σ.2.1 i) k x := by simp [sw_wL]
theorem sw_g_cat (E : sw_E) (v : Value) : (sw_g E v).category = v.category := by cases v <;> rfl
/-! the tables' words that a callee may be handed -/
def sw_T : List Cond := lw_tbl.filter goodWord
theorem sw_T_of {w : Cond} {i : Nat} (h : lw_tbl[i]? = some w) (hg : goodWord w = true) : w ∈ sw_T := List.mem_filter.mpr ⟨List.mem_of_getElem? h, hg⟩
theorem sw_T_good : ∀ w ∈ sw_T, (w.onTables && w.keeps) = true ∨ ∃ ty, w = .arrayClass ty := fun _ h => good_of_word (List.mem_filter.mp h).2
theorem sw_in0 : ∀ w ∈ u_ws RX0 TX0 3, w ∈ sw_T := by decide +kernel
theorem sw_in1 : ∀ w ∈ u_ws RX1 TX1 2, w ∈ sw_T := by decide +kernel
theorem sw_in2 : ∀ w ∈ u_ws RX2 TX2 6, w ∈ sw_T := by decide +kernel
theorem sw_in3 : ∀ w ∈ u_ws RX3 TX3 3, w ∈ sw_T := by decide +kernel
theorem sw_in4 : ∀ w ∈ u_ws RX4 TX4 16, w ∈ sw_T := by decide +kernel
theorem sw_in5 : ∀ w ∈ u_ws RX5 TX5 5, w ∈ sw_T := by decide +kernel
theorem sw_in6 : ∀ w ∈ u_ws RX6 TX6 10, w ∈ sw_T := by decide +kernel
theorem sw_in7 : ∀ w ∈ u_ws RX7 TX7 10, w ∈ sw_T := by decide +kernel
theorem sw_in8 : ∀ w ∈ u_ws RX8 TX8 6, w ∈ sw_T := by decide +kernel
theorem sw_in9 : ∀ w ∈ u_ws RX9 TX9 10, w ∈ sw_T := by decide +kernel
theorem sw_in10 : ∀ w ∈ u_ws RX10 TX10 73, w ∈ sw_T := by decide +kernel
end
section
/-! what may lie beside the cells (texts): it must bear a call -/
def sw_Mv (X : (Nat → Prop) → State → Heap → Prop) : Prop :=
  (∀ (A A' : Nat → Prop) (s U : State) (H0 H : Heap), X A s H0 → (∀ q : Nat, q < H0.size → ¬ A q → H[q]? = H0[q]?) → (∀ q, A' q → A q) → s.WarmedH U.vm → X A' U H) ∧
  (∀ (A : Nat → Prop) (u U : State) (H : Heap), U.vm = u.vm → X A u H → X A U H)
def sw_rm (K : Nat) : Room := { frames := K, cells := 0, slots := 0, locals := 64 * K }
def sw_Qc (E : sw_E) (r : Option Value) (σ' : sw_M) (A : Nat → Prop) : Array Value → State → Outcome → State → Prop := fun _ st oc t =>
  oc = .returned (r.map (sw_g E)) ∧ va_P (sw_D E) sw_cl (sw_wl E σ') t.heap ∧ va_K (sw_D E) sw_cl (sw_ty E) t ∧ va_F A st t
def sw_Pc (E : sw_E) (As : List Value) (σ : sw_M) (sz : Nat) : Array Value → State → Prop := va_Pc (As.map (sw_g E)) (fun U => U.heap.size = sz ∧ sw_Mv E.2.2.2.2 ∧ E.2.2.2.2 (va_A (sw_wl E σ) sz) U U.heap ∧ va_P (sw_D E) sw_cl (sw_wl E σ) U.heap ∧ va_K (sw_D E) sw_cl (sw_ty E) U ∧ va_D (fun _ => True) (sw_wl E σ))
/-- a method's contract: from the memory σ, with these arguments, it returns r and leaves σ' -/
def sw_Ct (l : Launch) (E : sw_E) (K : Nat) (y : MethodName) (cc : ByteArray) (nL : Nat) (ret : Option FieldType) (As : List Value) (σ : sw_M) (r : Option Value) (σ' : sw_M) : Prop :=
  ∀ sz : Nat, Met l y (.code y cc nL ret :: sw_T) (sw_rm K) (sw_Pc E As σ sz) (sw_Qc E r σ' (va_A (sw_wl E σ) sz)) 0 0 (va_A (sw_wl E σ) sz)
/-- what stays the same while a method's body runs -/
def sw_Cx (E : sw_E) (own : String) (cc : ByteArray) (nL : Nat) (ret : Option FieldType) (A : Nat → Prop) (p : Program) (s : State) (m : MethodId) (args : Array Value) (meth : Method) (c : Code) : Prop :=
  p.tables.exec = Jvm.exec ∧ c.code = cc ∧ c.maxLocals = nL ∧ meth.sig.returnType = ret ∧ meth.locks = false ∧ s.vm.findClass own = some m.cls ∧ (∀ w ∈ sw_T, w.before args s = true) ∧
  sw_Mv E.2.2.2.2 ∧ E.2.2.2.2 A s s.heap ∧ va_K (sw_D E) sw_cl (sw_ty E) s ∧ (∀ σ : sw_M, va_D A (sw_wl E σ)) ∧ (∀ q, s.heap.size ≤ q → A q)
def sw_Go (l : Launch) (E : sw_E) (K : Nat) (own : String) (cc : ByteArray) (nL : Nat) (ret : Option FieldType) (pc : Nat) (lv : List (Nat × Value)) (st : List Value) (σ : sw_M) (r : Option Value) (σ' : sw_M) : Prop :=
  ∀ (p : Program) (e : Env) (s : State) (m : MethodId) (args : Array Value) (below : List Frame) (meth : Method) (c : Code) (H : Heap) (locs : List Loc) (A : Nat → Prop) (ls : Array Slot),
    sw_Cx E own cc nL ret A p s m args meth c → va_P (sw_D E) sw_cl (sw_wl E σ) H → va_S A s.heap H locs → lv_has ls nL (lv.map (sw_g2 E)) →
    W p l e (sw_rm K) s m args below meth c H locs 0 0 (MQ below (sw_Qc E r σ' A) args s 0 0 A) (F0 m pc ls (st.map (sw_g E)))
theorem sw_lv_args (E : sw_E) : ∀ (i : Nat) (As : List Value), lv_args i (As.map (sw_g E)) = (lv_args i As).map (sw_g2 E)
  | _, [] => rfl
  | i, v :: vs => by
    show (i, sw_g E v) :: lv_args (if (sw_g E v).category = 2 then i + 2 else i + 1) (vs.map (sw_g E)) = (i, sw_g E v) :: (lv_args (if v.category = 2 then i + 2 else i + 1) vs).map (sw_g2 E)
    rw [sw_g_cat, sw_lv_args E _ vs]
theorem sw_lg_sl (E : sw_E) : ∀ (As : List Value), (lg_sl (As.map (sw_g E))).length = (lg_sl As).length
  | [] => rfl
  | v :: vs => by
    have ih := sw_lg_sl E vs
    simp only [lg_sl, List.map_cons, List.flatMap_cons, List.length_append] at ih ⊢
    rw [ih, sw_g_cat]
    by_cases h : v.category = 2 <;> simp [h]
theorem sw_ff (lv : List (Nat × Value)) (E : sw_E) (f : Nat × Value → Bool) (hf : ∀ q, f (sw_g2 E q) = f q) : (lv.map (sw_g2 E)).filter f = (lv.filter f).map (sw_g2 E) := by
  rw [List.filter_map]
  congr 1
  apply List.filter_congr
  intro q _
  exact hf q
theorem sw_enter {l : Launch} {E : sw_E} {K : Nat} {y : MethodName} {cc : ByteArray} {nL : Nat} {ret : Option FieldType} {As : List Value} {σ : sw_M} {r : Option Value} {σ' : sw_M} (hy : plainName y.cls = true) (hn : (lg_sl As).length ≤ nL)
    (h : sw_Go l E K y.cls cc nL ret 0 (lv_args 0 As) [] σ r σ') : sw_Ct l E K y cc nL ret As σ r σ' := by
  intro sz
  refine Met.ofW (cc := cc) (maxL := nL) (ret := ret) hy rfl ?_
  intro p e s m args below meth c s₁ B hml hv
  obtain ⟨rfl, hsz, hMv, hX, hP, hK, hD0⟩ := hv
  have hts := atoms_spec (ws := .code y cc nL ret :: sw_T) B.pre
  have hown : s.vm.findClass y.cls = some m.cls := findClass_of_methodNamed B.named
  subst hsz
  have hD := hD0.self (sz := s.heap.size)
  have hl := lv_entry (As.map (sw_g E)) (n := nL) (by rw [sw_lg_sl]; exact hn)
  rw [lg_entry_eq]
  rw [sw_lv_args] at hl
  exact h p e s m _ below meth c s.heap [] _ _ ⟨B.exec, B.bytes, hml, B.returns, B.notSynchronized, hown, fun w hw => hts w (List.mem_cons_of_mem _ hw), hMv, hX, hK, fun τ => sw_wl_D τ hD, fun q hq => Or.inr hq⟩ hP va_S.rf hl
section GO
variable {l : Launch} {E : sw_E} {K : Nat} {own : String} {cc : ByteArray} {nL : Nat} {ret : Option FieldType} {pc : Nat} {lv lv' : List (Nat × Value)} {st : List Value} {σ σ' : sw_M} {r : Option Value}
theorem sw_eqs {st2 : List Value} {lv2 : List (Nat × Value)} {σ2 : sw_M} (h1 : lv = lv2) (h2 : st = st2) (h3 : σ = σ2) (k : sw_Go l E K own cc nL ret pc lv2 st2 σ2 r σ') : sw_Go l E K own cc nL ret pc lv st σ r σ' := by
  subst h1; subst h2; subst h3; exact k
theorem sw_lv (ks : List Nat) (h : lv_pick lv ks = lv') (k : sw_Go l E K own cc nL ret pc lv' st σ r σ') : sw_Go l E K own cc nL ret pc lv st σ r σ' := by
  intro p e s m args below meth c H locs A ls C hP hS hl
  refine k p e s m args below meth c H locs A ls C hP hS (lv_sub hl ks ?_)
  subst h
  simp [lv_pick, List.map_filterMap, List.getElem?_map]
theorem sw_iconst {n : Int} {v : Int32} (hd : decode cc pc = .ok (.iconst n, 1)) (hv : Int32.ofInt n = v) (k : sw_Go l E K own cc nL ret (pc + 1) lv (.int v :: st) σ r σ') : sw_Go l E K own cc nL ret pc lv st σ r σ' := by
  intro p e s m args below meth c H locs A ls C hP hS hl
  exact lv_iconst C.1 C.2.1 hd hv (k p e s m args below meth c H locs A ls C hP hS hl)
theorem sw_bipush {n : Int} {v : Int32} (hd : decode cc pc = .ok (.bipush n, 2)) (hv : (Int8.ofInt n).toInt32 = v) (k : sw_Go l E K own cc nL ret (pc + 2) lv (.int v :: st) σ r σ') : sw_Go l E K own cc nL ret pc lv st σ r σ' := by
  intro p e s m args below meth c H locs A ls C hP hS hl
  exact lv_bipush C.1 C.2.1 hd hv (k p e s m args below meth c H locs A ls C hP hS hl)
theorem sw_sipush {n : Int} {v : Int32} (hd : decode cc pc = .ok (.sipush n, 3)) (hv : (Int16.ofInt n).toInt32 = v) (k : sw_Go l E K own cc nL ret (pc + 3) lv (.int v :: st) σ r σ') : sw_Go l E K own cc nL ret pc lv st σ r σ' := by
  intro p e s m args below meth c H locs A ls C hP hS hl
  exact lv_sipush C.1 C.2.1 hd hv (k p e s m args below meth c H locs A ls C hP hS hl)
theorem sw_iadd {x y : Int32} (hd : decode cc pc = .ok (.iadd, 1)) (k : sw_Go l E K own cc nL ret (pc + 1) lv (.int (x + y) :: st) σ r σ') : sw_Go l E K own cc nL ret pc lv (.int y :: .int x :: st) σ r σ' := by
  intro p e s m args below meth c H locs A ls C hP hS hl
  exact lv_iadd C.1 C.2.1 hd (k p e s m args below meth c H locs A ls C hP hS hl)
theorem sw_isub {x y : Int32} (hd : decode cc pc = .ok (.isub, 1)) (k : sw_Go l E K own cc nL ret (pc + 1) lv (.int (x - y) :: st) σ r σ') : sw_Go l E K own cc nL ret pc lv (.int y :: .int x :: st) σ r σ' := by
  intro p e s m args below meth c H locs A ls C hP hS hl
  exact lv_isub C.1 C.2.1 hd (k p e s m args below meth c H locs A ls C hP hS hl)
theorem sw_imul {x y : Int32} (hd : decode cc pc = .ok (.imul, 1)) (k : sw_Go l E K own cc nL ret (pc + 1) lv (.int (x * y) :: st) σ r σ') : sw_Go l E K own cc nL ret pc lv (.int y :: .int x :: st) σ r σ' := by
  intro p e s m args below meth c H locs A ls C hP hS hl
  exact lv_imul C.1 C.2.1 hd (k p e s m args below meth c H locs A ls C hP hS hl)
theorem sw_iand {x y : Int32} (hd : decode cc pc = .ok (.iand, 1)) (k : sw_Go l E K own cc nL ret (pc + 1) lv (.int (x &&& y) :: st) σ r σ') : sw_Go l E K own cc nL ret pc lv (.int y :: .int x :: st) σ r σ' := by
  intro p e s m args below meth c H locs A ls C hP hS hl
  exact lv_iand C.1 C.2.1 hd (k p e s m args below meth c H locs A ls C hP hS hl)
theorem sw_ior {x y : Int32} (hd : decode cc pc = .ok (.ior, 1)) (k : sw_Go l E K own cc nL ret (pc + 1) lv (.int (x ||| y) :: st) σ r σ') : sw_Go l E K own cc nL ret pc lv (.int y :: .int x :: st) σ r σ' := by
  intro p e s m args below meth c H locs A ls C hP hS hl
  exact lv_ior C.1 C.2.1 hd (k p e s m args below meth c H locs A ls C hP hS hl)
theorem sw_ixor {x y : Int32} (hd : decode cc pc = .ok (.ixor, 1)) (k : sw_Go l E K own cc nL ret (pc + 1) lv (.int (x ^^^ y) :: st) σ r σ') : sw_Go l E K own cc nL ret pc lv (.int y :: .int x :: st) σ r σ' := by
  intro p e s m args below meth c H locs A ls C hP hS hl
  exact lv_ixor C.1 C.2.1 hd (k p e s m args below meth c H locs A ls C hP hS hl)
theorem sw_idiv {x y : Int32} (hd : decode cc pc = .ok (.idiv, 1)) (hne : ¬ y = 0) (k : sw_Go l E K own cc nL ret (pc + 1) lv (.int (x / y) :: st) σ r σ') : sw_Go l E K own cc nL ret pc lv (.int y :: .int x :: st) σ r σ' := by
  intro p e s m args below meth c H locs A ls C hP hS hl
  exact lv_idiv C.1 C.2.1 hd hne (k p e s m args below meth c H locs A ls C hP hS hl)
theorem sw_irem {x y : Int32} (hd : decode cc pc = .ok (.irem, 1)) (hne : ¬ y = 0) (k : sw_Go l E K own cc nL ret (pc + 1) lv (.int (x - x / y * y) :: st) σ r σ') : sw_Go l E K own cc nL ret pc lv (.int y :: .int x :: st) σ r σ' := by
  intro p e s m args below meth c H locs A ls C hP hS hl
  exact lv_irem C.1 C.2.1 hd hne (k p e s m args below meth c H locs A ls C hP hS hl)
theorem sw_ladd {x y : Int64} (hd : decode cc pc = .ok (.ladd, 1)) (k : sw_Go l E K own cc nL ret (pc + 1) lv (.long (x + y) :: st) σ r σ') : sw_Go l E K own cc nL ret pc lv (.long y :: .long x :: st) σ r σ' := by
  intro p e s m args below meth c H locs A ls C hP hS hl
  exact lv_ladd C.1 C.2.1 hd (k p e s m args below meth c H locs A ls C hP hS hl)
theorem sw_lsub {x y : Int64} (hd : decode cc pc = .ok (.lsub, 1)) (k : sw_Go l E K own cc nL ret (pc + 1) lv (.long (x - y) :: st) σ r σ') : sw_Go l E K own cc nL ret pc lv (.long y :: .long x :: st) σ r σ' := by
  intro p e s m args below meth c H locs A ls C hP hS hl
  exact lv_lsub C.1 C.2.1 hd (k p e s m args below meth c H locs A ls C hP hS hl)
theorem sw_lmul {x y : Int64} (hd : decode cc pc = .ok (.lmul, 1)) (k : sw_Go l E K own cc nL ret (pc + 1) lv (.long (x * y) :: st) σ r σ') : sw_Go l E K own cc nL ret pc lv (.long y :: .long x :: st) σ r σ' := by
  intro p e s m args below meth c H locs A ls C hP hS hl
  exact lv_lmul C.1 C.2.1 hd (k p e s m args below meth c H locs A ls C hP hS hl)
theorem sw_lor {x y : Int64} (hd : decode cc pc = .ok (.lor, 1)) (k : sw_Go l E K own cc nL ret (pc + 1) lv (.long (x ||| y) :: st) σ r σ') : sw_Go l E K own cc nL ret pc lv (.long y :: .long x :: st) σ r σ' := by
  intro p e s m args below meth c H locs A ls C hP hS hl
  exact lv_lor C.1 C.2.1 hd (k p e s m args below meth c H locs A ls C hP hS hl)
theorem sw_ineg {x : Int32} (hd : decode cc pc = .ok (.ineg, 1)) (k : sw_Go l E K own cc nL ret (pc + 1) lv (.int (-x) :: st) σ r σ') : sw_Go l E K own cc nL ret pc lv (.int x :: st) σ r σ' := by
  intro p e s m args below meth c H locs A ls C hP hS hl
  exact lv_ineg C.1 C.2.1 hd (k p e s m args below meth c H locs A ls C hP hS hl)
theorem sw_i2l {x : Int32} (hd : decode cc pc = .ok (.i2l, 1)) (k : sw_Go l E K own cc nL ret (pc + 1) lv (.long (x.toInt64) :: st) σ r σ') : sw_Go l E K own cc nL ret pc lv (.int x :: st) σ r σ' := by
  intro p e s m args below meth c H locs A ls C hP hS hl
  exact lv_i2l C.1 C.2.1 hd rfl (k p e s m args below meth c H locs A ls C hP hS hl)
theorem sw_i2b {x : Int32} (hd : decode cc pc = .ok (.i2b, 1)) (k : sw_Go l E K own cc nL ret (pc + 1) lv (.int (x.toInt8.toInt32) :: st) σ r σ') : sw_Go l E K own cc nL ret pc lv (.int x :: st) σ r σ' := by
  intro p e s m args below meth c H locs A ls C hP hS hl
  exact lv_i2b C.1 C.2.1 hd rfl (k p e s m args below meth c H locs A ls C hP hS hl)
theorem sw_i2c {x : Int32} (hd : decode cc pc = .ok (.i2c, 1)) (k : sw_Go l E K own cc nL ret (pc + 1) lv (.int ((x.toUInt32 % 65536).toInt32) :: st) σ r σ') : sw_Go l E K own cc nL ret pc lv (.int x :: st) σ r σ' := by
  intro p e s m args below meth c H locs A ls C hP hS hl
  exact lv_i2c C.1 C.2.1 hd rfl (k p e s m args below meth c H locs A ls C hP hS hl)
theorem sw_ishl {x y : Int32} (hd : decode cc pc = .ok (.ishl, 1)) (k : sw_Go l E K own cc nL ret (pc + 1) lv (.int (x <<< (y &&& 31)) :: st) σ r σ') : sw_Go l E K own cc nL ret pc lv (.int y :: .int x :: st) σ r σ' := by
  intro p e s m args below meth c H locs A ls C hP hS hl
  exact lv_ishl C.1 C.2.1 hd (k p e s m args below meth c H locs A ls C hP hS hl)
theorem sw_ishr {x y : Int32} (hd : decode cc pc = .ok (.ishr, 1)) (k : sw_Go l E K own cc nL ret (pc + 1) lv (.int (x >>> (y &&& 31)) :: st) σ r σ') : sw_Go l E K own cc nL ret pc lv (.int y :: .int x :: st) σ r σ' := by
  intro p e s m args below meth c H locs A ls C hP hS hl
  exact lv_ishr C.1 C.2.1 hd (k p e s m args below meth c H locs A ls C hP hS hl)
theorem sw_iushr {x y : Int32} (hd : decode cc pc = .ok (.iushr, 1)) (k : sw_Go l E K own cc nL ret (pc + 1) lv (.int ((x.toUInt32 >>> (y.toUInt32 &&& Int32.toUInt32 31)).toInt32) :: st) σ r σ') : sw_Go l E K own cc nL ret pc lv (.int y :: .int x :: st) σ r σ' := by
  intro p e s m args below meth c H locs A ls C hP hS hl
  exact lv_iushr C.1 C.2.1 hd rfl (k p e s m args below meth c H locs A ls C hP hS hl)
theorem sw_lshl {x : Int64} {y : Int32} (hd : decode cc pc = .ok (.lshl, 1)) (k : sw_Go l E K own cc nL ret (pc + 1) lv (.long (x <<< (y.toInt64 &&& 63)) :: st) σ r σ') : sw_Go l E K own cc nL ret pc lv (.int y :: .long x :: st) σ r σ' := by
  intro p e s m args below meth c H locs A ls C hP hS hl
  exact lv_lshl C.1 C.2.1 hd rfl (k p e s m args below meth c H locs A ls C hP hS hl)
theorem sw_lcmp {x y : Int64} (hd : decode cc pc = .ok (.lcmp, 1)) (k : sw_Go l E K own cc nL ret (pc + 1) lv (.int (lg_cmp x y) :: st) σ r σ') : sw_Go l E K own cc nL ret pc lv (.long y :: .long x :: st) σ r σ' := by
  intro p e s m args below meth c H locs A ls C hP hS hl
  exact W.lcmp C.1 C.2.1 hd (k p e s m args below meth c H locs A ls C hP hS hl)
theorem sw_lconst {n : Fin 2} {v : Int64} (hd : decode cc pc = .ok (.lconst n, 1)) (hv : Int64.ofNat (n : Nat) = v) (k : sw_Go l E K own cc nL ret (pc + 1) lv (.long v :: st) σ r σ') : sw_Go l E K own cc nL ret pc lv st σ r σ' := by
  intro p e s m args below meth c H locs A ls C hP hS hl
  exact lv_lconst C.1 C.2.1 hd hv (k p e s m args below meth c H locs A ls C hP hS hl)
theorem sw_iload_n {k0 : Fin 4} {i : Nat} {x : Int32} (j : Nat) (hk : lv[j]? = some (i, .int x)) (hd : decode cc pc = .ok (.iload_n k0, 1)) (hi : (k0 : Nat) = i) (k : sw_Go l E K own cc nL ret (pc + 1) lv (.int x :: st) σ r σ') : sw_Go l E K own cc nL ret pc lv st σ r σ' := by
  intro p e s m args below meth c H locs A ls C hP hS hl
  exact lv_iload_n C.1 C.2.1 hd hi (lv_at hl j (by rw [List.getElem?_map, hk]; rfl)) (k p e s m args below meth c H locs A ls C hP hS hl)
theorem sw_iload {i : Nat} {x : Int32} (j : Nat) (hk : lv[j]? = some (i, .int x)) (hd : decode cc pc = .ok (.iload i, 2)) (k : sw_Go l E K own cc nL ret (pc + 2) lv (.int x :: st) σ r σ') : sw_Go l E K own cc nL ret pc lv st σ r σ' := by
  intro p e s m args below meth c H locs A ls C hP hS hl
  exact lv_iload C.1 C.2.1 hd (lv_at hl j (by rw [List.getElem?_map, hk]; rfl)) (k p e s m args below meth c H locs A ls C hP hS hl)
theorem sw_istore_n {k0 : Fin 4} {i : Nat} {x : Int32} (hd : decode cc pc = .ok (.istore_n k0, 1)) (hi : (k0 : Nat) = i) (hn : i < nL) (hl2 : (i, Value.int x) :: lv.filter (fun q => !(q.1 == i) && !(q.1 + 1 == i && q.2.category == 2)) = lv') (k : sw_Go l E K own cc nL ret (pc + 1) lv' st σ r σ') : sw_Go l E K own cc nL ret pc lv (.int x :: st) σ r σ' := by
  intro p e s m args below meth c H locs A ls C hP hS hl
  exact lv_istore_n C.1 C.2.1 hd hi hl hn (lv' := lv'.map (sw_g2 E)) (by subst hl2; rw [sw_ff lv E _ (fun q => by simp [sw_g2, sw_g_cat])]; rfl) (fun ls hl => (k p e s m args below meth c H locs A ls C hP hS hl))
theorem sw_istore {i : Nat} {x : Int32} (hd : decode cc pc = .ok (.istore i, 2)) (hn : i < nL) (hl2 : (i, Value.int x) :: lv.filter (fun q => !(q.1 == i) && !(q.1 + 1 == i && q.2.category == 2)) = lv') (k : sw_Go l E K own cc nL ret (pc + 2) lv' st σ r σ') : sw_Go l E K own cc nL ret pc lv (.int x :: st) σ r σ' := by
  intro p e s m args below meth c H locs A ls C hP hS hl
  exact lv_istore C.1 C.2.1 hd hl hn (lv' := lv'.map (sw_g2 E)) (by subst hl2; rw [sw_ff lv E _ (fun q => by simp [sw_g2, sw_g_cat])]; rfl) (fun ls hl => (k p e s m args below meth c H locs A ls C hP hS hl))
theorem sw_lload_n {k0 : Fin 4} {i : Nat} {x : Int64} (j : Nat) (hk : lv[j]? = some (i, .long x)) (hd : decode cc pc = .ok (.lload_n k0, 1)) (hi : (k0 : Nat) = i) (k : sw_Go l E K own cc nL ret (pc + 1) lv (.long x :: st) σ r σ') : sw_Go l E K own cc nL ret pc lv st σ r σ' := by
  intro p e s m args below meth c H locs A ls C hP hS hl
  exact lv_lload_n C.1 C.2.1 hd hi (lv_at hl j (by rw [List.getElem?_map, hk]; rfl)) (k p e s m args below meth c H locs A ls C hP hS hl)
theorem sw_lload {i : Nat} {x : Int64} (j : Nat) (hk : lv[j]? = some (i, .long x)) (hd : decode cc pc = .ok (.lload i, 2)) (k : sw_Go l E K own cc nL ret (pc + 2) lv (.long x :: st) σ r σ') : sw_Go l E K own cc nL ret pc lv st σ r σ' := by
  intro p e s m args below meth c H locs A ls C hP hS hl
  exact lv_lload C.1 C.2.1 hd (lv_at hl j (by rw [List.getElem?_map, hk]; rfl)) (k p e s m args below meth c H locs A ls C hP hS hl)
theorem sw_lstore_n {k0 : Fin 4} {i : Nat} {x : Int64} (hd : decode cc pc = .ok (.lstore_n k0, 1)) (hi : (k0 : Nat) = i) (hn : i + 1 < nL) (hl2 : (i, Value.long x) :: lv.filter (fun q => !(q.1 == i) && (!(q.1 == i + 1) && !(q.1 + 1 == i && q.2.category == 2))) = lv') (k : sw_Go l E K own cc nL ret (pc + 1) lv' st σ r σ') : sw_Go l E K own cc nL ret pc lv (.long x :: st) σ r σ' := by
  intro p e s m args below meth c H locs A ls C hP hS hl
  exact lv_lstore_n C.1 C.2.1 hd hi hl hn (lv' := lv'.map (sw_g2 E)) (by subst hl2; rw [sw_ff lv E _ (fun q => by simp [sw_g2, sw_g_cat])]; rfl) (fun ls hl => (k p e s m args below meth c H locs A ls C hP hS hl))
theorem sw_lstore {i : Nat} {x : Int64} (hd : decode cc pc = .ok (.lstore i, 2)) (hn : i + 1 < nL) (hl2 : (i, Value.long x) :: lv.filter (fun q => !(q.1 == i) && (!(q.1 == i + 1) && !(q.1 + 1 == i && q.2.category == 2))) = lv') (k : sw_Go l E K own cc nL ret (pc + 2) lv' st σ r σ') : sw_Go l E K own cc nL ret pc lv (.long x :: st) σ r σ' := by
  intro p e s m args below meth c H locs A ls C hP hS hl
  exact lv_lstore C.1 C.2.1 hd hl hn (lv' := lv'.map (sw_g2 E)) (by subst hl2; rw [sw_ff lv E _ (fun q => by simp [sw_g2, sw_g_cat])]; rfl) (fun ls hl => (k p e s m args below meth c H locs A ls C hP hS hl))
theorem sw_aload_n {k0 : Fin 4} {i : Nat} {x : Nat} (j : Nat) (hk : lv[j]? = some (i, .ref x)) (hd : decode cc pc = .ok (.aload_n k0, 1)) (hi : (k0 : Nat) = i) (k : sw_Go l E K own cc nL ret (pc + 1) lv (.ref x :: st) σ r σ') : sw_Go l E K own cc nL ret pc lv st σ r σ' := by
  intro p e s m args below meth c H locs A ls C hP hS hl
  exact lv_aload_n C.1 C.2.1 hd hi (lv_at hl j (by rw [List.getElem?_map, hk]; rfl)) (k p e s m args below meth c H locs A ls C hP hS hl)
theorem sw_aload {i : Nat} {x : Nat} (j : Nat) (hk : lv[j]? = some (i, .ref x)) (hd : decode cc pc = .ok (.aload i, 2)) (k : sw_Go l E K own cc nL ret (pc + 2) lv (.ref x :: st) σ r σ') : sw_Go l E K own cc nL ret pc lv st σ r σ' := by
  intro p e s m args below meth c H locs A ls C hP hS hl
  exact lv_aload C.1 C.2.1 hd (lv_at hl j (by rw [List.getElem?_map, hk]; rfl)) (k p e s m args below meth c H locs A ls C hP hS hl)
theorem sw_astore_n {k0 : Fin 4} {i : Nat} {x : Nat} (hd : decode cc pc = .ok (.astore_n k0, 1)) (hi : (k0 : Nat) = i) (hn : i < nL) (hl2 : (i, Value.ref x) :: lv.filter (fun q => !(q.1 == i) && !(q.1 + 1 == i && q.2.category == 2)) = lv') (k : sw_Go l E K own cc nL ret (pc + 1) lv' st σ r σ') : sw_Go l E K own cc nL ret pc lv (.ref x :: st) σ r σ' := by
  intro p e s m args below meth c H locs A ls C hP hS hl
  exact lv_astore_n C.1 C.2.1 hd hi hl hn (lv' := lv'.map (sw_g2 E)) (by subst hl2; rw [sw_ff lv E _ (fun q => by simp [sw_g2, sw_g_cat])]; rfl) (fun ls hl => (k p e s m args below meth c H locs A ls C hP hS hl))
theorem sw_astore {i : Nat} {x : Nat} (hd : decode cc pc = .ok (.astore i, 2)) (hn : i < nL) (hl2 : (i, Value.ref x) :: lv.filter (fun q => !(q.1 == i) && !(q.1 + 1 == i && q.2.category == 2)) = lv') (k : sw_Go l E K own cc nL ret (pc + 2) lv' st σ r σ') : sw_Go l E K own cc nL ret pc lv (.ref x :: st) σ r σ' := by
  intro p e s m args below meth c H locs A ls C hP hS hl
  exact lv_astore C.1 C.2.1 hd hl hn (lv' := lv'.map (sw_g2 E)) (by subst hl2; rw [sw_ff lv E _ (fun q => by simp [sw_g2, sw_g_cat])]; rfl) (fun ls hl => (k p e s m args below meth c H locs A ls C hP hS hl))
theorem sw_iinc {i : Nat} {n : Int} {x v : Int32} (j : Nat) (hk : lv[j]? = some (i, .int x)) (hd : decode cc pc = .ok (.iinc i n, 3)) (hv : Int32.ofInt n = v) (hn : i < nL) (hl2 : (i, Value.int (x + v)) :: lv.filter (fun q => !(q.1 == i) && !(q.1 + 1 == i && q.2.category == 2)) = lv') (k : sw_Go l E K own cc nL ret (pc + 3) lv' st σ r σ') : sw_Go l E K own cc nL ret pc lv st σ r σ' := by
  intro p e s m args below meth c H locs A ls C hP hS hl
  exact lv_iinc C.1 C.2.1 hd hl (k := j) (x := x) (by rw [List.getElem?_map, hk]; rfl) (by rw [hv]) hn (lv' := lv'.map (sw_g2 E)) (by subst hl2; rw [sw_ff lv E _ (fun q => by simp [sw_g2, sw_g_cat])]; rfl) (fun ls hl => (k p e s m args below meth c H locs A ls C hP hS hl))
theorem sw_dup {v : Value} (hd : decode cc pc = .ok (.dup, 1)) (hc : v.category = 1) (k : sw_Go l E K own cc nL ret (pc + 1) lv (v :: v :: st) σ r σ') : sw_Go l E K own cc nL ret pc lv (v :: st) σ r σ' := by
  intro p e s m args below meth c H locs A ls C hP hS hl
  exact lv_dup C.1 C.2.1 hd (by rw [sw_g_cat]; exact hc) (k p e s m args below meth c H locs A ls C hP hS hl)
theorem sw_pop {v : Value} (hd : decode cc pc = .ok (.pop, 1)) (hc : v.category = 1) (k : sw_Go l E K own cc nL ret (pc + 1) lv st σ r σ') : sw_Go l E K own cc nL ret pc lv (v :: st) σ r σ' := by
  intro p e s m args below meth c H locs A ls C hP hS hl
  exact lv_pop C.1 C.2.1 hd (by rw [sw_g_cat]; exact hc) (k p e s m args below meth c H locs A ls C hP hS hl)
theorem sw_dup2 {v w : Value} (hd : decode cc pc = .ok (.dup2, 1)) (hc : v.category = 1) (hc2 : w.category = 1) (k : sw_Go l E K own cc nL ret (pc + 1) lv (v :: w :: v :: w :: st) σ r σ') : sw_Go l E K own cc nL ret pc lv (v :: w :: st) σ r σ' := by
  intro p e s m args below meth c H locs A ls C hP hS hl
  exact lv_dup2_11 C.1 C.2.1 hd (by rw [sw_g_cat]; exact hc) (by rw [sw_g_cat]; exact hc2) (k p e s m args below meth c H locs A ls C hP hS hl)
theorem sw_if_eq {x : Int32} {off : Int} (tgt : Nat) (hd : decode cc pc = .ok (.ifCond .eq off, 3)) (ht : (pc : Int) + off = (tgt : Int)) (kt : x = 0 → sw_Go l E K own cc nL ret tgt lv st σ r σ') (kf : ¬ (x = 0) → sw_Go l E K own cc nL ret (pc + 3) lv st σ r σ') : sw_Go l E K own cc nL ret pc lv (.int x :: st) σ r σ' := by
  intro p e s m args below meth c H locs A ls C hP hS hl
  exact lv_if_eq C.1 C.2.1 hd ht (fun h => kt h p e s m args below meth c H locs A ls C hP hS hl) (fun h => kf h p e s m args below meth c H locs A ls C hP hS hl)
theorem sw_icmp_eq {x y : Int32} {off : Int} (tgt : Nat) (hd : decode cc pc = .ok (.if_icmp .eq off, 3)) (ht : (pc : Int) + off = (tgt : Int)) (kt : x = y → sw_Go l E K own cc nL ret tgt lv st σ r σ') (kf : ¬ (x = y) → sw_Go l E K own cc nL ret (pc + 3) lv st σ r σ') : sw_Go l E K own cc nL ret pc lv (.int y :: .int x :: st) σ r σ' := by
  intro p e s m args below meth c H locs A ls C hP hS hl
  exact lv_icmp_eq C.1 C.2.1 hd ht (fun h => kt h p e s m args below meth c H locs A ls C hP hS hl) (fun h => kf h p e s m args below meth c H locs A ls C hP hS hl)
theorem sw_if_ne {x : Int32} {off : Int} (tgt : Nat) (hd : decode cc pc = .ok (.ifCond .ne off, 3)) (ht : (pc : Int) + off = (tgt : Int)) (kt : ¬ x = 0 → sw_Go l E K own cc nL ret tgt lv st σ r σ') (kf : x = 0 → sw_Go l E K own cc nL ret (pc + 3) lv st σ r σ') : sw_Go l E K own cc nL ret pc lv (.int x :: st) σ r σ' := by
  intro p e s m args below meth c H locs A ls C hP hS hl
  exact lv_if_ne C.1 C.2.1 hd ht (fun h => kt h p e s m args below meth c H locs A ls C hP hS hl) (fun h => kf h p e s m args below meth c H locs A ls C hP hS hl)
theorem sw_icmp_ne {x y : Int32} {off : Int} (tgt : Nat) (hd : decode cc pc = .ok (.if_icmp .ne off, 3)) (ht : (pc : Int) + off = (tgt : Int)) (kt : ¬ x = y → sw_Go l E K own cc nL ret tgt lv st σ r σ') (kf : x = y → sw_Go l E K own cc nL ret (pc + 3) lv st σ r σ') : sw_Go l E K own cc nL ret pc lv (.int y :: .int x :: st) σ r σ' := by
  intro p e s m args below meth c H locs A ls C hP hS hl
  exact lv_icmp_ne C.1 C.2.1 hd ht (fun h => kt h p e s m args below meth c H locs A ls C hP hS hl) (fun h => kf h p e s m args below meth c H locs A ls C hP hS hl)
theorem sw_if_lt {x : Int32} {off : Int} (tgt : Nat) (hd : decode cc pc = .ok (.ifCond .lt off, 3)) (ht : (pc : Int) + off = (tgt : Int)) (kt : x < 0 → sw_Go l E K own cc nL ret tgt lv st σ r σ') (kf : ¬ (x < 0) → sw_Go l E K own cc nL ret (pc + 3) lv st σ r σ') : sw_Go l E K own cc nL ret pc lv (.int x :: st) σ r σ' := by
  intro p e s m args below meth c H locs A ls C hP hS hl
  exact lv_if_lt C.1 C.2.1 hd ht (fun h => kt h p e s m args below meth c H locs A ls C hP hS hl) (fun h => kf h p e s m args below meth c H locs A ls C hP hS hl)
theorem sw_icmp_lt {x y : Int32} {off : Int} (tgt : Nat) (hd : decode cc pc = .ok (.if_icmp .lt off, 3)) (ht : (pc : Int) + off = (tgt : Int)) (kt : x < y → sw_Go l E K own cc nL ret tgt lv st σ r σ') (kf : ¬ (x < y) → sw_Go l E K own cc nL ret (pc + 3) lv st σ r σ') : sw_Go l E K own cc nL ret pc lv (.int y :: .int x :: st) σ r σ' := by
  intro p e s m args below meth c H locs A ls C hP hS hl
  exact lv_icmp_lt C.1 C.2.1 hd ht (fun h => kt h p e s m args below meth c H locs A ls C hP hS hl) (fun h => kf h p e s m args below meth c H locs A ls C hP hS hl)
theorem sw_if_ge {x : Int32} {off : Int} (tgt : Nat) (hd : decode cc pc = .ok (.ifCond .ge off, 3)) (ht : (pc : Int) + off = (tgt : Int)) (kt : 0 ≤ x → sw_Go l E K own cc nL ret tgt lv st σ r σ') (kf : ¬ (0 ≤ x) → sw_Go l E K own cc nL ret (pc + 3) lv st σ r σ') : sw_Go l E K own cc nL ret pc lv (.int x :: st) σ r σ' := by
  intro p e s m args below meth c H locs A ls C hP hS hl
  exact lv_if_ge C.1 C.2.1 hd ht (fun h => kt h p e s m args below meth c H locs A ls C hP hS hl) (fun h => kf h p e s m args below meth c H locs A ls C hP hS hl)
theorem sw_icmp_ge {x y : Int32} {off : Int} (tgt : Nat) (hd : decode cc pc = .ok (.if_icmp .ge off, 3)) (ht : (pc : Int) + off = (tgt : Int)) (kt : y ≤ x → sw_Go l E K own cc nL ret tgt lv st σ r σ') (kf : ¬ (y ≤ x) → sw_Go l E K own cc nL ret (pc + 3) lv st σ r σ') : sw_Go l E K own cc nL ret pc lv (.int y :: .int x :: st) σ r σ' := by
  intro p e s m args below meth c H locs A ls C hP hS hl
  exact lv_icmp_ge C.1 C.2.1 hd ht (fun h => kt h p e s m args below meth c H locs A ls C hP hS hl) (fun h => kf h p e s m args below meth c H locs A ls C hP hS hl)
theorem sw_if_gt {x : Int32} {off : Int} (tgt : Nat) (hd : decode cc pc = .ok (.ifCond .gt off, 3)) (ht : (pc : Int) + off = (tgt : Int)) (kt : 0 < x → sw_Go l E K own cc nL ret tgt lv st σ r σ') (kf : ¬ (0 < x) → sw_Go l E K own cc nL ret (pc + 3) lv st σ r σ') : sw_Go l E K own cc nL ret pc lv (.int x :: st) σ r σ' := by
  intro p e s m args below meth c H locs A ls C hP hS hl
  exact lv_if_gt C.1 C.2.1 hd ht (fun h => kt h p e s m args below meth c H locs A ls C hP hS hl) (fun h => kf h p e s m args below meth c H locs A ls C hP hS hl)
theorem sw_icmp_gt {x y : Int32} {off : Int} (tgt : Nat) (hd : decode cc pc = .ok (.if_icmp .gt off, 3)) (ht : (pc : Int) + off = (tgt : Int)) (kt : y < x → sw_Go l E K own cc nL ret tgt lv st σ r σ') (kf : ¬ (y < x) → sw_Go l E K own cc nL ret (pc + 3) lv st σ r σ') : sw_Go l E K own cc nL ret pc lv (.int y :: .int x :: st) σ r σ' := by
  intro p e s m args below meth c H locs A ls C hP hS hl
  exact lv_icmp_gt C.1 C.2.1 hd ht (fun h => kt h p e s m args below meth c H locs A ls C hP hS hl) (fun h => kf h p e s m args below meth c H locs A ls C hP hS hl)
theorem sw_if_le {x : Int32} {off : Int} (tgt : Nat) (hd : decode cc pc = .ok (.ifCond .le off, 3)) (ht : (pc : Int) + off = (tgt : Int)) (kt : x ≤ 0 → sw_Go l E K own cc nL ret tgt lv st σ r σ') (kf : ¬ (x ≤ 0) → sw_Go l E K own cc nL ret (pc + 3) lv st σ r σ') : sw_Go l E K own cc nL ret pc lv (.int x :: st) σ r σ' := by
  intro p e s m args below meth c H locs A ls C hP hS hl
  exact lv_if_le C.1 C.2.1 hd ht (fun h => kt h p e s m args below meth c H locs A ls C hP hS hl) (fun h => kf h p e s m args below meth c H locs A ls C hP hS hl)
theorem sw_icmp_le {x y : Int32} {off : Int} (tgt : Nat) (hd : decode cc pc = .ok (.if_icmp .le off, 3)) (ht : (pc : Int) + off = (tgt : Int)) (kt : x ≤ y → sw_Go l E K own cc nL ret tgt lv st σ r σ') (kf : ¬ (x ≤ y) → sw_Go l E K own cc nL ret (pc + 3) lv st σ r σ') : sw_Go l E K own cc nL ret pc lv (.int y :: .int x :: st) σ r σ' := by
  intro p e s m args below meth c H locs A ls C hP hS hl
  exact lv_icmp_le C.1 C.2.1 hd ht (fun h => kt h p e s m args below meth c H locs A ls C hP hS hl) (fun h => kf h p e s m args below meth c H locs A ls C hP hS hl)
theorem sw_goto {off : Int} (tgt : Nat) (hd : decode cc pc = .ok (.goto off, 3)) (ht : (pc : Int) + off = (tgt : Int)) (k : sw_Go l E K own cc nL ret tgt lv st σ r σ') : sw_Go l E K own cc nL ret pc lv st σ r σ' := by
  intro p e s m args below meth c H locs A ls C hP hS hl
  exact lv_goto C.1 C.2.1 hd ht (k p e s m args below meth c H locs A ls C hP hS hl)
theorem sw_tabOut {dflt lo hi : Int} {offs : Array Int} {len : Nat} {x : Int32} (tgt : Nat) (hd : decode cc pc = .ok (.tableswitch dflt lo hi offs, len)) (h : x.toInt < lo ∨ hi < x.toInt) (ht : (pc : Int) + dflt = (tgt : Int)) (k : sw_Go l E K own cc nL ret tgt lv st σ r σ') : sw_Go l E K own cc nL ret pc lv (.int x :: st) σ r σ' := by
  intro p e s m args below meth c H locs A ls C hP hS hl
  exact lv_tableOut C.1 C.2.1 hd h ht (k p e s m args below meth c H locs A ls C hP hS hl)
theorem sw_tabIn {dflt lo hi : Int} {offs : Array Int} {len : Nat} {x : Int32} {off : Int} (tgt : Nat) (hd : decode cc pc = .ok (.tableswitch dflt lo hi offs, len)) (h1 : ¬ x.toInt < lo) (h2 : ¬ hi < x.toInt) (ho : offs[(x.toInt - lo).toNat]? = some off) (ht : (pc : Int) + off = (tgt : Int)) (k : sw_Go l E K own cc nL ret tgt lv st σ r σ') : sw_Go l E K own cc nL ret pc lv (.int x :: st) σ r σ' := by
  intro p e s m args below meth c H locs A ls C hP hS hl
  exact lv_tableIn C.1 C.2.1 hd h1 h2 ho ht (k p e s m args below meth c H locs A ls C hP hS hl)
theorem sw_lookup {dflt : Int} {ps : Array (Int × Int)} {len : Nat} {x : Int32} {off : Int} (tgt : Nat) (hd : decode cc pc = .ok (.lookupswitch dflt ps, len)) (hp : (ps.toList.zip (ps.toList.drop 1)).all (fun (a, next) => a.1 < next.1) = true) (ho : Op.lookupswitch.offset ps.toList dflt x.toInt = off) (ht : (pc : Int) + off = (tgt : Int)) (k : sw_Go l E K own cc nL ret tgt lv st σ r σ') : sw_Go l E K own cc nL ret pc lv (.int x :: st) σ r σ' := by
  intro p e s m args below meth c H locs A ls C hP hS hl
  exact lv_lookup C.1 C.2.1 hd hp ho ht (k p e s m args below meth c H locs A ls C hP hS hl)
theorem sw_ldc {index : Nat} {v : Int32} (hc : Cond.constant own index v ∈ sw_T) (hd : decode cc pc = .ok (.ldc index, 2)) (k : sw_Go l E K own cc nL ret (pc + 2) lv (.int v :: st) σ r σ') : sw_Go l E K own cc nL ret pc lv st σ r σ' := by
  intro p e s m args below meth c H locs A ls C hP hS hl
  exact lv_ldc C.1 C.2.1 C.2.2.2.2.2.1 (C.2.2.2.2.2.2.1 _ hc) hd (k p e s m args below meth c H locs A ls C hP hS hl)
theorem sw_ldc2 {index : Nat} {v : Int64} (hc : Cond.constantLong own index v ∈ sw_T) (hd : decode cc pc = .ok (.ldc2_w index, 3)) (k : sw_Go l E K own cc nL ret (pc + 3) lv (.long v :: st) σ r σ') : sw_Go l E K own cc nL ret pc lv st σ r σ' := by
  intro p e s m args below meth c H locs A ls C hP hS hl
  exact lv_ldc2 C.1 C.2.1 C.2.2.2.2.2.1 (C.2.2.2.2.2.2.1 _ hc) hd (k p e s m args below meth c H locs A ls C hP hS hl)
theorem sw_get {i ci k0 index N : Nat} {CN : String} {T : u_T} {v : Value} (hc : sw_cl[ci]? = some (CN, T, N)) (hin : ∀ w ∈ u_ws CN T N, w ∈ sw_T) (hk : k0 < N) (hlink : Cond.fieldLink own index (T k0).1 (T k0).2.1 (T k0).2.2.1 ∈ sw_T) (hv : (sw_fs σ i ci)[k0]? = some v) (hi : i < 84) (hs : sw_s i = (0, ci)) (hd : decode cc pc = .ok (.getfield index, 3)) (k : sw_Go l E K own cc nL ret (pc + 3) lv (v :: st) σ r σ') : sw_Go l E K own cc nL ret pc lv (.ref i :: st) σ r σ' := by
  intro p e s m args below meth c H locs A ls C hP hS hl
  refine va_get (a := E.1 i) (ws := sw_wl E σ) (ci := ci) (v := sw_g E v) (C := CN) (T := T) (N := N) C.1 C.2.1 C.2.2.2.2.2.2.1 hin C.2.2.2.2.2.1 C.2.2.2.2.2.2.2.2.2.1 hP i (fs := (sw_fs σ i ci).map (sw_g E)) (by rw [sw_wl_at E σ hi, sw_ce_o hs]) hc k0 hk (C.2.2.2.2.2.2.1 _ hlink) (fun _ h9 => h9) (by rw [List.getElem?_map, hv]; rfl) hd (k p e s m args below meth c H locs A ls C hP hS hl)
theorem sw_put {i ci k0 index N : Nat} {CN : String} {T : u_T} {ty : FieldType} {v : Value} {σ2 : sw_M} (ty0 : Nat → FieldType) (hc : sw_cl[ci]? = some (CN, T, N)) (hin : ∀ w ∈ u_ws CN T N, w ∈ sw_T) (hty : ∀ k, k < N → parseFieldDescriptor (T k).2.2.1 = some (ty0 k)) (hnm : ∀ a, a < N → ∀ b, b < N → a ≠ b → (T a).2.1 ≠ (T b).2.1) (hk : k0 < N) (hlink : Cond.fieldLink own index (T k0).1 (T k0).2.1 (T k0).2.2.1 ∈ sw_T) (hfin : (T k0).2.2.2 = false) (hdd : parseFieldDescriptor (T k0).2.2.1 = some ty)
    (hlen : k0 < (sw_fk.getD ci []).length) (hi : i < 84) (hs : sw_s i = (0, ci)) (hn : narrow ty (sw_g E v) = sw_g E v) (hfit : fits ty (sw_g E v) = true) (hset : sw_fs σ2 i ci = (sw_fs σ i ci).set k0 v) (ho : ∀ a, a ≠ i → sw_ce E σ2 a = sw_ce E σ a) (hd : decode cc pc = .ok (.putfield index, 3)) (k : sw_Go l E K own cc nL ret (pc + 3) lv st σ2 r σ') : sw_Go l E K own cc nL ret pc lv (v :: .ref i :: st) σ r σ' := by
  intro p e s m args below meth c H locs A ls C hP hS hl
  refine va_put (a := E.1 i) (ws := sw_wl E σ) (ci := ci) (v := sw_g E v) (ty := ty) (C := CN) (T := T) (N := N) C.1 C.2.1 C.2.2.2.2.2.2.1 hin ty0 hty hnm C.2.2.2.2.2.1 C.2.2.2.2.2.2.2.2.2.1 hP (C.2.2.2.2.2.2.2.2.2.2.1 σ) hS i (fs := (sw_fs σ i ci).map (sw_g E)) (by rw [sw_wl_at E σ hi, sw_ce_o hs]) hc k0 hk (C.2.2.2.2.2.2.1 _ hlink) (fun _ h9 => h9) hfin hdd hn hfit (by rw [List.length_map, sw_fs_len]; exact hlen) hd (fun H1 locs1 hP1 hD1 hS1 => ?_)
  rw [← List.map_set, ← hset, sw_wl_set E σ σ2 (sw_ce_o hs) ho] at hP1
  exact k p e s m args below meth c H1 locs1 A ls C hP1 hS1 hl
theorem sw_putI {i ci k0 index N : Nat} {CN : String} {T : u_T} {ty : FieldType} {x : Int32} (ty0 : Nat → FieldType) (hc : sw_cl[ci]? = some (CN, T, N)) (hin : ∀ w ∈ u_ws CN T N, w ∈ sw_T) (hty : ∀ k, k < N → parseFieldDescriptor (T k).2.2.1 = some (ty0 k)) (hnm : ∀ a, a < N → ∀ b, b < N → a ≠ b → (T a).2.1 ≠ (T b).2.1) (hk : k0 < N) (hlink : Cond.fieldLink own index (T k0).1 (T k0).2.1 (T k0).2.2.1 ∈ sw_T) (hfin : (T k0).2.2.2 = false) (hdd : parseFieldDescriptor (T k0).2.2.1 = some ty)
    (hk0 : (sw_fk.getD ci [])[k0]? = some 0) (hi : i < 84) (hs : sw_s i = (0, ci)) (hn : narrow ty (.int x) = .int x) (hfit : fits ty (.int x) = true) (hd : decode cc pc = .ok (.putfield index, 3)) (k : sw_Go l E K own cc nL ret (pc + 3) lv st (sw_w σ i k0 x) r σ') : sw_Go l E K own cc nL ret pc lv (.int x :: .ref i :: st) σ r σ' :=
  sw_put (v := .int x) ty0 hc hin hty hnm hk hlink hfin hdd (List.getElem?_eq_some_iff.mp hk0).1 hi hs hn hfit (sw_fs_w σ i ci k0 x hk0) (sw_ce_wA E σ i _) hd k
theorem sw_putL {i ci k0 index N : Nat} {CN : String} {T : u_T} {x : Int64} (ty0 : Nat → FieldType) (hc : sw_cl[ci]? = some (CN, T, N)) (hin : ∀ w ∈ u_ws CN T N, w ∈ sw_T) (hty : ∀ k, k < N → parseFieldDescriptor (T k).2.2.1 = some (ty0 k)) (hnm : ∀ a, a < N → ∀ b, b < N → a ≠ b → (T a).2.1 ≠ (T b).2.1) (hk : k0 < N) (hlink : Cond.fieldLink own index (T k0).1 (T k0).2.1 (T k0).2.2.1 ∈ sw_T) (hfin : (T k0).2.2.2 = false) (hdd : parseFieldDescriptor (T k0).2.2.1 = some .long)
    (hk0 : (sw_fk.getD ci [])[k0]? = some 1) (hi : i < 84) (hs : sw_s i = (0, ci)) (hd : decode cc pc = .ok (.putfield index, 3)) (k : sw_Go l E K own cc nL ret (pc + 3) lv st (sw_wL σ i k0 x) r σ') : sw_Go l E K own cc nL ret pc lv (.long x :: .ref i :: st) σ r σ' :=
  sw_put (v := .long x) ty0 hc hin hty hnm hk hlink hfin hdd (List.getElem?_eq_some_iff.mp hk0).1 hi hs rfl rfl (sw_fs_wL σ i ci k0 x hk0) (sw_ce_wL E σ i k0 x) hd k
theorem sw_iaload {a n : Nat} {i : Int32} (ha : a < 84) (hs : sw_s a = (1, n)) (hin : vp_in i n) (hd : decode cc pc = .ok (.iaload, 1)) (k : sw_Go l E K own cc nL ret (pc + 1) lv (.int (σ.1 a i.toNatClampNeg) :: st) σ r σ') : sw_Go l E K own cc nL ret pc lv (.int i :: .ref a :: st) σ r σ' := by
  intro p e s m args below meth c H locs A ls C hP hS hl
  exact va_iald (a := E.1 a) (ws := sw_wl E σ) C.1 C.2.1 C.2.2.2.2.2.2.2.2.2.1 hP a a (cA := E.2.1 a) (n := n) (f := σ.1 a) (by rw [sw_wl_at E σ ha, sw_ce_i hs (by decide) (by decide)]) (by rw [sw_ty_at E ha, hs]; rfl) hin hd (k p e s m args below meth c H locs A ls C hP hS hl)
theorem sw_baload {a n : Nat} {i : Int32} (ha : a < 84) (hs : sw_s a = (2, n)) (hin : vp_in i n) (hd : decode cc pc = .ok (.baload, 1)) (k : sw_Go l E K own cc nL ret (pc + 1) lv (.int (σ.1 a i.toNatClampNeg) :: st) σ r σ') : sw_Go l E K own cc nL ret pc lv (.int i :: .ref a :: st) σ r σ' := by
  intro p e s m args below meth c H locs A ls C hP hS hl
  exact va_bald (a := E.1 a) (ws := sw_wl E σ) C.1 C.2.1 C.2.2.2.2.2.2.2.2.2.1 hP a a (cA := E.2.1 a) (n := n) (f := σ.1 a) (by rw [sw_wl_at E σ ha, sw_ce_i hs (by decide) (by decide)]) (by rw [sw_ty_at E ha, hs]; rfl) hin hd (k p e s m args below meth c H locs A ls C hP hS hl)
theorem sw_zaload {a n : Nat} {i : Int32} (ha : a < 84) (hs : sw_s a = (3, n)) (hin : vp_in i n) (hd : decode cc pc = .ok (.baload, 1)) (k : sw_Go l E K own cc nL ret (pc + 1) lv (.int (σ.1 a i.toNatClampNeg) :: st) σ r σ') : sw_Go l E K own cc nL ret pc lv (.int i :: .ref a :: st) σ r σ' := by
  intro p e s m args below meth c H locs A ls C hP hS hl
  exact va_zald (a := E.1 a) (ws := sw_wl E σ) C.1 C.2.1 C.2.2.2.2.2.2.2.2.2.1 hP a a (cA := E.2.1 a) (n := n) (f := σ.1 a) (by rw [sw_wl_at E σ ha, sw_ce_i hs (by decide) (by decide)]) (by rw [sw_ty_at E ha, hs]; rfl) hin hd (k p e s m args below meth c H locs A ls C hP hS hl)
theorem sw_laload {a n : Nat} {i : Int32} (ha : a < 84) (hs : sw_s a = (4, n)) (hin : vp_in i n) (hd : decode cc pc = .ok (.laload, 1)) (k : sw_Go l E K own cc nL ret (pc + 1) lv (.long (σ.2.1 a i.toNatClampNeg) :: st) σ r σ') : sw_Go l E K own cc nL ret pc lv (.int i :: .ref a :: st) σ r σ' := by
  intro p e s m args below meth c H locs A ls C hP hS hl
  exact va_lald (a := E.1 a) (ws := sw_wl E σ) C.1 C.2.1 C.2.2.2.2.2.2.2.2.2.1 hP a a (cA := E.2.1 a) (n := n) (f := σ.2.1 a) (by rw [sw_wl_at E σ ha, sw_ce_l hs]) (by rw [sw_ty_at E ha, hs]; rfl) hin hd (k p e s m args below meth c H locs A ls C hP hS hl)
theorem sw_iastore {a n : Nat} {i x : Int32} (ha : a < 84) (hs : sw_s a = (1, n)) (hin : vp_in i n) (hd : decode cc pc = .ok (.iastore, 1)) (k : sw_Go l E K own cc nL ret (pc + 1) lv st (sw_w σ a i.toNatClampNeg (x)) r σ') : sw_Go l E K own cc nL ret pc lv (.int x :: .int i :: .ref a :: st) σ r σ' := by
  intro p e s m args below meth c H locs A ls C hP hS hl
  refine va_iast (a := E.1 a) (ws := sw_wl E σ) C.1 C.2.1 C.2.2.2.2.2.2.2.2.2.1 hP (C.2.2.2.2.2.2.2.2.2.2.1 σ) hS a a (cA := E.2.1 a) (n := n) (f := σ.1 a) (by rw [sw_wl_at E σ ha, sw_ce_i hs (by decide) (by decide)]) (by rw [sw_ty_at E ha, hs]; rfl) hin hd (fun H1 locs1 hP1 hD1 hS1 => ?_)
  rw [sw_wl_set E σ (sw_w σ a i.toNatClampNeg (x)) (by rw [sw_ce_i hs (by decide) (by decide), sw_w, sw_wA_self]) (sw_ce_wA E σ a _)] at hP1
  exact k p e s m args below meth c H1 locs1 A ls C hP1 hS1 hl
theorem sw_bastore {a n : Nat} {i x : Int32} (ha : a < 84) (hs : sw_s a = (2, n)) (hin : vp_in i n) (hd : decode cc pc = .ok (.bastore, 1)) (k : sw_Go l E K own cc nL ret (pc + 1) lv st (sw_w σ a i.toNatClampNeg (vp_nar .byte x)) r σ') : sw_Go l E K own cc nL ret pc lv (.int x :: .int i :: .ref a :: st) σ r σ' := by
  intro p e s m args below meth c H locs A ls C hP hS hl
  refine va_bast (a := E.1 a) (ws := sw_wl E σ) C.1 C.2.1 C.2.2.2.2.2.2.2.2.2.1 hP (C.2.2.2.2.2.2.2.2.2.2.1 σ) hS a a (cA := E.2.1 a) (n := n) (f := σ.1 a) (by rw [sw_wl_at E σ ha, sw_ce_i hs (by decide) (by decide)]) (by rw [sw_ty_at E ha, hs]; rfl) hin hd (fun H1 locs1 hP1 hD1 hS1 => ?_)
  rw [sw_wl_set E σ (sw_w σ a i.toNatClampNeg (vp_nar .byte x)) (by rw [sw_ce_i hs (by decide) (by decide), sw_w, sw_wA_self]) (sw_ce_wA E σ a _)] at hP1
  exact k p e s m args below meth c H1 locs1 A ls C hP1 hS1 hl
theorem sw_zastore {a n : Nat} {i x : Int32} (ha : a < 84) (hs : sw_s a = (3, n)) (hin : vp_in i n) (hd : decode cc pc = .ok (.bastore, 1)) (k : sw_Go l E K own cc nL ret (pc + 1) lv st (sw_w σ a i.toNatClampNeg (vp_nar .boolean x)) r σ') : sw_Go l E K own cc nL ret pc lv (.int x :: .int i :: .ref a :: st) σ r σ' := by
  intro p e s m args below meth c H locs A ls C hP hS hl
  refine va_zast (a := E.1 a) (ws := sw_wl E σ) C.1 C.2.1 C.2.2.2.2.2.2.2.2.2.1 hP (C.2.2.2.2.2.2.2.2.2.2.1 σ) hS a a (cA := E.2.1 a) (n := n) (f := σ.1 a) (by rw [sw_wl_at E σ ha, sw_ce_i hs (by decide) (by decide)]) (by rw [sw_ty_at E ha, hs]; rfl) hin hd (fun H1 locs1 hP1 hD1 hS1 => ?_)
  rw [sw_wl_set E σ (sw_w σ a i.toNatClampNeg (vp_nar .boolean x)) (by rw [sw_ce_i hs (by decide) (by decide), sw_w, sw_wA_self]) (sw_ce_wA E σ a _)] at hP1
  exact k p e s m args below meth c H1 locs1 A ls C hP1 hS1 hl
theorem sw_lastore {a n : Nat} {i : Int32} {x : Int64} (ha : a < 84) (hs : sw_s a = (4, n)) (hin : vp_in i n) (hd : decode cc pc = .ok (.lastore, 1)) (k : sw_Go l E K own cc nL ret (pc + 1) lv st (sw_wL σ a i.toNatClampNeg x) r σ') : sw_Go l E K own cc nL ret pc lv (.long x :: .int i :: .ref a :: st) σ r σ' := by
  intro p e s m args below meth c H locs A ls C hP hS hl
  refine va_last (a := E.1 a) (ws := sw_wl E σ) C.1 C.2.1 C.2.2.2.2.2.2.2.2.2.1 hP (C.2.2.2.2.2.2.2.2.2.2.1 σ) hS a a (cA := E.2.1 a) (n := n) (f := σ.2.1 a) (by rw [sw_wl_at E σ ha, sw_ce_l hs]) (by rw [sw_ty_at E ha, hs]; rfl) hin hd (fun H1 locs1 hP1 hD1 hS1 => ?_)
  rw [sw_wl_set E σ (sw_wL σ a i.toNatClampNeg x) (by rw [sw_ce_l hs, sw_wL_self]) (sw_ce_wL E σ a _ _)] at hP1
  exact k p e s m args below meth c H1 locs1 A ls C hP1 hS1 hl
theorem sw_alen {a t n : Nat} {v : Int32} (ha : a < 84) (hs : sw_s a = (t, n)) (ht : t ≠ 0) (hv : Int32.ofNat n = v) (hd : decode cc pc = .ok (.arraylength, 1)) (k : sw_Go l E K own cc nL ret (pc + 1) lv (.int v :: st) σ r σ') : sw_Go l E K own cc nL ret pc lv (.ref a :: st) σ r σ' := by
  intro p e s m args below meth c H locs A ls C hP hS hl
  by_cases h4 : t = 4
  · subst h4
    exact va_alen (a := E.1 a) (ws := sw_wl E σ) C.1 C.2.1 C.2.2.2.2.2.2.2.2.2.1 hP a a (cA := E.2.1 a) (x := (n, .inr (.inl (σ.2.1 a)))) (by rw [sw_wl_at E σ ha, sw_ce_l hs]) (sw_ty_at E ha) hv hd (k p e s m args below meth c H locs A ls C hP hS hl)
  · exact va_alen (a := E.1 a) (ws := sw_wl E σ) C.1 C.2.1 C.2.2.2.2.2.2.2.2.2.1 hP a a (cA := E.2.1 a) (x := (n, .inl (σ.1 a))) (by rw [sw_wl_at E σ ha, sw_ce_i hs ht h4]) (sw_ty_at E ha) hv hd (k p e s m args below meth c H locs A ls C hP hS hl)
theorem sw_vret (hd : decode cc pc = .ok (.return_, 1)) : sw_Go l E K own cc nL none pc lv [] σ none σ := by
  intro p e s m args below meth c H locs A ls C hP hS hl
  have hlocks : meth.locks = false := C.2.2.2.2.1
  exact W.vret C.1 C.2.1 C.2.2.2.1 (fun t ht hW => ⟨rfl, by rw [ht]; exact hP, va_K.moved hW.alike C.2.2.2.2.2.2.2.2.2.1, hS.F ht⟩) hS.2.2 hd
theorem sw_iret {v : Int32} (hd : decode cc pc = .ok (.ireturn, 1)) : sw_Go l E K own cc nL (some .int) pc lv [.int v] σ (some (.int v)) σ := by
  intro p e s m args below meth c H locs A ls C hP hS hl
  have hlocks : meth.locks = false := C.2.2.2.2.1
  exact W.iret C.1 C.2.1 C.2.2.2.1 (fun t ht hW => ⟨rfl, by rw [ht]; exact hP, va_K.moved hW.alike C.2.2.2.2.2.2.2.2.2.1, hS.F ht⟩) hS.2.2 hd
theorem sw_lret {v : Int64} (hd : decode cc pc = .ok (.lreturn, 1)) : sw_Go l E K own cc nL (some .long) pc lv [.long v] σ (some (.long v)) σ := by
  intro p e s m args below meth c H locs A ls C hP hS hl
  have hlocks : meth.locks = false := C.2.2.2.2.1
  exact W.lret C.1 C.2.1 C.2.2.2.1 (fun t ht hW => ⟨rfl, by rw [ht]; exact hP, va_K.moved hW.alike C.2.2.2.2.2.2.2.2.2.1, hS.F ht⟩) hS.2.2 hd
theorem sw_zret {v : Int32} {ty : FieldType} (hn : narrow ty (.int v) = .int v) (hd : decode cc pc = .ok (.ireturn, 1)) : sw_Go l E K own cc nL (some ty) pc lv [.int v] σ (some (.int v)) σ := by
  intro p e s m args below meth c H locs A ls C hP hS hl
  have hlocks : meth.locks = false := C.2.2.2.2.1
  exact W.zret C.1 C.2.1 C.2.2.2.1 hn (fun t ht hW => ⟨rfl, by rw [ht]; exact hP, va_K.moved hW.alike C.2.2.2.2.2.2.2.2.2.1, hS.F ht⟩) hS.2.2 hd
end GO
end
section
theorem sw_blind (E : sw_E) (As : List Value) (σ : sw_M) (sz : Nat) : FrameBlind (sw_Pc E As σ sz) := by
  intro a U g mk q
  obtain ⟨q0, q1, hMv, hX, qP, qK, qD⟩ := q
  exact ⟨q0, q1, hMv, hMv.2 _ U _ _ rfl hX, qP, va_K.moved (u := U) (U := U.calling g mk a) (Vm.Alike.refl U.vm) qK, qD⟩
theorem sw_goodV {own : String} {index : Nat} {CN : String} {y : MethodName} {cc2 : ByteArray} {nL2 : Nat} {ret2 : Option FieldType} (hlink : Cond.methodLink own index y ∈ sw_T) (hinst : Cond.instanceMethod y ∈ sw_T) (hsel : Cond.selects CN y y ∈ sw_T) (hini : Cond.initialized CN ∈ sw_T) (hcode : Cond.code y cc2 nL2 ret2 ∈ sw_T) : GoodIn sw_T (wsV own index CN y (.code y cc2 nL2 ret2 :: sw_T)) := by
  intro w hw
  have hm : w ∈ sw_T := by
    simp only [wsV, List.cons_append, List.nil_append, List.mem_cons] at hw
    rcases hw with h | h | h | h | h | h
    · rw [h]; exact hlink
    · rw [h]; exact hinst
    · rw [h]; exact hsel
    · rw [h]; exact hini
    · rw [h]; exact hcode
    · exact h
  exact ⟨hm, sw_T_good w hm⟩
theorem sw_goodS {own : String} {index : Nat} {y : MethodName} {cc2 : ByteArray} {nL2 : Nat} {ret2 : Option FieldType} (hlink : Cond.methodLink own index y ∈ sw_T) (hst : Cond.static y ∈ sw_T) (hini : Cond.initialized y.cls ∈ sw_T) (hcode : Cond.code y cc2 nL2 ret2 ∈ sw_T) : GoodIn sw_T (va_wsS own index y (.code y cc2 nL2 ret2 :: sw_T)) := by
  intro w hw
  have hm : w ∈ sw_T := by
    simp only [va_wsS, List.cons_append, List.nil_append, List.mem_cons] at hw
    rcases hw with h | h | h | h | h
    · rw [h]; exact hlink
    · rw [h]; exact hst
    · rw [h]; exact hini
    · rw [h]; exact hcode
    · exact h
  exact ⟨hm, sw_T_good w hm⟩
section CALL
variable {l : Launch} {E : sw_E} {K : Nat} {own : String} {cc : ByteArray} {nL : Nat} {ret : Option FieldType} {pc : Nat} {lv lv' : List (Nat × Value)} {st st0 : List Value} {σ σ' : sw_M} {r : Option Value}
theorem sw_cat_sum (E : sw_E) (st : List Value) : ((st.map (sw_g E)).map fun v => v.category).sum = (st.map fun v => v.category).sum := by
  rw [List.map_map]
  congr 1
  apply List.map_congr_left
  intro v _
  exact sw_g_cat E v
theorem sw_free {A : Nat → Prop} {H0 H : Heap} {locs : List Loc} (hD : va_D A (sw_wl E σ)) (hS : va_S A H0 H locs) (hA : ∀ q, H0.size ≤ q → A q) : ∀ q, va_A (sw_wl E σ) H.size q → A q := by
  intro q h
  rcases h with ⟨k, e, h⟩ | h
  · exact hD.2 k (q, e) h
  · exact hA q (Nat.le_trans hS.1 h)
/-- behind a call -/
theorem sw_after {p : Program} {e : Env} {s : State} {m : MethodId} {args : Array Value} {below : List Frame} {meth : Method} {c : Code} {H : Heap} {locs : List Loc} {A A1 : Nat → Prop} {ls : Array Slot} {r2 : Option Value} {σ2 : sw_M} {a : Array Value} {Q : State → Prop}
    (hr : va_Run p l e (sw_rm K) s m args below meth c H locs 0 0 0 0 (F0 m pc ls (st0.map (sw_g E))) (st.map (sw_g E)) (sw_Qc E r2 σ2 A1 a) A1) (hS : va_S A s.heap H locs) (hA : ∀ q, A1 q → A q)
    (kk : ∀ (H1 : Heap) (locs1 : List Loc), va_P (sw_D E) sw_cl (sw_wl E σ2) H1 → va_S A s.heap H1 locs1 → W p l e (sw_rm K) s m args below meth c H1 locs1 0 0 Q (F0 m (pc + 3) ls ((r2.toList ++ st).map (sw_g E)))) : W p l e (sw_rm K) s m args below meth c H locs 0 0 Q (F0 m pc ls (st0.map (sw_g E))) := by
  intro T hT X
  obtain ⟨v, st₀, t, T', L, h0, X', hL, e1, e2, ⟨hv, hP2, hK2, hz, hk⟩, stp⟩ := hr T hT X
  injection hv with hv
  rw [h0] at hz hk
  have hS1 : va_S A s.heap T'.heap (locs ++ L) := ⟨Nat.le_trans hS.1 (by rw [e1]; exact hz), fun q h1 h2 => by rw [e1, hk q (Nat.lt_of_lt_of_le h1 hS.1) (fun z => h2 (hA q z))]; exact hS.2.1 q h1 h2, fun q hq => by
      rcases List.mem_append.mp hq with h | h
      · exact hS.2.2 q h
      · exact hA _ (hL q h)⟩
  obtain ⟨t2, a1, b1⟩ := kk T'.heap (locs ++ L) (by rw [e1]; exact hP2) hS1 T' rfl X'
  refine ⟨t2, stp t2 ?_, b1⟩
  have hst : v.toList ++ st.map (sw_g E) = (r2.toList ++ st).map (sw_g E) := by
    rw [hv, List.map_append]
    cases r2 <;> rfl
  rw [hst]
  exact a1
theorem sw_callV {K2 : Nat} {y : MethodName} {cc2 : ByteArray} {nL2 : Nat} {ret2 : Option FieldType} {i ci index n N : Nat} {CN : String} {T : u_T} {r2 : Option Value} {σ2 : sw_M} (As : List Value)
    (hM : sw_Ct l E K2 y cc2 nL2 ret2 (.ref i :: As) σ r2 σ2) (hst : st0 = As.reverse ++ .ref i :: st) (hK : K2 + 1 ≤ K)
    (hc : sw_cl[ci]? = some (CN, T, N)) (hG : GoodIn sw_T (wsV own index CN y (.code y cc2 nL2 ret2 :: sw_T)))
    (hy : y.cls = CN ∧ y.cls ≠ "java/lang/invoke/MethodHandle" ∧ y.cls ≠ "java/lang/invoke/VarHandle" ∧ (parseMethodDescriptor y.desc).map (fun d => d.parameters.length) = some n) (hL : nL2 ≤ 40)
    (hi : i < 84) (hs : sw_s i = (0, ci)) (hn : As.length = n) (hroom : (st.map fun v => v.category).sum ≤ 8) (hd : decode cc pc = .ok (.invokevirtual index, 3))
    (k : sw_Go l E K own cc nL ret (pc + 3) lv (r2.toList ++ st) σ2 r σ') : sw_Go l E K own cc nL ret pc lv st0 σ r σ' := by
  intro p e s m args below meth c H locs A ls C hP hS hl
  obtain ⟨hx, hb, hml, hr, hlk, hown, hts, hMv, hX, hK0, hD, hA⟩ := id C
  have hF := sw_free (hD σ) hS hA
  have run := va_runV (l := l) (e := e) (below := below) (meth := meth) (R := sw_rm K) (H := H) (locs := locs) (cells := 0) (slots := 0) (nL := nL) (As := As.map (sw_g E)) (rest := st.map (sw_g E)) (b := E.1 i) (g := F0 m pc ls (st0.map (sw_g E))) ⟨hx, hb, hml, hown, hts⟩ (hM H.size) (cwV n hts hG rfl rfl rfl hy ⟨hK, by show 8 + (nL2 + 11) + 64 * K2 ≤ 64 * K; omega⟩)
    ⟨sw_blind E _ σ _, va_recv hK0 hP hc (q0 := i) (by rw [sw_wl_at E σ hi, sw_ce_o hs]), fun U hU hW => ⟨rfl, by rw [hU], hMv, by rw [hU]; exact hMv.1 A _ s U s.heap H hX hS.2.1 hF hW, by rw [hU]; exact hP, va_K.moved hW.alike hK0, (hD σ).weaken (fun _ _ _ _ => trivial)⟩⟩
    rfl (by rw [List.length_map]; exact hn) hl.1 (by show st0.map (sw_g E) = _; rw [hst]; simp [sw_g]) (lv_room (by rw [sw_cat_sum]; exact hroom)) hd ⟨Nat.le_refl _, Nat.le_refl _⟩
  exact sw_after run hS hF (fun H1 locs1 hP1 hS1 => k p e s m args below meth c H1 locs1 A ls C hP1 hS1 hl)
theorem sw_callS {K2 : Nat} {y : MethodName} {cc2 : ByteArray} {nL2 : Nat} {ret2 : Option FieldType} {index n : Nat} {r2 : Option Value} {σ2 : sw_M} (As : List Value)
    (hM : sw_Ct l E K2 y cc2 nL2 ret2 As σ r2 σ2) (hst : st0 = As.reverse ++ st) (hK : K2 + 1 ≤ K)
    (hG : GoodIn sw_T (va_wsS own index y (.code y cc2 nL2 ret2 :: sw_T)))
    (hy : y.cls ≠ "java/lang/invoke/MethodHandle" ∧ y.cls ≠ "java/lang/invoke/VarHandle" ∧ (parseMethodDescriptor y.desc).map (fun d => d.parameters.length) = some n) (hL : nL2 ≤ 40)
    (hn : As.length = n) (hroom : (st.map fun v => v.category).sum ≤ 8) (hd : decode cc pc = .ok (.invokestatic index, 3))
    (k : sw_Go l E K own cc nL ret (pc + 3) lv (r2.toList ++ st) σ2 r σ') : sw_Go l E K own cc nL ret pc lv st0 σ r σ' := by
  intro p e s m args below meth c H locs A ls C hP hS hl
  obtain ⟨hx, hb, hml, hr, hlk, hown, hts, hMv, hX, hK0, hD, hA⟩ := id C
  have hF := sw_free (hD σ) hS hA
  have run := va_runS (l := l) (e := e) (below := below) (meth := meth) (R := sw_rm K) (H := H) (locs := locs) (cells := 0) (slots := 0) (nL := nL) (As := As.map (sw_g E)) (rest := st.map (sw_g E)) (g := F0 m pc ls (st0.map (sw_g E))) ⟨hx, hb, hml, hown, hts⟩ (hM H.size) (va_cwS n hts hG rfl rfl rfl hy ⟨hK, by show 8 + (nL2 + 11) + 64 * K2 ≤ 64 * K; omega⟩)
    ⟨sw_blind E _ σ _, fun U hU hW => ⟨rfl, by rw [hU], hMv, by rw [hU]; exact hMv.1 A _ s U s.heap H hX hS.2.1 hF hW, by rw [hU]; exact hP, va_K.moved hW.alike hK0, (hD σ).weaken (fun _ _ _ _ => trivial)⟩⟩
    rfl (by rw [List.length_map]; exact hn) hl.1 (by show st0.map (sw_g E) = _; rw [hst]; simp) (lv_room (by rw [sw_cat_sum]; exact hroom)) hd ⟨Nat.le_refl _, Nat.le_refl _⟩
  exact sw_after run hS hF (fun H1 locs1 hP1 hS1 => k p e s m args below meth c H1 locs1 A ls C hP1 hS1 hl)
/-- the first j places from p on, copied from f to g -/
theorem sw_acopy {a0 a n0 n1 index : Nat} {sp dp n : Int32} (hlink : Cond.methodLink own index arraycopyName ∈ sw_T) (hnat : Cond.native arraycopyName ∈ sw_T) (hstat : Cond.static arraycopyName ∈ sw_T) (hini : Cond.initialized "java/lang/System" ∈ sw_T)
    (ha0 : a0 < 84) (hs0 : sw_s a0 = (1, n0)) (ha : a < 84) (hs : sw_s a = (1, n1)) (h1 : ¬ sp < 0) (h2 : ¬ dp < 0) (h3 : ¬ n < 0) (h4 : sp.toNatClampNeg + n.toNatClampNeg ≤ n0) (h5 : dp.toNatClampNeg + n.toNatClampNeg ≤ n1) (hK : 1 ≤ K) (hroom : (st.map fun v => v.category).sum ≤ 8)
    (hd : decode cc pc = .ok (.invokestatic index, 3)) (k : sw_Go l E K own cc nL ret (pc + 3) lv st (sw_wA σ a (va_cpy (σ.1 a0) (σ.1 a) sp.toNatClampNeg dp.toNatClampNeg n.toNatClampNeg)) r σ') : sw_Go l E K own cc nL ret pc lv (.int n :: .int dp :: .ref a :: .int sp :: .ref a0 :: st) σ r σ' := by
  intro p e s m args below meth c H locs A ls C hP hS hl
  obtain ⟨hx, hb, hml, hr, hlk, hown, hts, hMv, hX, hK0, hD, hA⟩ := id C
  refine va_copyi (a := E.1 a) (ws := sw_wl E σ) hx hb (by rw [hml]; exact hl.1.symm) hown (hts _ hlink) (hts _ hnat) (hts _ hstat) (hts _ hini) hK0 hP (hD σ) hS a0 a a0 a (a0 := E.1 a0) (c0 := E.2.1 a0) (c1 := E.2.1 a) (n0 := n0) (n1 := n1) (f := σ.1 a0) (g := σ.1 a) (ty := .int)
    (by rw [sw_wl_at E σ ha0, sw_ce_i hs0 (by decide) (by decide)]) (by rw [sw_wl_at E σ ha, sw_ce_i hs (by decide) (by decide)]) (by rw [sw_ty_at E ha0, hs0]; rfl) (by rw [sw_ty_at E ha, hs]; rfl) rfl h1 h2 h3 h4 h5 (fun _ _ => rfl) hK (by
      show ((st.map (sw_g E)).map fun v => v.category).sum + (nativeFrameWords "java/lang/System" "arraycopy" 5 + 11) ≤ 64 * K
      rw [sw_cat_sum]
      have : nativeFrameWords "java/lang/System" "arraycopy" 5 + 11 ≤ 56 := by decide +kernel
      omega) hd (fun H1 locs1 hP1 hD1 hS1 => ?_)
  rw [sw_wl_set E σ (sw_wA σ a (va_cpy (σ.1 a0) (σ.1 a) sp.toNatClampNeg dp.toNatClampNeg n.toNatClampNeg)) (by rw [sw_ce_i hs (by decide) (by decide), sw_wA_self]) (sw_ce_wA E σ a _)] at hP1
  exact k p e s m args below meth c H1 locs1 A ls C hP1 hS1 hl
end CALL
end
