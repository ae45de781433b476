section
-- ===== PART A: goes FIRST, ahead of the names: the tables' words, and 'selects' of the private methods out of them =====
/-- a private method of a class that the tables say can be made, by its rows of tables_1 -/
def lw_okq (q : MethodName × Nat) : Prop := (q.1.cls ≠ "java/lang/invoke/MethodHandle" ∧ q.1.cls ≠ "java/lang/invoke/VarHandle") ∧ Cond.instantiable q.1.cls q.2 ∈ tables_1 ∧ Cond.privateMethod q.1 ∈ tables_1 ∧ Cond.instanceMethod q.1 ∈ tables_1
theorem lw_p0 : lw_okq (⟨"LabelVault", "breakDown", "()I"⟩, 4) := ⟨⟨by decide +kernel, by decide +kernel⟩, List.mem_of_getElem? (i := 22) (by decide +kernel), List.mem_of_getElem? (i := 61) (by decide +kernel), List.mem_of_getElem? (i := 62) (by decide +kernel)⟩
theorem lw_p1 : lw_okq (⟨"LabelVault", "hasArea", "(I)Z"⟩, 4) := ⟨⟨by decide +kernel, by decide +kernel⟩, List.mem_of_getElem? (i := 22) (by decide +kernel), List.mem_of_getElem? (i := 97) (by decide +kernel), List.mem_of_getElem? (i := 98) (by decide +kernel)⟩
theorem lw_p2 : lw_okq (⟨"LabelVault", "hasSession", "(I)Z"⟩, 4) := ⟨⟨by decide +kernel, by decide +kernel⟩, List.mem_of_getElem? (i := 22) (by decide +kernel), List.mem_of_getElem? (i := 131) (by decide +kernel), List.mem_of_getElem? (i := 132) (by decide +kernel)⟩
theorem lw_p3 : lw_okq (⟨"java/lang/Throwable", "fillInStackTrace", "(I)Ljava/lang/Throwable;"⟩, 6) := ⟨⟨by decide +kernel, by decide +kernel⟩, List.mem_of_getElem? (i := 194) (by decide +kernel), List.mem_of_getElem? (i := 192) (by decide +kernel), List.mem_of_getElem? (i := 193) (by decide +kernel)⟩
theorem lw_p4 : lw_okq (⟨"LabelVault", "hasLabel", "(I)Z"⟩, 4) := ⟨⟨by decide +kernel, by decide +kernel⟩, List.mem_of_getElem? (i := 22) (by decide +kernel), List.mem_of_getElem? (i := 224) (by decide +kernel), List.mem_of_getElem? (i := 225) (by decide +kernel)⟩
theorem lw_p5 : lw_okq (⟨"LabelVault", "areaNumbered", "(I)LLabelVault$Area;"⟩, 4) := ⟨⟨by decide +kernel, by decide +kernel⟩, List.mem_of_getElem? (i := 22) (by decide +kernel), List.mem_of_getElem? (i := 349) (by decide +kernel), List.mem_of_getElem? (i := 350) (by decide +kernel)⟩
theorem lw_p6 : lw_okq (⟨"LabelVault", "areaOf", "(I)LLabelVault$Area;"⟩, 4) := ⟨⟨by decide +kernel, by decide +kernel⟩, List.mem_of_getElem? (i := 22) (by decide +kernel), List.mem_of_getElem? (i := 368) (by decide +kernel), List.mem_of_getElem? (i := 369) (by decide +kernel)⟩
theorem lw_p7 : lw_okq (⟨"LabelVault", "kindsSeen", "(II)I"⟩, 4) := ⟨⟨by decide +kernel, by decide +kernel⟩, List.mem_of_getElem? (i := 22) (by decide +kernel), List.mem_of_getElem? (i := 398) (by decide +kernel), List.mem_of_getElem? (i := 399) (by decide +kernel)⟩
theorem lw_p8 : lw_okq (⟨"LabelVault", "isOpenTo", "(II)Z"⟩, 4) := ⟨⟨by decide +kernel, by decide +kernel⟩, List.mem_of_getElem? (i := 22) (by decide +kernel), List.mem_of_getElem? (i := 402) (by decide +kernel), List.mem_of_getElem? (i := 403) (by decide +kernel)⟩
theorem lw_p9 : lw_okq (⟨"LabelVault$Tree", "childNamed", "(II)I"⟩, 1) := ⟨⟨by decide +kernel, by decide +kernel⟩, List.mem_of_getElem? (i := 275) (by decide +kernel), List.mem_of_getElem? (i := 422) (by decide +kernel), List.mem_of_getElem? (i := 423) (by decide +kernel)⟩
theorem lw_p10 : lw_okq (⟨"LabelVault$Tree", "take", "(III)I"⟩, 1) := ⟨⟨by decide +kernel, by decide +kernel⟩, List.mem_of_getElem? (i := 275) (by decide +kernel), List.mem_of_getElem? (i := 469) (by decide +kernel), List.mem_of_getElem? (i := 470) (by decide +kernel)⟩
theorem lw_p11 : lw_okq (⟨"LabelVault", "finish", "(LLabelVault$Area;I)I"⟩, 4) := ⟨⟨by decide +kernel, by decide +kernel⟩, List.mem_of_getElem? (i := 22) (by decide +kernel), List.mem_of_getElem? (i := 485) (by decide +kernel), List.mem_of_getElem? (i := 486) (by decide +kernel)⟩
theorem lw_p12 : lw_okq (⟨"LabelVault$Disk", "changedBlocks", "()I"⟩, 6) := ⟨⟨by decide +kernel, by decide +kernel⟩, List.mem_of_getElem? (i := 245) (by decide +kernel), List.mem_of_getElem? (i := 493) (by decide +kernel), List.mem_of_getElem? (i := 494) (by decide +kernel)⟩
theorem lw_p13 : lw_okq (⟨"LabelVault$Disk", "fillJournal", "(ILLabelVault$Fuse;)Z"⟩, 6) := ⟨⟨by decide +kernel, by decide +kernel⟩, List.mem_of_getElem? (i := 245) (by decide +kernel), List.mem_of_getElem? (i := 497) (by decide +kernel), List.mem_of_getElem? (i := 498) (by decide +kernel)⟩
theorem lw_p14 : lw_okq (⟨"LabelVault$Disk", "countWrite", "(LLabelVault$Fuse;)Z"⟩, 6) := ⟨⟨by decide +kernel, by decide +kernel⟩, List.mem_of_getElem? (i := 245) (by decide +kernel), List.mem_of_getElem? (i := 501) (by decide +kernel), List.mem_of_getElem? (i := 502) (by decide +kernel)⟩
theorem lw_p15 : lw_okq (⟨"LabelVault$Disk", "setMark", "(ZLLabelVault$Fuse;)Z"⟩, 6) := ⟨⟨by decide +kernel, by decide +kernel⟩, List.mem_of_getElem? (i := 245) (by decide +kernel), List.mem_of_getElem? (i := 509) (by decide +kernel), List.mem_of_getElem? (i := 510) (by decide +kernel)⟩
def lw_privs_1 : List (MethodName × Nat) := [(⟨"LabelVault", "breakDown", "()I"⟩, 4), (⟨"LabelVault", "hasArea", "(I)Z"⟩, 4), (⟨"LabelVault", "hasSession", "(I)Z"⟩, 4), (⟨"java/lang/Throwable", "fillInStackTrace", "(I)Ljava/lang/Throwable;"⟩, 6), (⟨"LabelVault", "hasLabel", "(I)Z"⟩, 4), (⟨"LabelVault", "areaNumbered", "(I)LLabelVault$Area;"⟩, 4), (⟨"LabelVault", "areaOf", "(I)LLabelVault$Area;"⟩, 4), (⟨"LabelVault", "kindsSeen", "(II)I"⟩, 4), (⟨"LabelVault", "isOpenTo", "(II)Z"⟩, 4), (⟨"LabelVault$Tree", "childNamed", "(II)I"⟩, 1), (⟨"LabelVault$Tree", "take", "(III)I"⟩, 1), (⟨"LabelVault", "finish", "(LLabelVault$Area;I)I"⟩, 4), (⟨"LabelVault$Disk", "changedBlocks", "()I"⟩, 6), (⟨"LabelVault$Disk", "fillJournal", "(ILLabelVault$Fuse;)Z"⟩, 6), (⟨"LabelVault$Disk", "countWrite", "(LLabelVault$Fuse;)Z"⟩, 6), (⟨"LabelVault$Disk", "setMark", "(ZLLabelVault$Fuse;)Z"⟩, 6)]
theorem lw_r1 : ∀ q ∈ lw_privs_1, lw_okq q := List.forall_mem_cons.mpr ⟨lw_p0, List.forall_mem_cons.mpr ⟨lw_p1, List.forall_mem_cons.mpr ⟨lw_p2, List.forall_mem_cons.mpr ⟨lw_p3, List.forall_mem_cons.mpr ⟨lw_p4, List.forall_mem_cons.mpr ⟨lw_p5, List.forall_mem_cons.mpr ⟨lw_p6, List.forall_mem_cons.mpr ⟨lw_p7, List.forall_mem_cons.mpr ⟨lw_p8, List.forall_mem_cons.mpr ⟨lw_p9, List.forall_mem_cons.mpr ⟨lw_p10, List.forall_mem_cons.mpr ⟨lw_p11, List.forall_mem_cons.mpr ⟨lw_p12, List.forall_mem_cons.mpr ⟨lw_p13, List.forall_mem_cons.mpr ⟨lw_p14, List.forall_mem_cons.mpr ⟨lw_p15, fun _ h => absurd h List.not_mem_nil⟩⟩⟩⟩⟩⟩⟩⟩⟩⟩⟩⟩⟩⟩⟩⟩
theorem lw_p16 : lw_okq (⟨"LabelVault$Disk", "fillPlaces", "(LLabelVault$Fuse;)Z"⟩, 6) := ⟨⟨by decide +kernel, by decide +kernel⟩, List.mem_of_getElem? (i := 245) (by decide +kernel), List.mem_of_getElem? (i := 513) (by decide +kernel), List.mem_of_getElem? (i := 514) (by decide +kernel)⟩
theorem lw_p17 : lw_okq (⟨"LabelVault", "ownInode", "(LLabelVault$Area;I)I"⟩, 4) := ⟨⟨by decide +kernel, by decide +kernel⟩, List.mem_of_getElem? (i := 22) (by decide +kernel), List.mem_of_getElem? (i := 525) (by decide +kernel), List.mem_of_getElem? (i := 526) (by decide +kernel)⟩
theorem lw_p18 : lw_okq (⟨"LabelVault$Contents", "takenBlock", "(II)I"⟩, 1) := ⟨⟨by decide +kernel, by decide +kernel⟩, List.mem_of_getElem? (i := 285) (by decide +kernel), List.mem_of_getElem? (i := 540) (by decide +kernel), List.mem_of_getElem? (i := 541) (by decide +kernel)⟩
theorem lw_p19 : lw_okq (⟨"LabelVault$Contents", "takeBehind", "(II)I"⟩, 1) := ⟨⟨by decide +kernel, by decide +kernel⟩, List.mem_of_getElem? (i := 285) (by decide +kernel), List.mem_of_getElem? (i := 544) (by decide +kernel), List.mem_of_getElem? (i := 545) (by decide +kernel)⟩
theorem lw_p20 : lw_okq (⟨"LabelVault$Contents", "takePointer", "()I"⟩, 1) := ⟨⟨by decide +kernel, by decide +kernel⟩, List.mem_of_getElem? (i := 285) (by decide +kernel), List.mem_of_getElem? (i := 548) (by decide +kernel), List.mem_of_getElem? (i := 549) (by decide +kernel)⟩
theorem lw_p21 : lw_okq (⟨"LabelVault$Contents", "holderOf", "(II)I"⟩, 1) := ⟨⟨by decide +kernel, by decide +kernel⟩, List.mem_of_getElem? (i := 285) (by decide +kernel), List.mem_of_getElem? (i := 563) (by decide +kernel), List.mem_of_getElem? (i := 564) (by decide +kernel)⟩
theorem lw_p22 : lw_okq (⟨"LabelVault$Contents", "dropPointer", "(II)I"⟩, 1) := ⟨⟨by decide +kernel, by decide +kernel⟩, List.mem_of_getElem? (i := 285) (by decide +kernel), List.mem_of_getElem? (i := 589) (by decide +kernel), List.mem_of_getElem? (i := 590) (by decide +kernel)⟩
theorem lw_p23 : lw_okq (⟨"LabelVault$Contents", "release", "(I)I"⟩, 1) := ⟨⟨by decide +kernel, by decide +kernel⟩, List.mem_of_getElem? (i := 285) (by decide +kernel), List.mem_of_getElem? (i := 593) (by decide +kernel), List.mem_of_getElem? (i := 594) (by decide +kernel)⟩
theorem lw_p24 : lw_okq (⟨"LabelVault$Contents", "isIndirectEmpty", "(I)Z"⟩, 1) := ⟨⟨by decide +kernel, by decide +kernel⟩, List.mem_of_getElem? (i := 285) (by decide +kernel), List.mem_of_getElem? (i := 597) (by decide +kernel), List.mem_of_getElem? (i := 598) (by decide +kernel)⟩
theorem lw_p25 : lw_okq (⟨"LabelVault$Contents", "zeroBehind", "(II)V"⟩, 1) := ⟨⟨by decide +kernel, by decide +kernel⟩, List.mem_of_getElem? (i := 285) (by decide +kernel), List.mem_of_getElem? (i := 601) (by decide +kernel), List.mem_of_getElem? (i := 602) (by decide +kernel)⟩
theorem lw_p26 : lw_okq (⟨"LabelVault$Contents", "pointerTo", "(II)I"⟩, 1) := ⟨⟨by decide +kernel, by decide +kernel⟩, List.mem_of_getElem? (i := 285) (by decide +kernel), List.mem_of_getElem? (i := 605) (by decide +kernel), List.mem_of_getElem? (i := 606) (by decide +kernel)⟩
theorem lw_p27 : lw_okq (⟨"LabelVault$Tree", "parentOf", "(I)I"⟩, 1) := ⟨⟨by decide +kernel, by decide +kernel⟩, List.mem_of_getElem? (i := 275) (by decide +kernel), List.mem_of_getElem? (i := 620) (by decide +kernel), List.mem_of_getElem? (i := 621) (by decide +kernel)⟩
theorem lw_p28 : lw_okq (⟨"LabelVault", "namesSeen", "(II)I"⟩, 4) := ⟨⟨by decide +kernel, by decide +kernel⟩, List.mem_of_getElem? (i := 22) (by decide +kernel), List.mem_of_getElem? (i := 696) (by decide +kernel), List.mem_of_getElem? (i := 697) (by decide +kernel)⟩
theorem lw_p29 : lw_okq (⟨"LabelVault$Tree", "nameOf", "(I)I"⟩, 1) := ⟨⟨by decide +kernel, by decide +kernel⟩, List.mem_of_getElem? (i := 275) (by decide +kernel), List.mem_of_getElem? (i := 704) (by decide +kernel), List.mem_of_getElem? (i := 705) (by decide +kernel)⟩
theorem lw_p30 : lw_okq (⟨"LabelVaultModel", "isArea", "(I)Z"⟩, 9) := ⟨⟨by decide +kernel, by decide +kernel⟩, List.mem_of_getElem? (i := 740) (by decide +kernel), List.mem_of_getElem? (i := 803) (by decide +kernel), List.mem_of_getElem? (i := 804) (by decide +kernel)⟩
theorem lw_p31 : lw_okq (⟨"LabelVaultModel", "isSession", "(I)Z"⟩, 9) := ⟨⟨by decide +kernel, by decide +kernel⟩, List.mem_of_getElem? (i := 740) (by decide +kernel), List.mem_of_getElem? (i := 811) (by decide +kernel), List.mem_of_getElem? (i := 812) (by decide +kernel)⟩
def lw_privs_2 : List (MethodName × Nat) := [(⟨"LabelVault$Disk", "fillPlaces", "(LLabelVault$Fuse;)Z"⟩, 6), (⟨"LabelVault", "ownInode", "(LLabelVault$Area;I)I"⟩, 4), (⟨"LabelVault$Contents", "takenBlock", "(II)I"⟩, 1), (⟨"LabelVault$Contents", "takeBehind", "(II)I"⟩, 1), (⟨"LabelVault$Contents", "takePointer", "()I"⟩, 1), (⟨"LabelVault$Contents", "holderOf", "(II)I"⟩, 1), (⟨"LabelVault$Contents", "dropPointer", "(II)I"⟩, 1), (⟨"LabelVault$Contents", "release", "(I)I"⟩, 1), (⟨"LabelVault$Contents", "isIndirectEmpty", "(I)Z"⟩, 1), (⟨"LabelVault$Contents", "zeroBehind", "(II)V"⟩, 1), (⟨"LabelVault$Contents", "pointerTo", "(II)I"⟩, 1), (⟨"LabelVault$Tree", "parentOf", "(I)I"⟩, 1), (⟨"LabelVault", "namesSeen", "(II)I"⟩, 4), (⟨"LabelVault$Tree", "nameOf", "(I)I"⟩, 1), (⟨"LabelVaultModel", "isArea", "(I)Z"⟩, 9), (⟨"LabelVaultModel", "isSession", "(I)Z"⟩, 9)]
theorem lw_r2 : ∀ q ∈ lw_privs_2, lw_okq q := List.forall_mem_cons.mpr ⟨lw_p16, List.forall_mem_cons.mpr ⟨lw_p17, List.forall_mem_cons.mpr ⟨lw_p18, List.forall_mem_cons.mpr ⟨lw_p19, List.forall_mem_cons.mpr ⟨lw_p20, List.forall_mem_cons.mpr ⟨lw_p21, List.forall_mem_cons.mpr ⟨lw_p22, List.forall_mem_cons.mpr ⟨lw_p23, List.forall_mem_cons.mpr ⟨lw_p24, List.forall_mem_cons.mpr ⟨lw_p25, List.forall_mem_cons.mpr ⟨lw_p26, List.forall_mem_cons.mpr ⟨lw_p27, List.forall_mem_cons.mpr ⟨lw_p28, List.forall_mem_cons.mpr ⟨lw_p29, List.forall_mem_cons.mpr ⟨lw_p30, List.forall_mem_cons.mpr ⟨lw_p31, fun _ h => absurd h List.not_mem_nil⟩⟩⟩⟩⟩⟩⟩⟩⟩⟩⟩⟩⟩⟩⟩⟩
theorem lw_p32 : lw_okq (⟨"LabelVaultModel", "visible", "(III)Z"⟩, 9) := ⟨⟨by decide +kernel, by decide +kernel⟩, List.mem_of_getElem? (i := 740) (by decide +kernel), List.mem_of_getElem? (i := 828) (by decide +kernel), List.mem_of_getElem? (i := 829) (by decide +kernel)⟩
theorem lw_p33 : lw_okq (⟨"LabelVaultModel", "sees", "(II)Z"⟩, 9) := ⟨⟨by decide +kernel, by decide +kernel⟩, List.mem_of_getElem? (i := 740) (by decide +kernel), List.mem_of_getElem? (i := 832) (by decide +kernel), List.mem_of_getElem? (i := 833) (by decide +kernel)⟩
theorem lw_p34 : lw_okq (⟨"LabelVaultModel", "kind", "(II)I"⟩, 9) := ⟨⟨by decide +kernel, by decide +kernel⟩, List.mem_of_getElem? (i := 740) (by decide +kernel), List.mem_of_getElem? (i := 836) (by decide +kernel), List.mem_of_getElem? (i := 837) (by decide +kernel)⟩
theorem lw_p35 : lw_okq (⟨"LabelVaultModel", "find", "(II)I"⟩, 9) := ⟨⟨by decide +kernel, by decide +kernel⟩, List.mem_of_getElem? (i := 740) (by decide +kernel), List.mem_of_getElem? (i := 840) (by decide +kernel), List.mem_of_getElem? (i := 841) (by decide +kernel)⟩
theorem lw_p36 : lw_okq (⟨"LabelVaultModel", "inode", "(III)I"⟩, 9) := ⟨⟨by decide +kernel, by decide +kernel⟩, List.mem_of_getElem? (i := 740) (by decide +kernel), List.mem_of_getElem? (i := 844) (by decide +kernel), List.mem_of_getElem? (i := 845) (by decide +kernel)⟩
theorem lw_p37 : lw_okq (⟨"LabelVaultModel", "freeInodes", "(I)I"⟩, 9) := ⟨⟨by decide +kernel, by decide +kernel⟩, List.mem_of_getElem? (i := 740) (by decide +kernel), List.mem_of_getElem? (i := 848) (by decide +kernel), List.mem_of_getElem? (i := 849) (by decide +kernel)⟩
theorem lw_p38 : lw_okq (⟨"LabelVaultModel", "start", "(I)V"⟩, 9) := ⟨⟨by decide +kernel, by decide +kernel⟩, List.mem_of_getElem? (i := 740) (by decide +kernel), List.mem_of_getElem? (i := 852) (by decide +kernel), List.mem_of_getElem? (i := 853) (by decide +kernel)⟩
theorem lw_p39 : lw_okq (⟨"LabelVaultModel", "finish", "(II)I"⟩, 9) := ⟨⟨by decide +kernel, by decide +kernel⟩, List.mem_of_getElem? (i := 740) (by decide +kernel), List.mem_of_getElem? (i := 856) (by decide +kernel), List.mem_of_getElem? (i := 857) (by decide +kernel)⟩
theorem lw_p40 : lw_okq (⟨"LabelVaultModel", "crashNow", "()I"⟩, 9) := ⟨⟨by decide +kernel, by decide +kernel⟩, List.mem_of_getElem? (i := 740) (by decide +kernel), List.mem_of_getElem? (i := 860) (by decide +kernel), List.mem_of_getElem? (i := 861) (by decide +kernel)⟩
theorem lw_p41 : lw_okq (⟨"LabelVaultModel", "refusal", "(II)I"⟩, 9) := ⟨⟨by decide +kernel, by decide +kernel⟩, List.mem_of_getElem? (i := 740) (by decide +kernel), List.mem_of_getElem? (i := 868) (by decide +kernel), List.mem_of_getElem? (i := 869) (by decide +kernel)⟩
theorem lw_p42 : lw_okq (⟨"LabelVaultModel", "pointer", "(II)I"⟩, 9) := ⟨⟨by decide +kernel, by decide +kernel⟩, List.mem_of_getElem? (i := 740) (by decide +kernel), List.mem_of_getElem? (i := 872) (by decide +kernel), List.mem_of_getElem? (i := 873) (by decide +kernel)⟩
theorem lw_p43 : lw_okq (⟨"LabelVaultModel", "freeBlocks", "(I)I"⟩, 9) := ⟨⟨by decide +kernel, by decide +kernel⟩, List.mem_of_getElem? (i := 740) (by decide +kernel), List.mem_of_getElem? (i := 876) (by decide +kernel), List.mem_of_getElem? (i := 877) (by decide +kernel)⟩
theorem lw_p44 : lw_okq (⟨"LabelVaultModel", "takeBlock", "()I"⟩, 9) := ⟨⟨by decide +kernel, by decide +kernel⟩, List.mem_of_getElem? (i := 740) (by decide +kernel), List.mem_of_getElem? (i := 880) (by decide +kernel), List.mem_of_getElem? (i := 881) (by decide +kernel)⟩
theorem lw_p45 : lw_okq (⟨"LabelVaultModel", "release", "(I)I"⟩, 9) := ⟨⟨by decide +kernel, by decide +kernel⟩, List.mem_of_getElem? (i := 740) (by decide +kernel), List.mem_of_getElem? (i := 888) (by decide +kernel), List.mem_of_getElem? (i := 889) (by decide +kernel)⟩
theorem lw_p46 : lw_okq (⟨"LabelVaultModel", "hasChild", "(II)Z"⟩, 9) := ⟨⟨by decide +kernel, by decide +kernel⟩, List.mem_of_getElem? (i := 740) (by decide +kernel), List.mem_of_getElem? (i := 896) (by decide +kernel), List.mem_of_getElem? (i := 897) (by decide +kernel)⟩
theorem lw_p47 : lw_okq (⟨"LabelVaultModel", "below", "(III)I"⟩, 9) := ⟨⟨by decide +kernel, by decide +kernel⟩, List.mem_of_getElem? (i := 740) (by decide +kernel), List.mem_of_getElem? (i := 904) (by decide +kernel), List.mem_of_getElem? (i := 905) (by decide +kernel)⟩
def lw_privs_3 : List (MethodName × Nat) := [(⟨"LabelVaultModel", "visible", "(III)Z"⟩, 9), (⟨"LabelVaultModel", "sees", "(II)Z"⟩, 9), (⟨"LabelVaultModel", "kind", "(II)I"⟩, 9), (⟨"LabelVaultModel", "find", "(II)I"⟩, 9), (⟨"LabelVaultModel", "inode", "(III)I"⟩, 9), (⟨"LabelVaultModel", "freeInodes", "(I)I"⟩, 9), (⟨"LabelVaultModel", "start", "(I)V"⟩, 9), (⟨"LabelVaultModel", "finish", "(II)I"⟩, 9), (⟨"LabelVaultModel", "crashNow", "()I"⟩, 9), (⟨"LabelVaultModel", "refusal", "(II)I"⟩, 9), (⟨"LabelVaultModel", "pointer", "(II)I"⟩, 9), (⟨"LabelVaultModel", "freeBlocks", "(I)I"⟩, 9), (⟨"LabelVaultModel", "takeBlock", "()I"⟩, 9), (⟨"LabelVaultModel", "release", "(I)I"⟩, 9), (⟨"LabelVaultModel", "hasChild", "(II)Z"⟩, 9), (⟨"LabelVaultModel", "below", "(III)I"⟩, 9)]
theorem lw_r3 : ∀ q ∈ lw_privs_3, lw_okq q := List.forall_mem_cons.mpr ⟨lw_p32, List.forall_mem_cons.mpr ⟨lw_p33, List.forall_mem_cons.mpr ⟨lw_p34, List.forall_mem_cons.mpr ⟨lw_p35, List.forall_mem_cons.mpr ⟨lw_p36, List.forall_mem_cons.mpr ⟨lw_p37, List.forall_mem_cons.mpr ⟨lw_p38, List.forall_mem_cons.mpr ⟨lw_p39, List.forall_mem_cons.mpr ⟨lw_p40, List.forall_mem_cons.mpr ⟨lw_p41, List.forall_mem_cons.mpr ⟨lw_p42, List.forall_mem_cons.mpr ⟨lw_p43, List.forall_mem_cons.mpr ⟨lw_p44, List.forall_mem_cons.mpr ⟨lw_p45, List.forall_mem_cons.mpr ⟨lw_p46, List.forall_mem_cons.mpr ⟨lw_p47, fun _ h => absurd h List.not_mem_nil⟩⟩⟩⟩⟩⟩⟩⟩⟩⟩⟩⟩⟩⟩⟩⟩
theorem lw_p48 : lw_okq (⟨"LabelVaultModel", "unreadable", "(III)I"⟩, 9) := ⟨⟨by decide +kernel, by decide +kernel⟩, List.mem_of_getElem? (i := 740) (by decide +kernel), List.mem_of_getElem? (i := 912) (by decide +kernel), List.mem_of_getElem? (i := 913) (by decide +kernel)⟩
def lw_privs_4 : List (MethodName × Nat) := [(⟨"LabelVaultModel", "unreadable", "(III)I"⟩, 9)]
theorem lw_r4 : ∀ q ∈ lw_privs_4, lw_okq q := List.forall_mem_cons.mpr ⟨lw_p48, fun _ h => absurd h List.not_mem_nil⟩
def lw_privs : List (MethodName × Nat) := lw_privs_1 ++ (lw_privs_2 ++ (lw_privs_3 ++ (lw_privs_4)))
def lw_tbl : List Cond := k2_sels lw_privs ++ tables_1
theorem lw_privs_ok : ∀ q ∈ lw_privs, lw_okq q := by
  show ∀ q ∈ lw_privs_1 ++ (lw_privs_2 ++ (lw_privs_3 ++ (lw_privs_4))), lw_okq q
  exact List.forall_mem_append.mpr ⟨lw_r1, List.forall_mem_append.mpr ⟨lw_r2, List.forall_mem_append.mpr ⟨lw_r3, lw_r4⟩⟩⟩
def jv_LT : List Cond := lw_tbl.filter goodWord
end
section
def R_Vault : String := "LabelVault"
def T_Vault : u_T := fun k => match k with
  | 0 => ("LabelVault", "areas", "[LLabelVault$Area;", true)
  | 1 => ("LabelVault", "areaCount", "I", false)
  | 2 => ("LabelVault", "clearances", "[I", true)
  | _ => ("LabelVault", "fuse", "LLabelVault$Fuse;", true)
def ty_Vault : Nat → FieldType := fun k => match k with
  | 0 => (.array (.object "LabelVault$Area"))
  | 1 => .int
  | 2 => (.array .int)
  | _ => (.object "LabelVault$Fuse")
theorem nm_Vault : ∀ a, a < 4 → ∀ b, b < 4 → a ≠ b → (T_Vault a).2.1 ≠ (T_Vault b).2.1 := by decide +kernel
theorem tyok_Vault : ∀ k, k < 4 → parseFieldDescriptor (T_Vault k).2.2.1 = some (ty_Vault k) := by decide +kernel
theorem in_Vault : ∀ w ∈ u_ws R_Vault T_Vault 4, w ∈ jv_LT := by decide +kernel
def R_Fuse : String := "LabelVault$Fuse"
def T_Fuse : u_T := fun k => match k with
  | _ => ("LabelVault$Fuse", "at", "I", false)
def ty_Fuse : Nat → FieldType := fun k => match k with
  | _ => .int
theorem nm_Fuse : ∀ a, a < 1 → ∀ b, b < 1 → a ≠ b → (T_Fuse a).2.1 ≠ (T_Fuse b).2.1 := by decide +kernel
theorem tyok_Fuse : ∀ k, k < 1 → parseFieldDescriptor (T_Fuse k).2.2.1 = some (ty_Fuse k) := by decide +kernel
theorem in_Fuse : ∀ w ∈ u_ws R_Fuse T_Fuse 1, w ∈ jv_LT := by decide +kernel
def R_Area : String := "LabelVault$Area"
def T_Area : u_T := fun k => match k with
  | 0 => ("LabelVault$Area", "label", "I", true)
  | 1 => ("LabelVault$Area", "users", "[I", true)
  | 2 => ("LabelVault$Area", "disk", "LLabelVault$Disk;", true)
  | 3 => ("LabelVault$Area", "tree", "LLabelVault$Tree;", true)
  | _ => ("LabelVault$Area", "contents", "LLabelVault$Contents;", true)
def ty_Area : Nat → FieldType := fun k => match k with
  | 0 => .int
  | 1 => (.array .int)
  | 2 => (.object "LabelVault$Disk")
  | 3 => (.object "LabelVault$Tree")
  | _ => (.object "LabelVault$Contents")
theorem nm_Area : ∀ a, a < 5 → ∀ b, b < 5 → a ≠ b → (T_Area a).2.1 ≠ (T_Area b).2.1 := by decide +kernel
theorem tyok_Area : ∀ k, k < 5 → parseFieldDescriptor (T_Area k).2.2.1 = some (ty_Area k) := by decide +kernel
theorem in_Area : ∀ w ∈ u_ws R_Area T_Area 5, w ∈ jv_LT := by decide +kernel
def R_Disk : String := "LabelVault$Disk"
def T_Disk : u_T := fun k => match k with
  | 0 => ("LabelVault$Disk", "places", "[I", true)
  | 1 => ("LabelVault$Disk", "draft", "[I", true)
  | 2 => ("LabelVault$Disk", "journal", "[I", true)
  | 3 => ("LabelVault$Disk", "journaled", "I", false)
  | 4 => ("LabelVault$Disk", "marked", "Z", false)
  | _ => ("LabelVault$Disk", "writes", "I", false)
def ty_Disk : Nat → FieldType := fun k => match k with
  | 0 => (.array .int)
  | 1 => (.array .int)
  | 2 => (.array .int)
  | 3 => .int
  | 4 => .boolean
  | _ => .int
theorem nm_Disk : ∀ a, a < 6 → ∀ b, b < 6 → a ≠ b → (T_Disk a).2.1 ≠ (T_Disk b).2.1 := by decide +kernel
theorem tyok_Disk : ∀ k, k < 6 → parseFieldDescriptor (T_Disk k).2.2.1 = some (ty_Disk k) := by decide +kernel
theorem in_Disk : ∀ w ∈ u_ws R_Disk T_Disk 6, w ∈ jv_LT := by decide +kernel
def R_Tree : String := "LabelVault$Tree"
def T_Tree : u_T := fun k => match k with
  | _ => ("LabelVault$Tree", "disk", "LLabelVault$Disk;", true)
def ty_Tree : Nat → FieldType := fun k => match k with
  | _ => (.object "LabelVault$Disk")
theorem nm_Tree : ∀ a, a < 1 → ∀ b, b < 1 → a ≠ b → (T_Tree a).2.1 ≠ (T_Tree b).2.1 := by decide +kernel
theorem tyok_Tree : ∀ k, k < 1 → parseFieldDescriptor (T_Tree k).2.2.1 = some (ty_Tree k) := by decide +kernel
theorem in_Tree : ∀ w ∈ u_ws R_Tree T_Tree 1, w ∈ jv_LT := by decide +kernel
def R_Cont : String := "LabelVault$Contents"
def T_Cont : u_T := fun k => match k with
  | _ => ("LabelVault$Contents", "disk", "LLabelVault$Disk;", true)
def ty_Cont : Nat → FieldType := fun k => match k with
  | _ => (.object "LabelVault$Disk")
theorem nm_Cont : ∀ a, a < 1 → ∀ b, b < 1 → a ≠ b → (T_Cont a).2.1 ≠ (T_Cont b).2.1 := by decide +kernel
theorem tyok_Cont : ∀ k, k < 1 → parseFieldDescriptor (T_Cont k).2.2.1 = some (ty_Cont k) := by decide +kernel
theorem in_Cont : ∀ w ∈ u_ws R_Cont T_Cont 1, w ∈ jv_LT := by decide +kernel
def R_Model : String := "LabelVaultModel"
def T_Model : u_T := fun k => match k with
  | 0 => ("LabelVaultModel", "threw", "I", false)
  | 1 => ("LabelVaultModel", "areas", "I", false)
  | 2 => ("LabelVaultModel", "label", "[I", true)
  | 3 => ("LabelVaultModel", "clearance", "[I", true)
  | 4 => ("LabelVaultModel", "user", "[I", true)
  | 5 => ("LabelVaultModel", "writes", "[I", true)
  | 6 => ("LabelVaultModel", "disk", "[I", true)
  | 7 => ("LabelVaultModel", "copy", "[I", true)
  | _ => ("LabelVaultModel", "fuse", "I", false)
def ty_Model : Nat → FieldType := fun k => match k with
  | 0 => .int
  | 1 => .int
  | 2 => (.array .int)
  | 3 => (.array .int)
  | 4 => (.array .int)
  | 5 => (.array .int)
  | 6 => (.array .int)
  | 7 => (.array .int)
  | _ => .int
theorem nm_Model : ∀ a, a < 9 → ∀ b, b < 9 → a ≠ b → (T_Model a).2.1 ≠ (T_Model b).2.1 := by decide +kernel
theorem tyok_Model : ∀ k, k < 9 → parseFieldDescriptor (T_Model k).2.2.1 = some (ty_Model k) := by decide +kernel
theorem in_Model : ∀ w ∈ u_ws R_Model T_Model 9, w ∈ jv_LT := by decide +kernel
def R_Labels : String := "LabelVault$Labels"
def R_Paths : String := "LabelVault$Paths"
def R_Law : String := "LabelVaultLaw"
def R_Integer : String := "java/lang/Integer"
def R_Arrays : String := "java/util/Arrays"
abbrev vwCl : List vw_C := [(R_Vault, T_Vault, 4), (R_Fuse, T_Fuse, 1), (R_Area, T_Area, 5), (R_Disk, T_Disk, 6), (R_Tree, T_Tree, 1), (R_Cont, T_Cont, 1), (R_Model, T_Model, 9)]
abbrev kVault : Nat := 0
abbrev kFuse : Nat := 1
abbrev kArea : Nat := 2
abbrev kDisk : Nat := 3
abbrev kTree : Nat := 4
abbrev kCont : Nat := 5
abbrev kModel : Nat := 6
end
section
/-! Rows of this claim's own: functions that may fail (Option), loops by fuel, contracts that read, contracts that write. -/
def jv_ga (f : Nat → Int32) (n : Nat) (i : Int32) : Option Int32 := if i < 0 ∨ n ≤ i.toNatClampNeg then none else some (f i.toNatClampNeg)
def jv_sa (f : Nat → Int32) (n : Nat) (i v : Int32) : Option (Nat → Int32) := if i < 0 ∨ n ≤ i.toNatClampNeg then none else some (upd f i.toNatClampNeg v)
def jv_fx {α β : Type} (step : (α → Option β) → α → Option β) : Nat → α → Option β
  | 0, _ => none
  | n + 1, a => step (jv_fx step n) a
theorem jv_fx_s {α β : Type} (step : (α → Option β) → α → Option β) (n : Nat) (a : α) : jv_fx step (n + 1) a = step (jv_fx step n) a := rfl
theorem jv_ob {α β : Type} {x : Option α} {f : α → Option β} {r : β} (h : x.bind f = some r) : ∃ a, x = some a ∧ f a = some r := by
  cases x with
  | none => cases h
  | some a => exact ⟨a, rfl, h⟩
theorem jv_it {α : Type} {c : Prop} {i : Decidable c} {a b : Option α} {r : α} (h : (@ite _ c i a b) = some r) (hc : c) : a = some r := by
  rw [if_pos hc] at h
  exact h
theorem jv_if {α : Type} {c : Prop} {i : Decidable c} {a b : Option α} {r : α} (h : (@ite _ c i a b) = some r) (hc : ¬ c) : b = some r := by
  rw [if_neg hc] at h
  exact h
theorem jv_gd {α : Type} {c : Prop} {i : Decidable c} {a : Option α} {r : α} (h : (@ite _ c i a none) = some r) : c ∧ a = some r := by
  by_cases hc : c
  · rw [if_pos hc] at h
    exact ⟨hc, h⟩
  · rw [if_neg hc] at h
    cases h
theorem jv_no {α β : Type} {step : (α → Option β) → α → Option β} {a : α} {r : β} {P : Prop} (h : jv_fx step 0 a = some r) : P := by
  cases (show (none : Option β) = some r from h)
theorem jv_nb {v : Int32} (h : v = 0 ∨ v = 1) : narrow .boolean (.int v) = .int v := by
  rcases h with rfl | rfl <;> rfl
theorem jv_fb {v : Int32} (h : v = 0 ∨ v = 1) : fits .boolean (.int v) = true := by
  rcases h with rfl | rfl <;> rfl
theorem jv_in {f : Nat → Int32} {n : Nat} {i x : Int32} (g : jv_ga f n i = some x) : vp_in i n ∧ f i.toNatClampNeg = x := by
  unfold jv_ga at g
  by_cases h : i < 0 ∨ n ≤ i.toNatClampNeg
  · rw [if_pos h] at g
    cases g
  · rw [if_neg h] at g
    exact ⟨h, Option.some.inj g⟩
theorem jv_inS {f F : Nat → Int32} {n : Nat} {i v : Int32} (g : jv_sa f n i v = some F) : vp_in i n ∧ upd f i.toNatClampNeg v = F := by
  unfold jv_sa at g
  by_cases h : i < 0 ∨ n ≤ i.toNatClampNeg
  · rw [if_pos h] at g
    cases g
  · rw [if_neg h] at g
    exact ⟨h, Option.some.inj g⟩
/-- what a method's walk knows from its start -/
def jv_cx (p : Program) (s : State) (m : MethodId) (args : Array Value) (meth : Method) (c : Code) (cc : ByteArray) (nL : Nat) (own : String) (ret : Option FieldType) (Ts : List Cond) : Prop :=
  p.tables.exec = Jvm.exec ∧ c.code = cc ∧ c.maxLocals = nL ∧ s.vm.findClass own = some m.cls ∧ (∀ w ∈ Ts, w.before args s = true) ∧ meth.sig.returnType = ret ∧ meth.locks = false
/-- the array classes that the worlds hold -/
abbrev jv_ty (cI cA cL : ClassId) : List (ClassId × FieldType) := [(cI, .int), (cA, .object "LabelVault$Area"), (cL, .long)]
def jv_P0 (av : List Value) : Array Value → State → Prop := va_Pc av (fun _ => True)
def jv_Pr (av : List Value) (D : va_G) (tys : List (ClassId × FieldType)) (ws : va_W) : Array Value → State → Prop := va_Pc av (fun U => va_P D vwCl ws U.heap ∧ va_K D vwCl tys U)
def jv_Pw (av : List Value) (D : va_G) (tys : List (ClassId × FieldType)) (ws : va_W) (sz : Nat) : Array Value → State → Prop := va_Pc av (fun U => U.heap.size = sz ∧ va_P D vwCl ws U.heap ∧ va_K D vwCl tys U ∧ va_D (fun _ => True) ws)
def jv_Qi (v : Int32) (D : va_G) (ws : va_W) (A : Nat → Prop) : Array Value → State → Outcome → State → Prop := fun _ st oc t => oc = .returned (some (.int v)) ∧ va_P D vwCl ws t.heap ∧ va_D A ws ∧ va_F A st t
def jv_Qv (D : va_G) (ws : va_W) (A : Nat → Prop) : Array Value → State → Outcome → State → Prop := fun _ st oc t => oc = .returned none ∧ va_P D vwCl ws t.heap ∧ va_D A ws ∧ va_F A st t
section JV1
variable {p : Program} {l : Launch} {e : Env} {R : Room} {s : State} {m : MethodId} {args : Array Value} {below : List Frame} {meth : Method} {c : Code} {H : Heap} {locs : List Loc} {cells slots : Nat} {Q : State → Prop}
variable {cc : ByteArray} {pc : Nat} {ls : Array Slot} {rest : List Value} {D : va_G} {cl : List vw_C} {A : Nat → Prop} {a : Nat} {tys : List (ClassId × FieldType)} {ws : va_W} {H0 : Heap}
theorem jv_iald (hexec : p.tables.exec = Jvm.exec) (hb : c.code = cc) (hK : va_K D cl tys s) (hP : va_P D cl ws H) (q0 t0 : Nat) {cA : ClassId} {n : Nat} {f : Nat → Int32} (ha : ws[q0]? = some (a, .inl (cA, n, .inl f))) (ht : tys[t0]? = some (cA, .int)) {i x : Int32} (g : jv_ga f n i = some x) (hdg : decode cc pc = .ok (.iaload, 1))
    (kk : W p l e R s m args below meth c H locs cells slots Q (F0 m (pc + 1) ls (.int x :: rest))) : W p l e R s m args below meth c H locs cells slots Q (F0 m pc ls (.int i :: .ref a :: rest)) := by
  obtain ⟨h1, h2⟩ := jv_in g
  subst h2
  exact va_iald hexec hb hK hP q0 t0 ha ht h1 hdg kk
theorem jv_iast (hexec : p.tables.exec = Jvm.exec) (hb : c.code = cc) (hK : va_K D cl tys s) (hP : va_P D cl ws H) (hD : va_D A ws) (hS : va_S A H0 H locs) (q0 t0 : Nat) {cA : ClassId} {n : Nat} {f F : Nat → Int32} (ha : ws[q0]? = some (a, .inl (cA, n, .inl f))) (ht : tys[t0]? = some (cA, .int)) {i x : Int32} (g : jv_sa f n i x = some F) (hdg : decode cc pc = .ok (.iastore, 1))
    (kk : ∀ (H1 : Heap) (locs1 : List Loc), va_P D cl (ws.set q0 (a, .inl (cA, n, .inl F))) H1 → va_D A (ws.set q0 (a, .inl (cA, n, .inl F))) → va_S A H0 H1 locs1 → W p l e R s m args below meth c H1 locs1 cells slots Q (F0 m (pc + 1) ls rest)) : W p l e R s m args below meth c H locs cells slots Q (F0 m pc ls (.int x :: .int i :: .ref a :: rest)) := by
  obtain ⟨h1, h2⟩ := jv_inS g
  subst h2
  exact va_iast hexec hb hK hP hD hS q0 t0 ha ht h1 hdg kk
theorem jv_cs {r : Int32} {av : Array Value} {st0 : List Value} (hr : CallRun p l e R s m args below meth c H locs cells slots 0 0 (F0 m pc ls st0) rest (QcRead r av) (fun _ => False))
    (kk : W p l e R s m args below meth c H locs cells slots Q (F0 m (pc + 3) ls (.int r :: rest))) : W p l e R s m args below meth c H locs cells slots Q (F0 m pc ls st0) := W.callR hr kk
theorem jv_pre0 {As : List Value} : PreS s H (jv_P0 As) As := ⟨fun _ _ _ _ q => q, fun _ _ _ => ⟨rfl, trivial⟩⟩
theorem jv_preS {As : List Value} (hK : va_K D vwCl tys s) (hP : va_P D vwCl ws H) : PreS s H (jv_Pr As D tys ws) As :=
  ⟨fun a U g mk q => ⟨q.1, q.2.1, va_K.moved (u := U) (U := U.calling g mk a) (Vm.Alike.refl U.vm) q.2.2⟩, fun U hU hW => ⟨rfl, by rw [hU]; exact hP, va_K.moved hW.alike hK⟩⟩
theorem jv_preV {As : List Value} {b ci : Nat} {fs : List Value} {r : vw_C} (hK : va_K D vwCl tys s) (hP : va_P D vwCl ws H) (q0 : Nat) (he : ws[q0]? = some (b, .inr (ci, fs))) (hc : vwCl[ci]? = some r) : PreV s H r.1 b (jv_Pr (.ref b :: As) D tys ws) As :=
  ⟨fun a U g mk q => ⟨q.1, q.2.1, va_K.moved (u := U) (U := U.calling g mk a) (Vm.Alike.refl U.vm) q.2.2⟩, va_recv hK hP hc he, fun U hU hW => ⟨rfl, by rw [hU]; exact hP, va_K.moved hW.alike hK⟩⟩
theorem jv_preSW {As : List Value} (hK : va_K D vwCl tys s) (hP : va_P D vwCl ws H) (hD : va_D A ws) : PreS s H (jv_Pw As D tys ws H.size) As :=
  ⟨fun a U g mk q => ⟨q.1, q.2.1, q.2.2.1, va_K.moved (u := U) (U := U.calling g mk a) (Vm.Alike.refl U.vm) q.2.2.2.1, q.2.2.2.2⟩, fun U hU hW => ⟨rfl, by rw [hU], by rw [hU]; exact hP, va_K.moved hW.alike hK, hD.weaken (fun _ _ _ _ => trivial)⟩⟩
theorem jv_preVW {As : List Value} {b ci : Nat} {fs : List Value} {r : vw_C} (hK : va_K D vwCl tys s) (hP : va_P D vwCl ws H) (hD : va_D A ws) (q0 : Nat) (he : ws[q0]? = some (b, .inr (ci, fs))) (hc : vwCl[ci]? = some r) : PreV s H r.1 b (jv_Pw (.ref b :: As) D tys ws H.size) As :=
  ⟨(jv_preSW (As := .ref b :: As) hK hP hD).1, va_recv hK hP hc he, (jv_preSW (As := .ref b :: As) hK hP hD).2⟩
theorem jv_cwi {v : Int32} {w1 : va_W} {A0 A1 : Nat → Prop} {av : Array Value} {st0 : List Value} (hr : va_Run p l e R s m args below meth c H locs cells slots 0 0 (F0 m pc ls st0) rest (jv_Qi v D w1 A1 av) A1) (hS : va_S A0 H0 H locs) (hF : ∀ q, A1 q → A0 q)
    (kk : ∀ (H1 : Heap) (locs1 : List Loc), va_P D vwCl w1 H1 → va_D A1 w1 → (∀ q : Nat, q < H.size → ¬ A1 q → H1[q]? = H[q]?) → va_S A0 H0 H1 locs1 → W p l e R s m args below meth c H1 locs1 cells slots Q (F0 m (pc + 3) ls (.int v :: rest))) : W p l e R s m args below meth c H locs cells slots Q (F0 m pc ls st0) := by
  intro T hT X
  obtain ⟨v', st₀, t, T', L, h0, X', hL, e1, e2, ⟨hv, hP1, hD1, hz, hk⟩, st⟩ := hr T hT X
  cases hv
  rw [h0] at hz hk
  obtain ⟨t2, a1, b1⟩ := kk T'.heap (locs ++ L) (by rw [e1]; exact hP1) hD1 (fun q h1 h2 => by rw [e1]; exact hk q h1 h2)
    ⟨Nat.le_trans hS.1 (by rw [e1]; exact hz), fun q h1 h2 => by rw [e1, hk q (Nat.lt_of_lt_of_le h1 hS.1) (fun z => h2 (hF q z))]; exact hS.2.1 q h1 h2, fun q hq => by
      rcases List.mem_append.mp hq with h | h
      · exact hS.2.2 q h
      · exact hF _ (hL q h)⟩ T' rfl X'
  exact ⟨t2, st t2 a1, b1⟩
theorem jv_cwv {w1 : va_W} {A0 A1 : Nat → Prop} {av : Array Value} {st0 : List Value} (hr : va_Run p l e R s m args below meth c H locs cells slots 0 0 (F0 m pc ls st0) rest (jv_Qv D w1 A1 av) A1) (hS : va_S A0 H0 H locs) (hF : ∀ q, A1 q → A0 q)
    (kk : ∀ (H1 : Heap) (locs1 : List Loc), va_P D vwCl w1 H1 → va_D A1 w1 → (∀ q : Nat, q < H.size → ¬ A1 q → H1[q]? = H[q]?) → va_S A0 H0 H1 locs1 → W p l e R s m args below meth c H1 locs1 cells slots Q (F0 m (pc + 3) ls rest)) : W p l e R s m args below meth c H locs cells slots Q (F0 m pc ls st0) := by
  intro T hT X
  obtain ⟨v', st₀, t, T', L, h0, X', hL, e1, e2, ⟨hv, hP1, hD1, hz, hk⟩, st⟩ := hr T hT X
  cases hv
  rw [h0] at hz hk
  obtain ⟨t2, a1, b1⟩ := kk T'.heap (locs ++ L) (by rw [e1]; exact hP1) hD1 (fun q h1 h2 => by rw [e1]; exact hk q h1 h2)
    ⟨Nat.le_trans hS.1 (by rw [e1]; exact hz), fun q h1 h2 => by rw [e1, hk q (Nat.lt_of_lt_of_le h1 hS.1) (fun z => h2 (hF q z))]; exact hS.2.1 q h1 h2, fun q hq => by
      rcases List.mem_append.mp hq with h | h
      · exact hS.2.2 q h
      · exact hF _ (hL q h)⟩ T' rfl X'
  exact ⟨t2, st t2 a1, b1⟩
end JV1
def jv_cp (f : Nat → Int32) (n0 : Nat) (g : Nat → Int32) (n1 : Nat) (sp dp n : Int32) : Option (Nat → Int32) := if ¬ sp < 0 ∧ ¬ dp < 0 ∧ ¬ n < 0 ∧ sp.toNatClampNeg + n.toNatClampNeg ≤ n0 ∧ dp.toNatClampNeg + n.toNatClampNeg ≤ n1 then some (va_cpy f g sp.toNatClampNeg dp.toNatClampNeg n.toNatClampNeg) else none
section JV1B
variable {p : Program} {l : Launch} {e : Env} {R : Room} {s : State} {m : MethodId} {args : Array Value} {below : List Frame} {meth : Method} {c : Code} {H : Heap} {locs : List Loc} {cells slots : Nat} {Q : State → Prop}
variable {cc : ByteArray} {pc : Nat} {ls : Array Slot} {rest : List Value} {D : va_G} {cl : List vw_C} {A : Nat → Prop} {a : Nat} {tys : List (ClassId × FieldType)} {ws : va_W} {H0 : Heap}
theorem jv_copy (hexec : p.tables.exec = Jvm.exec) (hb : c.code = cc) (hml : c.maxLocals = ls.size) {own : String} {index : Nat} (hown : s.vm.findClass own = some m.cls) (hlink : (Cond.methodLink own index arraycopyName).before args s = true) (hnat : (Cond.native arraycopyName).before args s = true) (hstat : (Cond.static arraycopyName).before args s = true) (hini : (Cond.initialized "java/lang/System").before args s = true)
    (hK : va_K D cl tys s) (hP : va_P D cl ws H) (hD : va_D A ws) (hS : va_S A H0 H locs) (q0 q1 t0 t1 : Nat) {a0 : Nat} {c0 c1 : ClassId} {n0 n1 : Nat} {f g F : Nat → Int32} (ha0 : ws[q0]? = some (a0, .inl (c0, n0, .inl f))) (ha1 : ws[q1]? = some (a, .inl (c1, n1, .inl g))) (ht0 : tys[t0]? = some (c0, .int)) (ht1 : tys[t1]? = some (c1, .int))
    {sp dp n : Int32} (hg : jv_cp f n0 g n1 sp dp n = some F) (hframes : 1 ≤ R.frames) (hlocals : (rest.map fun v => v.category).sum + (nativeFrameWords "java/lang/System" "arraycopy" 5 + 11) ≤ R.locals) (hdg : decode cc pc = .ok (.invokestatic index, 3))
    (kk : ∀ (H1 : Heap) (locs1 : List Loc), va_P D cl (ws.set q1 (a, .inl (c1, n1, .inl F))) H1 → va_D A (ws.set q1 (a, .inl (c1, n1, .inl F))) → va_S A H0 H1 locs1 → W p l e R s m args below meth c H1 locs1 cells slots Q (F0 m (pc + 3) ls rest)) : W p l e R s m args below meth c H locs cells slots Q (F0 m pc ls (.int n :: .int dp :: .ref a :: .int sp :: .ref a0 :: rest)) := by
  unfold jv_cp at hg
  obtain ⟨⟨h1, h2, h3, h4, h5⟩, hg⟩ := jv_gd hg
  obtain rfl := Option.some.inj hg
  exact va_copyi hexec hb hml hown hlink hnat hstat hini hK hP hD hS q0 q1 t0 t1 ha0 ha1 ht0 ht1 rfl h1 h2 h3 h4 h5 (fun _ _ => rfl) hframes hlocals hdg kk
theorem jv_w {c0 w : Cond} (hts : ∀ w ∈ c0 :: jv_LT, w.before args s = true) (h : w ∈ jv_LT) : w.before args s = true := hts w (List.mem_cons_of_mem _ h)
theorem jv_cb {c0 : Cond} {own : String} {index n maxL mc ms : Nat} {y : MethodName} {bytes : ByteArray} {ret : Option FieldType} {rm : Room} (hts : ∀ w ∈ c0 :: jv_LT, w.before args s = true) (h1 : Cond.code y bytes maxL ret ∈ jv_LT) (h2 : Cond.initialized y.cls ∈ jv_LT) (h3 : Cond.methodLink own index y ∈ jv_LT) (hrc : rm.cells = mc) (hrs : rm.slots = ms)
    (hd : y.cls ≠ "java/lang/invoke/MethodHandle" ∧ y.cls ≠ "java/lang/invoke/VarHandle" ∧ (parseMethodDescriptor y.desc).map (fun d => d.parameters.length) = some n) (hR : rm.frames + 1 ≤ R.frames ∧ 8 + (maxL + 11) + rm.locals ≤ R.locals) : CallB R s args own index y bytes maxL ret (Cond.code y bytes maxL ret :: jv_LT) rm mc ms n :=
  callB_of n hts (fun w hw => by
    have hm : w ∈ jv_LT := by
      rcases List.mem_cons.mp hw with h | h
      · rw [h]; exact h1
      · exact h
    exact ⟨List.mem_cons_of_mem _ hm, good_of_word (List.mem_filter.mp hm).2⟩) rfl hrc hrs (jv_w hts h2) (jv_w hts h3) hd hR
theorem jv_cwS {c0 : Cond} {own : String} {index n maxL mc ms : Nat} {y : MethodName} {bytes : ByteArray} {ret : Option FieldType} {rm : Room} (hts : ∀ w ∈ c0 :: jv_LT, w.before args s = true) (h1 : Cond.code y bytes maxL ret ∈ jv_LT) (h2 : Cond.initialized y.cls ∈ jv_LT) (h3 : Cond.methodLink own index y ∈ jv_LT) (h4 : Cond.static y ∈ jv_LT) (hrc : rm.cells = mc) (hrs : rm.slots = ms)
    (hd : y.cls ≠ "java/lang/invoke/MethodHandle" ∧ y.cls ≠ "java/lang/invoke/VarHandle" ∧ (parseMethodDescriptor y.desc).map (fun d => d.parameters.length) = some n) (hR : rm.frames + 1 ≤ R.frames ∧ 8 + (maxL + 11) + rm.locals ≤ R.locals) : CallB R s args own index y bytes maxL ret (Cond.code y bytes maxL ret :: jv_LT) rm mc ms n ∧ (Cond.static y).before args s = true :=
  ⟨jv_cb hts h1 h2 h3 hrc hrs hd hR, jv_w hts h4⟩
theorem jv_cwV {c0 : Cond} {own C : String} {index n maxL mc ms : Nat} {y : MethodName} {bytes : ByteArray} {ret : Option FieldType} {rm : Room} (hts : ∀ w ∈ c0 :: jv_LT, w.before args s = true) (h1 : Cond.code y bytes maxL ret ∈ jv_LT) (h2 : Cond.initialized y.cls ∈ jv_LT) (h3 : Cond.methodLink own index y ∈ jv_LT) (h4 : Cond.instanceMethod y ∈ jv_LT) (h5 : Cond.selects C y y ∈ jv_LT) (hrc : rm.cells = mc) (hrs : rm.slots = ms)
    (hd : y.cls ≠ "java/lang/invoke/MethodHandle" ∧ y.cls ≠ "java/lang/invoke/VarHandle" ∧ (parseMethodDescriptor y.desc).map (fun d => d.parameters.length) = some n) (hR : rm.frames + 1 ≤ R.frames ∧ 8 + (maxL + 11) + rm.locals ≤ R.locals) : CallW R s args own C index y bytes maxL ret (Cond.code y bytes maxL ret :: jv_LT) rm mc ms n :=
  ⟨jv_cb hts h1 h2 h3 hrc hrs hd hR, jv_w hts h4, jv_w hts h5⟩
end JV1B
end
section
abbrev cc_L_isLabel : ByteArray := prog_6_method_2_code
def y_L_isLabel : MethodName := ⟨R_Labels, "isLabel", "(I)Z"⟩
abbrev ws_L_isLabel : List Cond := .code y_L_isLabel cc_L_isLabel 1 (some .boolean) :: jv_LT
abbrev rm_L_isLabel : Room := { frames := 0, cells := 0, slots := 0, locals := 0 }
theorem yd_L_isLabel : y_L_isLabel.cls ≠ "java/lang/invoke/MethodHandle" ∧ y_L_isLabel.cls ≠ "java/lang/invoke/VarHandle" ∧ (parseMethodDescriptor y_L_isLabel.desc).map (fun d => d.parameters.length) = some 1 := ⟨by decide +kernel, by decide +kernel, by decide +kernel⟩
abbrev cc_L_isSecrecyWithin : ByteArray := prog_6_method_5_code
def y_L_isSecrecyWithin : MethodName := ⟨R_Labels, "isSecrecyWithin", "(II)Z"⟩
abbrev ws_L_isSecrecyWithin : List Cond := .code y_L_isSecrecyWithin cc_L_isSecrecyWithin 2 (some .boolean) :: jv_LT
abbrev rm_L_isSecrecyWithin : Room := { frames := 0, cells := 0, slots := 0, locals := 0 }
theorem yd_L_isSecrecyWithin : y_L_isSecrecyWithin.cls ≠ "java/lang/invoke/MethodHandle" ∧ y_L_isSecrecyWithin.cls ≠ "java/lang/invoke/VarHandle" ∧ (parseMethodDescriptor y_L_isSecrecyWithin.desc).map (fun d => d.parameters.length) = some 2 := ⟨by decide +kernel, by decide +kernel, by decide +kernel⟩
abbrev cc_L_isIntegrityWithin : ByteArray := prog_6_method_6_code
def y_L_isIntegrityWithin : MethodName := ⟨R_Labels, "isIntegrityWithin", "(II)Z"⟩
abbrev ws_L_isIntegrityWithin : List Cond := .code y_L_isIntegrityWithin cc_L_isIntegrityWithin 2 (some .boolean) :: jv_LT
abbrev rm_L_isIntegrityWithin : Room := { frames := 0, cells := 0, slots := 0, locals := 0 }
theorem yd_L_isIntegrityWithin : y_L_isIntegrityWithin.cls ≠ "java/lang/invoke/MethodHandle" ∧ y_L_isIntegrityWithin.cls ≠ "java/lang/invoke/VarHandle" ∧ (parseMethodDescriptor y_L_isIntegrityWithin.desc).map (fun d => d.parameters.length) = some 2 := ⟨by decide +kernel, by decide +kernel, by decide +kernel⟩
abbrev cc_L_mayFlow : ByteArray := prog_6_method_3_code
def y_L_mayFlow : MethodName := ⟨R_Labels, "mayFlow", "(II)Z"⟩
abbrev ws_L_mayFlow : List Cond := .code y_L_mayFlow cc_L_mayFlow 2 (some .boolean) :: jv_LT
abbrev rm_L_mayFlow : Room := { frames := 1, cells := 0, slots := 0, locals := 21 }
theorem yd_L_mayFlow : y_L_mayFlow.cls ≠ "java/lang/invoke/MethodHandle" ∧ y_L_mayFlow.cls ≠ "java/lang/invoke/VarHandle" ∧ (parseMethodDescriptor y_L_mayFlow.desc).map (fun d => d.parameters.length) = some 2 := ⟨by decide +kernel, by decide +kernel, by decide +kernel⟩
abbrev cc_L_isWithin : ByteArray := prog_6_method_4_code
def y_L_isWithin : MethodName := ⟨R_Labels, "isWithin", "(II)Z"⟩
abbrev ws_L_isWithin : List Cond := .code y_L_isWithin cc_L_isWithin 2 (some .boolean) :: jv_LT
abbrev rm_L_isWithin : Room := { frames := 1, cells := 0, slots := 0, locals := 21 }
theorem yd_L_isWithin : y_L_isWithin.cls ≠ "java/lang/invoke/MethodHandle" ∧ y_L_isWithin.cls ≠ "java/lang/invoke/VarHandle" ∧ (parseMethodDescriptor y_L_isWithin.desc).map (fun d => d.parameters.length) = some 2 := ⟨by decide +kernel, by decide +kernel, by decide +kernel⟩
abbrev cc_P_lastName : ByteArray := prog_7_method_5_code
def y_P_lastName : MethodName := ⟨R_Paths, "lastName", "(I)I"⟩
abbrev ws_P_lastName : List Cond := .code y_P_lastName cc_P_lastName 1 (some .int) :: jv_LT
abbrev rm_P_lastName : Room := { frames := 0, cells := 0, slots := 0, locals := 0 }
theorem yd_P_lastName : y_P_lastName.cls ≠ "java/lang/invoke/MethodHandle" ∧ y_P_lastName.cls ≠ "java/lang/invoke/VarHandle" ∧ (parseMethodDescriptor y_P_lastName.desc).map (fun d => d.parameters.length) = some 1 := ⟨by decide +kernel, by decide +kernel, by decide +kernel⟩
abbrev cc_P_parentOf : ByteArray := prog_7_method_4_code
def y_P_parentOf : MethodName := ⟨R_Paths, "parentOf", "(I)I"⟩
abbrev ws_P_parentOf : List Cond := .code y_P_parentOf cc_P_parentOf 1 (some .int) :: jv_LT
abbrev rm_P_parentOf : Room := { frames := 0, cells := 0, slots := 0, locals := 0 }
theorem yd_P_parentOf : y_P_parentOf.cls ≠ "java/lang/invoke/MethodHandle" ∧ y_P_parentOf.cls ≠ "java/lang/invoke/VarHandle" ∧ (parseMethodDescriptor y_P_parentOf.desc).map (fun d => d.parameters.length) = some 1 := ⟨by decide +kernel, by decide +kernel, by decide +kernel⟩
abbrev cc_P_without : ByteArray := prog_7_method_7_code
def y_P_without : MethodName := ⟨R_Paths, "without", "(II)I"⟩
abbrev ws_P_without : List Cond := .code y_P_without cc_P_without 2 (some .int) :: jv_LT
abbrev rm_P_without : Room := { frames := 0, cells := 0, slots := 0, locals := 0 }
theorem yd_P_without : y_P_without.cls ≠ "java/lang/invoke/MethodHandle" ∧ y_P_without.cls ≠ "java/lang/invoke/VarHandle" ∧ (parseMethodDescriptor y_P_without.desc).map (fun d => d.parameters.length) = some 2 := ⟨by decide +kernel, by decide +kernel, by decide +kernel⟩
abbrev cc_P_isPath : ByteArray := prog_7_method_2_code
def y_P_isPath : MethodName := ⟨R_Paths, "isPath", "(I)Z"⟩
abbrev ws_P_isPath : List Cond := .code y_P_isPath cc_P_isPath 4 (some .boolean) :: jv_LT
abbrev rm_P_isPath : Room := { frames := 1, cells := 0, slots := 0, locals := 20 }
theorem yd_P_isPath : y_P_isPath.cls ≠ "java/lang/invoke/MethodHandle" ∧ y_P_isPath.cls ≠ "java/lang/invoke/VarHandle" ∧ (parseMethodDescriptor y_P_isPath.desc).map (fun d => d.parameters.length) = some 1 := ⟨by decide +kernel, by decide +kernel, by decide +kernel⟩
abbrev cc_P_isBelowRoot : ByteArray := prog_7_method_3_code
def y_P_isBelowRoot : MethodName := ⟨R_Paths, "isBelowRoot", "(I)Z"⟩
abbrev ws_P_isBelowRoot : List Cond := .code y_P_isBelowRoot cc_P_isBelowRoot 1 (some .boolean) :: jv_LT
abbrev rm_P_isBelowRoot : Room := { frames := 2, cells := 0, slots := 0, locals := 43 }
theorem yd_P_isBelowRoot : y_P_isBelowRoot.cls ≠ "java/lang/invoke/MethodHandle" ∧ y_P_isBelowRoot.cls ≠ "java/lang/invoke/VarHandle" ∧ (parseMethodDescriptor y_P_isBelowRoot.desc).map (fun d => d.parameters.length) = some 1 := ⟨by decide +kernel, by decide +kernel, by decide +kernel⟩
abbrev cc_P_lengthOf : ByteArray := prog_7_method_6_code
def y_P_lengthOf : MethodName := ⟨R_Paths, "lengthOf", "(I)I"⟩
abbrev ws_P_lengthOf : List Cond := .code y_P_lengthOf cc_P_lengthOf 3 (some .int) :: jv_LT
abbrev rm_P_lengthOf : Room := { frames := 1, cells := 0, slots := 0, locals := 21 }
theorem yd_P_lengthOf : y_P_lengthOf.cls ≠ "java/lang/invoke/MethodHandle" ∧ y_P_lengthOf.cls ≠ "java/lang/invoke/VarHandle" ∧ (parseMethodDescriptor y_P_lengthOf.desc).map (fun d => d.parameters.length) = some 1 := ⟨by decide +kernel, by decide +kernel, by decide +kernel⟩
abbrev cc_P_startsWith : ByteArray := prog_7_method_8_code
def y_P_startsWith : MethodName := ⟨R_Paths, "startsWith", "(II)Z"⟩
abbrev ws_P_startsWith : List Cond := .code y_P_startsWith cc_P_startsWith 3 (some .boolean) :: jv_LT
abbrev rm_P_startsWith : Room := { frames := 1, cells := 0, slots := 0, locals := 21 }
theorem yd_P_startsWith : y_P_startsWith.cls ≠ "java/lang/invoke/MethodHandle" ∧ y_P_startsWith.cls ≠ "java/lang/invoke/VarHandle" ∧ (parseMethodDescriptor y_P_startsWith.desc).map (fun d => d.parameters.length) = some 2 := ⟨by decide +kernel, by decide +kernel, by decide +kernel⟩
abbrev cc_Fu_letsPass : ByteArray := prog_5_method_2_code
def y_Fu_letsPass : MethodName := ⟨R_Fuse, "letsPass", "()Z"⟩
abbrev ws_Fu_letsPass : List Cond := .code y_Fu_letsPass cc_Fu_letsPass 1 (some .boolean) :: jv_LT
abbrev rm_Fu_letsPass : Room := { frames := 0, cells := 0, slots := 0, locals := 0 }
theorem yd_Fu_letsPass : y_Fu_letsPass.cls ≠ "java/lang/invoke/MethodHandle" ∧ y_Fu_letsPass.cls ≠ "java/lang/invoke/VarHandle" ∧ (parseMethodDescriptor y_Fu_letsPass.desc).map (fun d => d.parameters.length) = some 0 := ⟨by decide +kernel, by decide +kernel, by decide +kernel⟩
abbrev cc_D_wordInPlace : ByteArray := prog_4_method_2_code
def y_D_wordInPlace : MethodName := ⟨R_Disk, "wordInPlace", "(II)I"⟩
abbrev ws_D_wordInPlace : List Cond := .code y_D_wordInPlace cc_D_wordInPlace 3 (some .int) :: jv_LT
abbrev rm_D_wordInPlace : Room := { frames := 0, cells := 0, slots := 0, locals := 0 }
theorem yd_D_wordInPlace : y_D_wordInPlace.cls ≠ "java/lang/invoke/MethodHandle" ∧ y_D_wordInPlace.cls ≠ "java/lang/invoke/VarHandle" ∧ (parseMethodDescriptor y_D_wordInPlace.desc).map (fun d => d.parameters.length) = some 2 := ⟨by decide +kernel, by decide +kernel, by decide +kernel⟩
abbrev cc_D_get : ByteArray := prog_4_method_3_code
def y_D_get : MethodName := ⟨R_Disk, "get", "(II)I"⟩
abbrev ws_D_get : List Cond := .code y_D_get cc_D_get 3 (some .int) :: jv_LT
abbrev rm_D_get : Room := { frames := 0, cells := 0, slots := 0, locals := 0 }
theorem yd_D_get : y_D_get.cls ≠ "java/lang/invoke/MethodHandle" ∧ y_D_get.cls ≠ "java/lang/invoke/VarHandle" ∧ (parseMethodDescriptor y_D_get.desc).map (fun d => d.parameters.length) = some 2 := ⟨by decide +kernel, by decide +kernel, by decide +kernel⟩
abbrev cc_D_inodeWord : ByteArray := prog_4_method_5_code
def y_D_inodeWord : MethodName := ⟨R_Disk, "inodeWord", "(II)I"⟩
abbrev ws_D_inodeWord : List Cond := .code y_D_inodeWord cc_D_inodeWord 3 (some .int) :: jv_LT
abbrev rm_D_inodeWord : Room := { frames := 0, cells := 0, slots := 0, locals := 0 }
theorem yd_D_inodeWord : y_D_inodeWord.cls ≠ "java/lang/invoke/MethodHandle" ∧ y_D_inodeWord.cls ≠ "java/lang/invoke/VarHandle" ∧ (parseMethodDescriptor y_D_inodeWord.desc).map (fun d => d.parameters.length) = some 2 := ⟨by decide +kernel, by decide +kernel, by decide +kernel⟩
abbrev cc_D_put : ByteArray := prog_4_method_4_code
def y_D_put : MethodName := ⟨R_Disk, "put", "(III)V"⟩
abbrev ws_D_put : List Cond := .code y_D_put cc_D_put 4 none :: jv_LT
abbrev rm_D_put : Room := { frames := 0, cells := 0, slots := 0, locals := 0 }
theorem yd_D_put : y_D_put.cls ≠ "java/lang/invoke/MethodHandle" ∧ y_D_put.cls ≠ "java/lang/invoke/VarHandle" ∧ (parseMethodDescriptor y_D_put.desc).map (fun d => d.parameters.length) = some 3 := ⟨by decide +kernel, by decide +kernel, by decide +kernel⟩
abbrev cc_D_putInodeWord : ByteArray := prog_4_method_6_code
def y_D_putInodeWord : MethodName := ⟨R_Disk, "putInodeWord", "(III)V"⟩
abbrev ws_D_putInodeWord : List Cond := .code y_D_putInodeWord cc_D_putInodeWord 4 none :: jv_LT
abbrev rm_D_putInodeWord : Room := { frames := 0, cells := 0, slots := 0, locals := 0 }
theorem yd_D_putInodeWord : y_D_putInodeWord.cls ≠ "java/lang/invoke/MethodHandle" ∧ y_D_putInodeWord.cls ≠ "java/lang/invoke/VarHandle" ∧ (parseMethodDescriptor y_D_putInodeWord.desc).map (fun d => d.parameters.length) = some 3 := ⟨by decide +kernel, by decide +kernel, by decide +kernel⟩
abbrev cc_D_zeroFrom : ByteArray := prog_4_method_7_code
def y_D_zeroFrom : MethodName := ⟨R_Disk, "zeroFrom", "(II)V"⟩
abbrev ws_D_zeroFrom : List Cond := .code y_D_zeroFrom cc_D_zeroFrom 4 none :: jv_LT
abbrev rm_D_zeroFrom : Room := { frames := 0, cells := 0, slots := 0, locals := 0 }
theorem yd_D_zeroFrom : y_D_zeroFrom.cls ≠ "java/lang/invoke/MethodHandle" ∧ y_D_zeroFrom.cls ≠ "java/lang/invoke/VarHandle" ∧ (parseMethodDescriptor y_D_zeroFrom.desc).map (fun d => d.parameters.length) = some 2 := ⟨by decide +kernel, by decide +kernel, by decide +kernel⟩
abbrev cc_D_isIn : ByteArray := prog_4_method_16_code
def y_D_isIn : MethodName := ⟨R_Disk, "isIn", "(II)Z"⟩
abbrev ws_D_isIn : List Cond := .code y_D_isIn cc_D_isIn 2 (some .boolean) :: jv_LT
abbrev rm_D_isIn : Room := { frames := 0, cells := 0, slots := 0, locals := 0 }
theorem yd_D_isIn : y_D_isIn.cls ≠ "java/lang/invoke/MethodHandle" ∧ y_D_isIn.cls ≠ "java/lang/invoke/VarHandle" ∧ (parseMethodDescriptor y_D_isIn.desc).map (fun d => d.parameters.length) = some 2 := ⟨by decide +kernel, by decide +kernel, by decide +kernel⟩
abbrev cc_D_changedBlocks : ByteArray := prog_4_method_11_code
def y_D_changedBlocks : MethodName := ⟨R_Disk, "changedBlocks", "()I"⟩
abbrev ws_D_changedBlocks : List Cond := .code y_D_changedBlocks cc_D_changedBlocks 3 (some .int) :: jv_LT
abbrev rm_D_changedBlocks : Room := { frames := 0, cells := 0, slots := 0, locals := 0 }
theorem yd_D_changedBlocks : y_D_changedBlocks.cls ≠ "java/lang/invoke/MethodHandle" ∧ y_D_changedBlocks.cls ≠ "java/lang/invoke/VarHandle" ∧ (parseMethodDescriptor y_D_changedBlocks.desc).map (fun d => d.parameters.length) = some 0 := ⟨by decide +kernel, by decide +kernel, by decide +kernel⟩
abbrev cc_D_copyBlock : ByteArray := prog_4_method_17_code
def y_D_copyBlock : MethodName := ⟨R_Disk, "copyBlock", "([I[II)V"⟩
abbrev ws_D_copyBlock : List Cond := .code y_D_copyBlock cc_D_copyBlock 3 none :: jv_LT
abbrev rm_D_copyBlock : Room := { frames := 1, cells := 0, slots := 0, locals := 18 }
theorem yd_D_copyBlock : y_D_copyBlock.cls ≠ "java/lang/invoke/MethodHandle" ∧ y_D_copyBlock.cls ≠ "java/lang/invoke/VarHandle" ∧ (parseMethodDescriptor y_D_copyBlock.desc).map (fun d => d.parameters.length) = some 3 := ⟨by decide +kernel, by decide +kernel, by decide +kernel⟩
abbrev cc_D_dropDraft : ByteArray := prog_4_method_8_code
def y_D_dropDraft : MethodName := ⟨R_Disk, "dropDraft", "()V"⟩
abbrev ws_D_dropDraft : List Cond := .code y_D_dropDraft cc_D_dropDraft 1 none :: jv_LT
abbrev rm_D_dropDraft : Room := { frames := 1, cells := 0, slots := 0, locals := 18 }
theorem yd_D_dropDraft : y_D_dropDraft.cls ≠ "java/lang/invoke/MethodHandle" ∧ y_D_dropDraft.cls ≠ "java/lang/invoke/VarHandle" ∧ (parseMethodDescriptor y_D_dropDraft.desc).map (fun d => d.parameters.length) = some 0 := ⟨by decide +kernel, by decide +kernel, by decide +kernel⟩
abbrev cc_D_recover : ByteArray := prog_4_method_10_code
def y_D_recover : MethodName := ⟨R_Disk, "recover", "()V"⟩
abbrev ws_D_recover : List Cond := .code y_D_recover cc_D_recover 2 none :: jv_LT
abbrev rm_D_recover : Room := { frames := 2, cells := 0, slots := 0, locals := 40 }
theorem yd_D_recover : y_D_recover.cls ≠ "java/lang/invoke/MethodHandle" ∧ y_D_recover.cls ≠ "java/lang/invoke/VarHandle" ∧ (parseMethodDescriptor y_D_recover.desc).map (fun d => d.parameters.length) = some 0 := ⟨by decide +kernel, by decide +kernel, by decide +kernel⟩
abbrev cc_D_countWrite : ByteArray := prog_4_method_15_code
def y_D_countWrite : MethodName := ⟨R_Disk, "countWrite", "(LLabelVault$Fuse;)Z"⟩
abbrev ws_D_countWrite : List Cond := .code y_D_countWrite cc_D_countWrite 2 (some .boolean) :: jv_LT
abbrev rm_D_countWrite : Room := { frames := 1, cells := 0, slots := 0, locals := 20 }
theorem yd_D_countWrite : y_D_countWrite.cls ≠ "java/lang/invoke/MethodHandle" ∧ y_D_countWrite.cls ≠ "java/lang/invoke/VarHandle" ∧ (parseMethodDescriptor y_D_countWrite.desc).map (fun d => d.parameters.length) = some 1 := ⟨by decide +kernel, by decide +kernel, by decide +kernel⟩
abbrev cc_D_setMark : ByteArray := prog_4_method_14_code
def y_D_setMark : MethodName := ⟨R_Disk, "setMark", "(ZLLabelVault$Fuse;)Z"⟩
abbrev ws_D_setMark : List Cond := .code y_D_setMark cc_D_setMark 3 (some .boolean) :: jv_LT
abbrev rm_D_setMark : Room := { frames := 2, cells := 0, slots := 0, locals := 41 }
theorem yd_D_setMark : y_D_setMark.cls ≠ "java/lang/invoke/MethodHandle" ∧ y_D_setMark.cls ≠ "java/lang/invoke/VarHandle" ∧ (parseMethodDescriptor y_D_setMark.desc).map (fun d => d.parameters.length) = some 2 := ⟨by decide +kernel, by decide +kernel, by decide +kernel⟩
abbrev cc_D_fillJournal : ByteArray := prog_4_method_12_code
def y_D_fillJournal : MethodName := ⟨R_Disk, "fillJournal", "(ILLabelVault$Fuse;)Z"⟩
abbrev ws_D_fillJournal : List Cond := .code y_D_fillJournal cc_D_fillJournal 4 (some .boolean) :: jv_LT
abbrev rm_D_fillJournal : Room := { frames := 2, cells := 0, slots := 0, locals := 41 }
theorem yd_D_fillJournal : y_D_fillJournal.cls ≠ "java/lang/invoke/MethodHandle" ∧ y_D_fillJournal.cls ≠ "java/lang/invoke/VarHandle" ∧ (parseMethodDescriptor y_D_fillJournal.desc).map (fun d => d.parameters.length) = some 2 := ⟨by decide +kernel, by decide +kernel, by decide +kernel⟩
abbrev cc_D_fillPlaces : ByteArray := prog_4_method_13_code
def y_D_fillPlaces : MethodName := ⟨R_Disk, "fillPlaces", "(LLabelVault$Fuse;)Z"⟩
abbrev ws_D_fillPlaces : List Cond := .code y_D_fillPlaces cc_D_fillPlaces 3 (some .boolean) :: jv_LT
abbrev rm_D_fillPlaces : Room := { frames := 2, cells := 0, slots := 0, locals := 41 }
theorem yd_D_fillPlaces : y_D_fillPlaces.cls ≠ "java/lang/invoke/MethodHandle" ∧ y_D_fillPlaces.cls ≠ "java/lang/invoke/VarHandle" ∧ (parseMethodDescriptor y_D_fillPlaces.desc).map (fun d => d.parameters.length) = some 1 := ⟨by decide +kernel, by decide +kernel, by decide +kernel⟩
abbrev cc_D_commit : ByteArray := prog_4_method_9_code
def y_D_commit : MethodName := ⟨R_Disk, "commit", "(LLabelVault$Fuse;)Z"⟩
abbrev ws_D_commit : List Cond := .code y_D_commit cc_D_commit 3 (some .boolean) :: jv_LT
abbrev rm_D_commit : Room := { frames := 3, cells := 0, slots := 0, locals := 64 }
theorem yd_D_commit : y_D_commit.cls ≠ "java/lang/invoke/MethodHandle" ∧ y_D_commit.cls ≠ "java/lang/invoke/VarHandle" ∧ (parseMethodDescriptor y_D_commit.desc).map (fun d => d.parameters.length) = some 1 := ⟨by decide +kernel, by decide +kernel, by decide +kernel⟩
abbrev cc_T_kindOf : ByteArray := prog_8_method_2_code
def y_T_kindOf : MethodName := ⟨R_Tree, "kindOf", "(I)I"⟩
abbrev ws_T_kindOf : List Cond := .code y_T_kindOf cc_T_kindOf 2 (some .int) :: jv_LT
abbrev rm_T_kindOf : Room := { frames := 1, cells := 0, slots := 0, locals := 22 }
theorem yd_T_kindOf : y_T_kindOf.cls ≠ "java/lang/invoke/MethodHandle" ∧ y_T_kindOf.cls ≠ "java/lang/invoke/VarHandle" ∧ (parseMethodDescriptor y_T_kindOf.desc).map (fun d => d.parameters.length) = some 1 := ⟨by decide +kernel, by decide +kernel, by decide +kernel⟩
abbrev cc_T_parentOf : ByteArray := prog_8_method_3_code
def y_T_parentOf : MethodName := ⟨R_Tree, "parentOf", "(I)I"⟩
abbrev ws_T_parentOf : List Cond := .code y_T_parentOf cc_T_parentOf 2 (some .int) :: jv_LT
abbrev rm_T_parentOf : Room := { frames := 1, cells := 0, slots := 0, locals := 22 }
theorem yd_T_parentOf : y_T_parentOf.cls ≠ "java/lang/invoke/MethodHandle" ∧ y_T_parentOf.cls ≠ "java/lang/invoke/VarHandle" ∧ (parseMethodDescriptor y_T_parentOf.desc).map (fun d => d.parameters.length) = some 1 := ⟨by decide +kernel, by decide +kernel, by decide +kernel⟩
abbrev cc_T_nameOf : ByteArray := prog_8_method_4_code
def y_T_nameOf : MethodName := ⟨R_Tree, "nameOf", "(I)I"⟩
abbrev ws_T_nameOf : List Cond := .code y_T_nameOf cc_T_nameOf 2 (some .int) :: jv_LT
abbrev rm_T_nameOf : Room := { frames := 1, cells := 0, slots := 0, locals := 22 }
theorem yd_T_nameOf : y_T_nameOf.cls ≠ "java/lang/invoke/MethodHandle" ∧ y_T_nameOf.cls ≠ "java/lang/invoke/VarHandle" ∧ (parseMethodDescriptor y_T_nameOf.desc).map (fun d => d.parameters.length) = some 1 := ⟨by decide +kernel, by decide +kernel, by decide +kernel⟩
abbrev cc_T_childNamed : ByteArray := prog_8_method_15_code
def y_T_childNamed : MethodName := ⟨R_Tree, "childNamed", "(II)I"⟩
abbrev ws_T_childNamed : List Cond := .code y_T_childNamed cc_T_childNamed 4 (some .int) :: jv_LT
abbrev rm_T_childNamed : Room := { frames := 1, cells := 0, slots := 0, locals := 22 }
theorem yd_T_childNamed : y_T_childNamed.cls ≠ "java/lang/invoke/MethodHandle" ∧ y_T_childNamed.cls ≠ "java/lang/invoke/VarHandle" ∧ (parseMethodDescriptor y_T_childNamed.desc).map (fun d => d.parameters.length) = some 2 := ⟨by decide +kernel, by decide +kernel, by decide +kernel⟩
abbrev cc_T_find : ByteArray := prog_8_method_5_code
def y_T_find : MethodName := ⟨R_Tree, "find", "(I)I"⟩
abbrev ws_T_find : List Cond := .code y_T_find cc_T_find 4 (some .int) :: jv_LT
abbrev rm_T_find : Room := { frames := 2, cells := 0, slots := 0, locals := 45 }
theorem yd_T_find : y_T_find.cls ≠ "java/lang/invoke/MethodHandle" ∧ y_T_find.cls ≠ "java/lang/invoke/VarHandle" ∧ (parseMethodDescriptor y_T_find.desc).map (fun d => d.parameters.length) = some 1 := ⟨by decide +kernel, by decide +kernel, by decide +kernel⟩
abbrev cc_T_kindAt : ByteArray := prog_8_method_6_code
def y_T_kindAt : MethodName := ⟨R_Tree, "kindAt", "(I)I"⟩
abbrev ws_T_kindAt : List Cond := .code y_T_kindAt cc_T_kindAt 3 (some .int) :: jv_LT
abbrev rm_T_kindAt : Room := { frames := 3, cells := 0, slots := 0, locals := 68 }
theorem yd_T_kindAt : y_T_kindAt.cls ≠ "java/lang/invoke/MethodHandle" ∧ y_T_kindAt.cls ≠ "java/lang/invoke/VarHandle" ∧ (parseMethodDescriptor y_T_kindAt.desc).map (fun d => d.parameters.length) = some 1 := ⟨by decide +kernel, by decide +kernel, by decide +kernel⟩
abbrev cc_T_hasFileAbove : ByteArray := prog_8_method_7_code
def y_T_hasFileAbove : MethodName := ⟨R_Tree, "hasFileAbove", "(I)Z"⟩
abbrev ws_T_hasFileAbove : List Cond := .code y_T_hasFileAbove cc_T_hasFileAbove 3 (some .boolean) :: jv_LT
abbrev rm_T_hasFileAbove : Room := { frames := 4, cells := 0, slots := 0, locals := 90 }
theorem yd_T_hasFileAbove : y_T_hasFileAbove.cls ≠ "java/lang/invoke/MethodHandle" ∧ y_T_hasFileAbove.cls ≠ "java/lang/invoke/VarHandle" ∧ (parseMethodDescriptor y_T_hasFileAbove.desc).map (fun d => d.parameters.length) = some 1 := ⟨by decide +kernel, by decide +kernel, by decide +kernel⟩
abbrev cc_T_namesAt : ByteArray := prog_8_method_11_code
def y_T_namesAt : MethodName := ⟨R_Tree, "namesAt", "(I)I"⟩
abbrev ws_T_namesAt : List Cond := .code y_T_namesAt cc_T_namesAt 5 (some .int) :: jv_LT
abbrev rm_T_namesAt : Room := { frames := 3, cells := 0, slots := 0, locals := 68 }
theorem yd_T_namesAt : y_T_namesAt.cls ≠ "java/lang/invoke/MethodHandle" ∧ y_T_namesAt.cls ≠ "java/lang/invoke/VarHandle" ∧ (parseMethodDescriptor y_T_namesAt.desc).map (fun d => d.parameters.length) = some 1 := ⟨by decide +kernel, by decide +kernel, by decide +kernel⟩
abbrev cc_T_childrenOf : ByteArray := prog_8_method_12_code
def y_T_childrenOf : MethodName := ⟨R_Tree, "childrenOf", "(I)I"⟩
abbrev ws_T_childrenOf : List Cond := .code y_T_childrenOf cc_T_childrenOf 4 (some .int) :: jv_LT
abbrev rm_T_childrenOf : Room := { frames := 2, cells := 0, slots := 0, locals := 43 }
theorem yd_T_childrenOf : y_T_childrenOf.cls ≠ "java/lang/invoke/MethodHandle" ∧ y_T_childrenOf.cls ≠ "java/lang/invoke/VarHandle" ∧ (parseMethodDescriptor y_T_childrenOf.desc).map (fun d => d.parameters.length) = some 1 := ⟨by decide +kernel, by decide +kernel, by decide +kernel⟩
abbrev cc_T_heightOf : ByteArray := prog_8_method_13_code
def y_T_heightOf : MethodName := ⟨R_Tree, "heightOf", "(I)I"⟩
abbrev ws_T_heightOf : List Cond := .code y_T_heightOf cc_T_heightOf 5 (some .int) :: jv_LT
abbrev rm_T_heightOf : Room := { frames := 3, cells := 0, slots := 0, locals := 66 }
theorem yd_T_heightOf : y_T_heightOf.cls ≠ "java/lang/invoke/MethodHandle" ∧ y_T_heightOf.cls ≠ "java/lang/invoke/VarHandle" ∧ (parseMethodDescriptor y_T_heightOf.desc).map (fun d => d.parameters.length) = some 1 := ⟨by decide +kernel, by decide +kernel, by decide +kernel⟩
abbrev cc_T_countFree : ByteArray := prog_8_method_14_code
def y_T_countFree : MethodName := ⟨R_Tree, "countFree", "()I"⟩
abbrev ws_T_countFree : List Cond := .code y_T_countFree cc_T_countFree 3 (some .int) :: jv_LT
abbrev rm_T_countFree : Room := { frames := 2, cells := 0, slots := 0, locals := 43 }
theorem yd_T_countFree : y_T_countFree.cls ≠ "java/lang/invoke/MethodHandle" ∧ y_T_countFree.cls ≠ "java/lang/invoke/VarHandle" ∧ (parseMethodDescriptor y_T_countFree.desc).map (fun d => d.parameters.length) = some 0 := ⟨by decide +kernel, by decide +kernel, by decide +kernel⟩
abbrev cc_T_hang : ByteArray := prog_8_method_9_code
def y_T_hang : MethodName := ⟨R_Tree, "hang", "(III)V"⟩
abbrev ws_T_hang : List Cond := .code y_T_hang cc_T_hang 4 none :: jv_LT
abbrev rm_T_hang : Room := { frames := 1, cells := 0, slots := 0, locals := 23 }
theorem yd_T_hang : y_T_hang.cls ≠ "java/lang/invoke/MethodHandle" ∧ y_T_hang.cls ≠ "java/lang/invoke/VarHandle" ∧ (parseMethodDescriptor y_T_hang.desc).map (fun d => d.parameters.length) = some 3 := ⟨by decide +kernel, by decide +kernel, by decide +kernel⟩
abbrev cc_T_erase : ByteArray := prog_8_method_10_code
def y_T_erase : MethodName := ⟨R_Tree, "erase", "(I)V"⟩
abbrev ws_T_erase : List Cond := .code y_T_erase cc_T_erase 2 none :: jv_LT
abbrev rm_T_erase : Room := { frames := 1, cells := 0, slots := 0, locals := 23 }
theorem yd_T_erase : y_T_erase.cls ≠ "java/lang/invoke/MethodHandle" ∧ y_T_erase.cls ≠ "java/lang/invoke/VarHandle" ∧ (parseMethodDescriptor y_T_erase.desc).map (fun d => d.parameters.length) = some 1 := ⟨by decide +kernel, by decide +kernel, by decide +kernel⟩
abbrev cc_T_take : ByteArray := prog_8_method_16_code
def y_T_take : MethodName := ⟨R_Tree, "take", "(III)I"⟩
abbrev ws_T_take : List Cond := .code y_T_take cc_T_take 5 (some .int) :: jv_LT
abbrev rm_T_take : Room := { frames := 2, cells := 0, slots := 0, locals := 46 }
theorem yd_T_take : y_T_take.cls ≠ "java/lang/invoke/MethodHandle" ∧ y_T_take.cls ≠ "java/lang/invoke/VarHandle" ∧ (parseMethodDescriptor y_T_take.desc).map (fun d => d.parameters.length) = some 3 := ⟨by decide +kernel, by decide +kernel, by decide +kernel⟩
abbrev cc_T_create : ByteArray := prog_8_method_8_code
def y_T_create : MethodName := ⟨R_Tree, "create", "(II)I"⟩
abbrev ws_T_create : List Cond := .code y_T_create cc_T_create 7 (some .int) :: jv_LT
abbrev rm_T_create : Room := { frames := 3, cells := 0, slots := 0, locals := 70 }
theorem yd_T_create : y_T_create.cls ≠ "java/lang/invoke/MethodHandle" ∧ y_T_create.cls ≠ "java/lang/invoke/VarHandle" ∧ (parseMethodDescriptor y_T_create.desc).map (fun d => d.parameters.length) = some 2 := ⟨by decide +kernel, by decide +kernel, by decide +kernel⟩
abbrev cc_C_blockBehind : ByteArray := prog_3_method_8_code
def y_C_blockBehind : MethodName := ⟨R_Cont, "blockBehind", "(I)I"⟩
abbrev ws_C_blockBehind : List Cond := .code y_C_blockBehind cc_C_blockBehind 1 (some .int) :: jv_LT
abbrev rm_C_blockBehind : Room := { frames := 0, cells := 0, slots := 0, locals := 0 }
theorem yd_C_blockBehind : y_C_blockBehind.cls ≠ "java/lang/invoke/MethodHandle" ∧ y_C_blockBehind.cls ≠ "java/lang/invoke/VarHandle" ∧ (parseMethodDescriptor y_C_blockBehind.desc).map (fun d => d.parameters.length) = some 1 := ⟨by decide +kernel, by decide +kernel, by decide +kernel⟩
abbrev cc_C_wordInHolder : ByteArray := prog_3_method_10_code
def y_C_wordInHolder : MethodName := ⟨R_Cont, "wordInHolder", "(I)I"⟩
abbrev ws_C_wordInHolder : List Cond := .code y_C_wordInHolder cc_C_wordInHolder 1 (some .int) :: jv_LT
abbrev rm_C_wordInHolder : Room := { frames := 0, cells := 0, slots := 0, locals := 0 }
theorem yd_C_wordInHolder : y_C_wordInHolder.cls ≠ "java/lang/invoke/MethodHandle" ∧ y_C_wordInHolder.cls ≠ "java/lang/invoke/VarHandle" ∧ (parseMethodDescriptor y_C_wordInHolder.desc).map (fun d => d.parameters.length) = some 1 := ⟨by decide +kernel, by decide +kernel, by decide +kernel⟩
abbrev cc_C_sizeOf : ByteArray := prog_3_method_2_code
def y_C_sizeOf : MethodName := ⟨R_Cont, "sizeOf", "(I)I"⟩
abbrev ws_C_sizeOf : List Cond := .code y_C_sizeOf cc_C_sizeOf 2 (some .int) :: jv_LT
abbrev rm_C_sizeOf : Room := { frames := 1, cells := 0, slots := 0, locals := 22 }
theorem yd_C_sizeOf : y_C_sizeOf.cls ≠ "java/lang/invoke/MethodHandle" ∧ y_C_sizeOf.cls ≠ "java/lang/invoke/VarHandle" ∧ (parseMethodDescriptor y_C_sizeOf.desc).map (fun d => d.parameters.length) = some 1 := ⟨by decide +kernel, by decide +kernel, by decide +kernel⟩
abbrev cc_C_holderOf : ByteArray := prog_3_method_9_code
def y_C_holderOf : MethodName := ⟨R_Cont, "holderOf", "(II)I"⟩
abbrev ws_C_holderOf : List Cond := .code y_C_holderOf cc_C_holderOf 4 (some .int) :: jv_LT
abbrev rm_C_holderOf : Room := { frames := 1, cells := 0, slots := 0, locals := 22 }
theorem yd_C_holderOf : y_C_holderOf.cls ≠ "java/lang/invoke/MethodHandle" ∧ y_C_holderOf.cls ≠ "java/lang/invoke/VarHandle" ∧ (parseMethodDescriptor y_C_holderOf.desc).map (fun d => d.parameters.length) = some 2 := ⟨by decide +kernel, by decide +kernel, by decide +kernel⟩
abbrev cc_C_pointerTo : ByteArray := prog_3_method_11_code
def y_C_pointerTo : MethodName := ⟨R_Cont, "pointerTo", "(II)I"⟩
abbrev ws_C_pointerTo : List Cond := .code y_C_pointerTo cc_C_pointerTo 4 (some .int) :: jv_LT
abbrev rm_C_pointerTo : Room := { frames := 2, cells := 0, slots := 0, locals := 45 }
theorem yd_C_pointerTo : y_C_pointerTo.cls ≠ "java/lang/invoke/MethodHandle" ∧ y_C_pointerTo.cls ≠ "java/lang/invoke/VarHandle" ∧ (parseMethodDescriptor y_C_pointerTo.desc).map (fun d => d.parameters.length) = some 2 := ⟨by decide +kernel, by decide +kernel, by decide +kernel⟩
abbrev cc_C_wordOf : ByteArray := prog_3_method_3_code
def y_C_wordOf : MethodName := ⟨R_Cont, "wordOf", "(II)I"⟩
abbrev ws_C_wordOf : List Cond := .code y_C_wordOf cc_C_wordOf 4 (some .int) :: jv_LT
abbrev rm_C_wordOf : Room := { frames := 3, cells := 0, slots := 0, locals := 68 }
theorem yd_C_wordOf : y_C_wordOf.cls ≠ "java/lang/invoke/MethodHandle" ∧ y_C_wordOf.cls ≠ "java/lang/invoke/VarHandle" ∧ (parseMethodDescriptor y_C_wordOf.desc).map (fun d => d.parameters.length) = some 2 := ⟨by decide +kernel, by decide +kernel, by decide +kernel⟩
abbrev cc_C_isIndirectEmpty : ByteArray := prog_3_method_17_code
def y_C_isIndirectEmpty : MethodName := ⟨R_Cont, "isIndirectEmpty", "(I)Z"⟩
abbrev ws_C_isIndirectEmpty : List Cond := .code y_C_isIndirectEmpty cc_C_isIndirectEmpty 4 (some .boolean) :: jv_LT
abbrev rm_C_isIndirectEmpty : Room := { frames := 1, cells := 0, slots := 0, locals := 22 }
theorem yd_C_isIndirectEmpty : y_C_isIndirectEmpty.cls ≠ "java/lang/invoke/MethodHandle" ∧ y_C_isIndirectEmpty.cls ≠ "java/lang/invoke/VarHandle" ∧ (parseMethodDescriptor y_C_isIndirectEmpty.desc).map (fun d => d.parameters.length) = some 1 := ⟨by decide +kernel, by decide +kernel, by decide +kernel⟩
abbrev cc_C_takePointer : ByteArray := prog_3_method_14_code
def y_C_takePointer : MethodName := ⟨R_Cont, "takePointer", "()I"⟩
abbrev ws_C_takePointer : List Cond := .code y_C_takePointer cc_C_takePointer 3 (some .int) :: jv_LT
abbrev rm_C_takePointer : Room := { frames := 1, cells := 0, slots := 0, locals := 23 }
theorem yd_C_takePointer : y_C_takePointer.cls ≠ "java/lang/invoke/MethodHandle" ∧ y_C_takePointer.cls ≠ "java/lang/invoke/VarHandle" ∧ (parseMethodDescriptor y_C_takePointer.desc).map (fun d => d.parameters.length) = some 0 := ⟨by decide +kernel, by decide +kernel, by decide +kernel⟩
abbrev cc_C_takeBehind : ByteArray := prog_3_method_13_code
def y_C_takeBehind : MethodName := ⟨R_Cont, "takeBehind", "(II)I"⟩
abbrev ws_C_takeBehind : List Cond := .code y_C_takeBehind cc_C_takeBehind 3 (some .int) :: jv_LT
abbrev rm_C_takeBehind : Room := { frames := 2, cells := 0, slots := 0, locals := 45 }
theorem yd_C_takeBehind : y_C_takeBehind.cls ≠ "java/lang/invoke/MethodHandle" ∧ y_C_takeBehind.cls ≠ "java/lang/invoke/VarHandle" ∧ (parseMethodDescriptor y_C_takeBehind.desc).map (fun d => d.parameters.length) = some 2 := ⟨by decide +kernel, by decide +kernel, by decide +kernel⟩
abbrev cc_C_takenBlock : ByteArray := prog_3_method_12_code
def y_C_takenBlock : MethodName := ⟨R_Cont, "takenBlock", "(II)I"⟩
abbrev ws_C_takenBlock : List Cond := .code y_C_takenBlock cc_C_takenBlock 4 (some .int) :: jv_LT
abbrev rm_C_takenBlock : Room := { frames := 3, cells := 0, slots := 0, locals := 67 }
theorem yd_C_takenBlock : y_C_takenBlock.cls ≠ "java/lang/invoke/MethodHandle" ∧ y_C_takenBlock.cls ≠ "java/lang/invoke/VarHandle" ∧ (parseMethodDescriptor y_C_takenBlock.desc).map (fun d => d.parameters.length) = some 2 := ⟨by decide +kernel, by decide +kernel, by decide +kernel⟩
abbrev cc_C_store : ByteArray := prog_3_method_4_code
def y_C_store : MethodName := ⟨R_Cont, "store", "(III)Z"⟩
abbrev ws_C_store : List Cond := .code y_C_store cc_C_store 5 (some .boolean) :: jv_LT
abbrev rm_C_store : Room := { frames := 4, cells := 0, slots := 0, locals := 90 }
theorem yd_C_store : y_C_store.cls ≠ "java/lang/invoke/MethodHandle" ∧ y_C_store.cls ≠ "java/lang/invoke/VarHandle" ∧ (parseMethodDescriptor y_C_store.desc).map (fun d => d.parameters.length) = some 3 := ⟨by decide +kernel, by decide +kernel, by decide +kernel⟩
abbrev cc_C_release : ByteArray := prog_3_method_16_code
def y_C_release : MethodName := ⟨R_Cont, "release", "(I)I"⟩
abbrev ws_C_release : List Cond := .code y_C_release cc_C_release 2 (some .int) :: jv_LT
abbrev rm_C_release : Room := { frames := 1, cells := 0, slots := 0, locals := 23 }
theorem yd_C_release : y_C_release.cls ≠ "java/lang/invoke/MethodHandle" ∧ y_C_release.cls ≠ "java/lang/invoke/VarHandle" ∧ (parseMethodDescriptor y_C_release.desc).map (fun d => d.parameters.length) = some 1 := ⟨by decide +kernel, by decide +kernel, by decide +kernel⟩
abbrev cc_C_dropPointer : ByteArray := prog_3_method_15_code
def y_C_dropPointer : MethodName := ⟨R_Cont, "dropPointer", "(II)I"⟩
abbrev ws_C_dropPointer : List Cond := .code y_C_dropPointer cc_C_dropPointer 4 (some .int) :: jv_LT
abbrev rm_C_dropPointer : Room := { frames := 2, cells := 0, slots := 0, locals := 44 }
theorem yd_C_dropPointer : y_C_dropPointer.cls ≠ "java/lang/invoke/MethodHandle" ∧ y_C_dropPointer.cls ≠ "java/lang/invoke/VarHandle" ∧ (parseMethodDescriptor y_C_dropPointer.desc).map (fun d => d.parameters.length) = some 2 := ⟨by decide +kernel, by decide +kernel, by decide +kernel⟩
abbrev cc_C_zeroBehind : ByteArray := prog_3_method_18_code
def y_C_zeroBehind : MethodName := ⟨R_Cont, "zeroBehind", "(II)V"⟩
abbrev ws_C_zeroBehind : List Cond := .code y_C_zeroBehind cc_C_zeroBehind 4 none :: jv_LT
abbrev rm_C_zeroBehind : Room := { frames := 3, cells := 0, slots := 0, locals := 68 }
theorem yd_C_zeroBehind : y_C_zeroBehind.cls ≠ "java/lang/invoke/MethodHandle" ∧ y_C_zeroBehind.cls ≠ "java/lang/invoke/VarHandle" ∧ (parseMethodDescriptor y_C_zeroBehind.desc).map (fun d => d.parameters.length) = some 2 := ⟨by decide +kernel, by decide +kernel, by decide +kernel⟩
abbrev cc_C_cut : ByteArray := prog_3_method_5_code
def y_C_cut : MethodName := ⟨R_Cont, "cut", "(II)I"⟩
abbrev ws_C_cut : List Cond := .code y_C_cut cc_C_cut 5 (some .int) :: jv_LT
abbrev rm_C_cut : Room := { frames := 4, cells := 0, slots := 0, locals := 91 }
theorem yd_C_cut : y_C_cut.cls ≠ "java/lang/invoke/MethodHandle" ∧ y_C_cut.cls ≠ "java/lang/invoke/VarHandle" ∧ (parseMethodDescriptor y_C_cut.desc).map (fun d => d.parameters.length) = some 2 := ⟨by decide +kernel, by decide +kernel, by decide +kernel⟩
abbrev cc_C_releaseAll : ByteArray := prog_3_method_6_code
def y_C_releaseAll : MethodName := ⟨R_Cont, "releaseAll", "(I)V"⟩
abbrev ws_C_releaseAll : List Cond := .code y_C_releaseAll cc_C_releaseAll 3 none :: jv_LT
abbrev rm_C_releaseAll : Room := { frames := 3, cells := 0, slots := 0, locals := 68 }
theorem yd_C_releaseAll : y_C_releaseAll.cls ≠ "java/lang/invoke/MethodHandle" ∧ y_C_releaseAll.cls ≠ "java/lang/invoke/VarHandle" ∧ (parseMethodDescriptor y_C_releaseAll.desc).map (fun d => d.parameters.length) = some 1 := ⟨by decide +kernel, by decide +kernel, by decide +kernel⟩
abbrev cc_J_bitCount : ByteArray := prog_15_method_49_code
def y_J_bitCount : MethodName := ⟨R_Integer, "bitCount", "(I)I"⟩
abbrev ws_J_bitCount : List Cond := .code y_J_bitCount cc_J_bitCount 1 (some .int) :: jv_LT
abbrev rm_J_bitCount : Room := { frames := 0, cells := 0, slots := 0, locals := 0 }
theorem yd_J_bitCount : y_J_bitCount.cls ≠ "java/lang/invoke/MethodHandle" ∧ y_J_bitCount.cls ≠ "java/lang/invoke/VarHandle" ∧ (parseMethodDescriptor y_J_bitCount.desc).map (fun d => d.parameters.length) = some 1 := ⟨by decide +kernel, by decide +kernel, by decide +kernel⟩
abbrev cc_C_countFree : ByteArray := prog_3_method_7_code
def y_C_countFree : MethodName := ⟨R_Cont, "countFree", "()I"⟩
abbrev ws_C_countFree : List Cond := .code y_C_countFree cc_C_countFree 1 (some .int) :: jv_LT
abbrev rm_C_countFree : Room := { frames := 1, cells := 0, slots := 0, locals := 22 }
theorem yd_C_countFree : y_C_countFree.cls ≠ "java/lang/invoke/MethodHandle" ∧ y_C_countFree.cls ≠ "java/lang/invoke/VarHandle" ∧ (parseMethodDescriptor y_C_countFree.desc).map (fun d => d.parameters.length) = some 0 := ⟨by decide +kernel, by decide +kernel, by decide +kernel⟩
abbrev cc_J_fill : ByteArray := prog_21_method_103_code
def y_J_fill : MethodName := ⟨R_Arrays, "fill", "([II)V"⟩
abbrev ws_J_fill : List Cond := .code y_J_fill cc_J_fill 4 none :: jv_LT
abbrev rm_J_fill : Room := { frames := 0, cells := 0, slots := 0, locals := 0 }
theorem yd_J_fill : y_J_fill.cls ≠ "java/lang/invoke/MethodHandle" ∧ y_J_fill.cls ≠ "java/lang/invoke/VarHandle" ∧ (parseMethodDescriptor y_J_fill.desc).map (fun d => d.parameters.length) = some 2 := ⟨by decide +kernel, by decide +kernel, by decide +kernel⟩
abbrev cc_A_dismissAll : ByteArray := prog_2_method_4_code
def y_A_dismissAll : MethodName := ⟨R_Area, "dismissAll", "()V"⟩
abbrev ws_A_dismissAll : List Cond := .code y_A_dismissAll cc_A_dismissAll 1 none :: jv_LT
abbrev rm_A_dismissAll : Room := { frames := 1, cells := 0, slots := 0, locals := 23 }
theorem yd_A_dismissAll : y_A_dismissAll.cls ≠ "java/lang/invoke/MethodHandle" ∧ y_A_dismissAll.cls ≠ "java/lang/invoke/VarHandle" ∧ (parseMethodDescriptor y_A_dismissAll.desc).map (fun d => d.parameters.length) = some 0 := ⟨by decide +kernel, by decide +kernel, by decide +kernel⟩
abbrev cc_A_admit : ByteArray := prog_2_method_2_code
def y_A_admit : MethodName := ⟨R_Area, "admit", "(I)I"⟩
abbrev ws_A_admit : List Cond := .code y_A_admit cc_A_admit 3 (some .int) :: jv_LT
abbrev rm_A_admit : Room := { frames := 0, cells := 0, slots := 0, locals := 0 }
theorem yd_A_admit : y_A_admit.cls ≠ "java/lang/invoke/MethodHandle" ∧ y_A_admit.cls ≠ "java/lang/invoke/VarHandle" ∧ (parseMethodDescriptor y_A_admit.desc).map (fun d => d.parameters.length) = some 1 := ⟨by decide +kernel, by decide +kernel, by decide +kernel⟩
abbrev cc_A_dismiss : ByteArray := prog_2_method_3_code
def y_A_dismiss : MethodName := ⟨R_Area, "dismiss", "(I)I"⟩
abbrev ws_A_dismiss : List Cond := .code y_A_dismiss cc_A_dismiss 3 (some .int) :: jv_LT
abbrev rm_A_dismiss : Room := { frames := 0, cells := 0, slots := 0, locals := 0 }
theorem yd_A_dismiss : y_A_dismiss.cls ≠ "java/lang/invoke/MethodHandle" ∧ y_A_dismiss.cls ≠ "java/lang/invoke/VarHandle" ∧ (parseMethodDescriptor y_A_dismiss.desc).map (fun d => d.parameters.length) = some 1 := ⟨by decide +kernel, by decide +kernel, by decide +kernel⟩
abbrev cc_A_countSessions : ByteArray := prog_2_method_5_code
def y_A_countSessions : MethodName := ⟨R_Area, "countSessions", "()I"⟩
abbrev ws_A_countSessions : List Cond := .code y_A_countSessions cc_A_countSessions 3 (some .int) :: jv_LT
abbrev rm_A_countSessions : Room := { frames := 0, cells := 0, slots := 0, locals := 0 }
theorem yd_A_countSessions : y_A_countSessions.cls ≠ "java/lang/invoke/MethodHandle" ∧ y_A_countSessions.cls ≠ "java/lang/invoke/VarHandle" ∧ (parseMethodDescriptor y_A_countSessions.desc).map (fun d => d.parameters.length) = some 0 := ⟨by decide +kernel, by decide +kernel, by decide +kernel⟩
abbrev cc_M_isLabel : ByteArray := prog_10_method_3_code
def y_M_isLabel : MethodName := ⟨R_Model, "isLabel", "(I)Z"⟩
abbrev ws_M_isLabel : List Cond := .code y_M_isLabel cc_M_isLabel 1 (some .boolean) :: jv_LT
abbrev rm_M_isLabel : Room := { frames := 0, cells := 0, slots := 0, locals := 0 }
theorem yd_M_isLabel : y_M_isLabel.cls ≠ "java/lang/invoke/MethodHandle" ∧ y_M_isLabel.cls ≠ "java/lang/invoke/VarHandle" ∧ (parseMethodDescriptor y_M_isLabel.desc).map (fun d => d.parameters.length) = some 1 := ⟨by decide +kernel, by decide +kernel, by decide +kernel⟩
abbrev cc_M_among : ByteArray := prog_10_method_4_code
def y_M_among : MethodName := ⟨R_Model, "among", "(IIII)Z"⟩
abbrev ws_M_among : List Cond := .code y_M_among cc_M_among 4 (some .boolean) :: jv_LT
abbrev rm_M_among : Room := { frames := 0, cells := 0, slots := 0, locals := 0 }
theorem yd_M_among : y_M_among.cls ≠ "java/lang/invoke/MethodHandle" ∧ y_M_among.cls ≠ "java/lang/invoke/VarHandle" ∧ (parseMethodDescriptor y_M_among.desc).map (fun d => d.parameters.length) = some 4 := ⟨by decide +kernel, by decide +kernel, by decide +kernel⟩
abbrev cc_M_flow : ByteArray := prog_10_method_5_code
def y_M_flow : MethodName := ⟨R_Model, "flow", "(II)Z"⟩
abbrev ws_M_flow : List Cond := .code y_M_flow cc_M_flow 2 (some .boolean) :: jv_LT
abbrev rm_M_flow : Room := { frames := 1, cells := 0, slots := 0, locals := 23 }
theorem yd_M_flow : y_M_flow.cls ≠ "java/lang/invoke/MethodHandle" ∧ y_M_flow.cls ≠ "java/lang/invoke/VarHandle" ∧ (parseMethodDescriptor y_M_flow.desc).map (fun d => d.parameters.length) = some 2 := ⟨by decide +kernel, by decide +kernel, by decide +kernel⟩
abbrev cc_M_names : ByteArray := prog_10_method_13_code
def y_M_names : MethodName := ⟨R_Model, "names", "(I)I"⟩
abbrev ws_M_names : List Cond := .code y_M_names cc_M_names 6 (some .int) :: jv_LT
abbrev rm_M_names : Room := { frames := 0, cells := 0, slots := 0, locals := 0 }
theorem yd_M_names : y_M_names.cls ≠ "java/lang/invoke/MethodHandle" ∧ y_M_names.cls ≠ "java/lang/invoke/VarHandle" ∧ (parseMethodDescriptor y_M_names.desc).map (fun d => d.parameters.length) = some 1 := ⟨by decide +kernel, by decide +kernel, by decide +kernel⟩
abbrev cc_M_isPath : ByteArray := prog_10_method_14_code
def y_M_isPath : MethodName := ⟨R_Model, "isPath", "(I)Z"⟩
abbrev ws_M_isPath : List Cond := .code y_M_isPath cc_M_isPath 1 (some .boolean) :: jv_LT
abbrev rm_M_isPath : Room := { frames := 1, cells := 0, slots := 0, locals := 25 }
theorem yd_M_isPath : y_M_isPath.cls ≠ "java/lang/invoke/MethodHandle" ∧ y_M_isPath.cls ≠ "java/lang/invoke/VarHandle" ∧ (parseMethodDescriptor y_M_isPath.desc).map (fun d => d.parameters.length) = some 1 := ⟨by decide +kernel, by decide +kernel, by decide +kernel⟩
abbrev cc_M_prefix : ByteArray := prog_10_method_15_code
def y_M_prefix : MethodName := ⟨R_Model, "prefix", "(II)I"⟩
abbrev ws_M_prefix : List Cond := .code y_M_prefix cc_M_prefix 4 (some .int) :: jv_LT
abbrev rm_M_prefix : Room := { frames := 1, cells := 0, slots := 0, locals := 25 }
theorem yd_M_prefix : y_M_prefix.cls ≠ "java/lang/invoke/MethodHandle" ∧ y_M_prefix.cls ≠ "java/lang/invoke/VarHandle" ∧ (parseMethodDescriptor y_M_prefix.desc).map (fun d => d.parameters.length) = some 2 := ⟨by decide +kernel, by decide +kernel, by decide +kernel⟩
abbrev cc_M_thrown : ByteArray := prog_10_method_2_code
def y_M_thrown : MethodName := ⟨R_Model, "thrown", "()I"⟩
abbrev ws_M_thrown : List Cond := .code y_M_thrown cc_M_thrown 1 (some .int) :: jv_LT
abbrev rm_M_thrown : Room := { frames := 0, cells := 0, slots := 0, locals := 0 }
theorem yd_M_thrown : y_M_thrown.cls ≠ "java/lang/invoke/MethodHandle" ∧ y_M_thrown.cls ≠ "java/lang/invoke/VarHandle" ∧ (parseMethodDescriptor y_M_thrown.desc).map (fun d => d.parameters.length) = some 0 := ⟨by decide +kernel, by decide +kernel, by decide +kernel⟩
abbrev cc_M_isArea : ByteArray := prog_10_method_7_code
def y_M_isArea : MethodName := ⟨R_Model, "isArea", "(I)Z"⟩
abbrev ws_M_isArea : List Cond := .code y_M_isArea cc_M_isArea 2 (some .boolean) :: jv_LT
abbrev rm_M_isArea : Room := { frames := 0, cells := 0, slots := 0, locals := 0 }
theorem yd_M_isArea : y_M_isArea.cls ≠ "java/lang/invoke/MethodHandle" ∧ y_M_isArea.cls ≠ "java/lang/invoke/VarHandle" ∧ (parseMethodDescriptor y_M_isArea.desc).map (fun d => d.parameters.length) = some 1 := ⟨by decide +kernel, by decide +kernel, by decide +kernel⟩
abbrev cc_M_isSession : ByteArray := prog_10_method_11_code
def y_M_isSession : MethodName := ⟨R_Model, "isSession", "(I)Z"⟩
abbrev ws_M_isSession : List Cond := .code y_M_isSession cc_M_isSession 2 (some .boolean) :: jv_LT
abbrev rm_M_isSession : Room := { frames := 0, cells := 0, slots := 0, locals := 0 }
theorem yd_M_isSession : y_M_isSession.cls ≠ "java/lang/invoke/MethodHandle" ∧ y_M_isSession.cls ≠ "java/lang/invoke/VarHandle" ∧ (parseMethodDescriptor y_M_isSession.desc).map (fun d => d.parameters.length) = some 1 := ⟨by decide +kernel, by decide +kernel, by decide +kernel⟩
abbrev cc_M_inode : ByteArray := prog_10_method_16_code
def y_M_inode : MethodName := ⟨R_Model, "inode", "(III)I"⟩
abbrev ws_M_inode : List Cond := .code y_M_inode cc_M_inode 4 (some .int) :: jv_LT
abbrev rm_M_inode : Room := { frames := 0, cells := 0, slots := 0, locals := 0 }
theorem yd_M_inode : y_M_inode.cls ≠ "java/lang/invoke/MethodHandle" ∧ y_M_inode.cls ≠ "java/lang/invoke/VarHandle" ∧ (parseMethodDescriptor y_M_inode.desc).map (fun d => d.parameters.length) = some 3 := ⟨by decide +kernel, by decide +kernel, by decide +kernel⟩
abbrev cc_M_find : ByteArray := prog_10_method_17_code
def y_M_find : MethodName := ⟨R_Model, "find", "(II)I"⟩
abbrev ws_M_find : List Cond := .code y_M_find cc_M_find 9 (some .int) :: jv_LT
abbrev rm_M_find : Room := { frames := 2, cells := 0, slots := 0, locals := 48 }
theorem yd_M_find : y_M_find.cls ≠ "java/lang/invoke/MethodHandle" ∧ y_M_find.cls ≠ "java/lang/invoke/VarHandle" ∧ (parseMethodDescriptor y_M_find.desc).map (fun d => d.parameters.length) = some 2 := ⟨by decide +kernel, by decide +kernel, by decide +kernel⟩
abbrev cc_M_kind : ByteArray := prog_10_method_18_code
def y_M_kind : MethodName := ⟨R_Model, "kind", "(II)I"⟩
abbrev ws_M_kind : List Cond := .code y_M_kind cc_M_kind 4 (some .int) :: jv_LT
abbrev rm_M_kind : Room := { frames := 3, cells := 0, slots := 0, locals := 76 }
theorem yd_M_kind : y_M_kind.cls ≠ "java/lang/invoke/MethodHandle" ∧ y_M_kind.cls ≠ "java/lang/invoke/VarHandle" ∧ (parseMethodDescriptor y_M_kind.desc).map (fun d => d.parameters.length) = some 2 := ⟨by decide +kernel, by decide +kernel, by decide +kernel⟩
abbrev cc_M_sees : ByteArray := prog_10_method_19_code
def y_M_sees : MethodName := ⟨R_Model, "sees", "(II)Z"⟩
abbrev ws_M_sees : List Cond := .code y_M_sees cc_M_sees 3 (some .boolean) :: jv_LT
abbrev rm_M_sees : Room := { frames := 2, cells := 0, slots := 0, locals := 44 }
theorem yd_M_sees : y_M_sees.cls ≠ "java/lang/invoke/MethodHandle" ∧ y_M_sees.cls ≠ "java/lang/invoke/VarHandle" ∧ (parseMethodDescriptor y_M_sees.desc).map (fun d => d.parameters.length) = some 2 := ⟨by decide +kernel, by decide +kernel, by decide +kernel⟩
abbrev cc_M_visible : ByteArray := prog_10_method_20_code
def y_M_visible : MethodName := ⟨R_Model, "visible", "(III)Z"⟩
abbrev ws_M_visible : List Cond := .code y_M_visible cc_M_visible 7 (some .boolean) :: jv_LT
abbrev rm_M_visible : Room := { frames := 4, cells := 0, slots := 0, locals := 99 }
theorem yd_M_visible : y_M_visible.cls ≠ "java/lang/invoke/MethodHandle" ∧ y_M_visible.cls ≠ "java/lang/invoke/VarHandle" ∧ (parseMethodDescriptor y_M_visible.desc).map (fun d => d.parameters.length) = some 3 := ⟨by decide +kernel, by decide +kernel, by decide +kernel⟩
abbrev cc_M_freeInodes : ByteArray := prog_10_method_24_code
def y_M_freeInodes : MethodName := ⟨R_Model, "freeInodes", "(I)I"⟩
abbrev ws_M_freeInodes : List Cond := .code y_M_freeInodes cc_M_freeInodes 4 (some .int) :: jv_LT
abbrev rm_M_freeInodes : Room := { frames := 1, cells := 0, slots := 0, locals := 23 }
theorem yd_M_freeInodes : y_M_freeInodes.cls ≠ "java/lang/invoke/MethodHandle" ∧ y_M_freeInodes.cls ≠ "java/lang/invoke/VarHandle" ∧ (parseMethodDescriptor y_M_freeInodes.desc).map (fun d => d.parameters.length) = some 1 := ⟨by decide +kernel, by decide +kernel, by decide +kernel⟩
abbrev cc_M_freeBlocks : ByteArray := prog_10_method_25_code
def y_M_freeBlocks : MethodName := ⟨R_Model, "freeBlocks", "(I)I"⟩
abbrev ws_M_freeBlocks : List Cond := .code y_M_freeBlocks cc_M_freeBlocks 4 (some .int) :: jv_LT
abbrev rm_M_freeBlocks : Room := { frames := 0, cells := 0, slots := 0, locals := 0 }
theorem yd_M_freeBlocks : y_M_freeBlocks.cls ≠ "java/lang/invoke/MethodHandle" ∧ y_M_freeBlocks.cls ≠ "java/lang/invoke/VarHandle" ∧ (parseMethodDescriptor y_M_freeBlocks.desc).map (fun d => d.parameters.length) = some 1 := ⟨by decide +kernel, by decide +kernel, by decide +kernel⟩
abbrev cc_M_refusal : ByteArray := prog_10_method_27_code
def y_M_refusal : MethodName := ⟨R_Model, "refusal", "(II)I"⟩
abbrev ws_M_refusal : List Cond := .code y_M_refusal cc_M_refusal 3 (some .int) :: jv_LT
abbrev rm_M_refusal : Room := { frames := 5, cells := 0, slots := 0, locals := 125 }
theorem yd_M_refusal : y_M_refusal.cls ≠ "java/lang/invoke/MethodHandle" ∧ y_M_refusal.cls ≠ "java/lang/invoke/VarHandle" ∧ (parseMethodDescriptor y_M_refusal.desc).map (fun d => d.parameters.length) = some 2 := ⟨by decide +kernel, by decide +kernel, by decide +kernel⟩
abbrev cc_M_pointer : ByteArray := prog_10_method_29_code
def y_M_pointer : MethodName := ⟨R_Model, "pointer", "(II)I"⟩
abbrev ws_M_pointer : List Cond := .code y_M_pointer cc_M_pointer 4 (some .int) :: jv_LT
abbrev rm_M_pointer : Room := { frames := 0, cells := 0, slots := 0, locals := 0 }
theorem yd_M_pointer : y_M_pointer.cls ≠ "java/lang/invoke/MethodHandle" ∧ y_M_pointer.cls ≠ "java/lang/invoke/VarHandle" ∧ (parseMethodDescriptor y_M_pointer.desc).map (fun d => d.parameters.length) = some 2 := ⟨by decide +kernel, by decide +kernel, by decide +kernel⟩
abbrev cc_M_hasChild : ByteArray := prog_10_method_33_code
def y_M_hasChild : MethodName := ⟨R_Model, "hasChild", "(II)Z"⟩
abbrev ws_M_hasChild : List Cond := .code y_M_hasChild cc_M_hasChild 5 (some .boolean) :: jv_LT
abbrev rm_M_hasChild : Room := { frames := 1, cells := 0, slots := 0, locals := 23 }
theorem yd_M_hasChild : y_M_hasChild.cls ≠ "java/lang/invoke/MethodHandle" ∧ y_M_hasChild.cls ≠ "java/lang/invoke/VarHandle" ∧ (parseMethodDescriptor y_M_hasChild.desc).map (fun d => d.parameters.length) = some 2 := ⟨by decide +kernel, by decide +kernel, by decide +kernel⟩
abbrev cc_M_below : ByteArray := prog_10_method_35_code
def y_M_below : MethodName := ⟨R_Model, "below", "(III)I"⟩
abbrev ws_M_below : List Cond := .code y_M_below cc_M_below 6 (some .int) :: jv_LT
abbrev rm_M_below : Room := { frames := 1, cells := 0, slots := 0, locals := 23 }
theorem yd_M_below : y_M_below.cls ≠ "java/lang/invoke/MethodHandle" ∧ y_M_below.cls ≠ "java/lang/invoke/VarHandle" ∧ (parseMethodDescriptor y_M_below.desc).map (fun d => d.parameters.length) = some 3 := ⟨by decide +kernel, by decide +kernel, by decide +kernel⟩
abbrev cc_M_unreadable : ByteArray := prog_10_method_37_code
def y_M_unreadable : MethodName := ⟨R_Model, "unreadable", "(III)I"⟩
abbrev ws_M_unreadable : List Cond := .code y_M_unreadable cc_M_unreadable 5 (some .int) :: jv_LT
abbrev rm_M_unreadable : Room := { frames := 4, cells := 0, slots := 0, locals := 99 }
theorem yd_M_unreadable : y_M_unreadable.cls ≠ "java/lang/invoke/MethodHandle" ∧ y_M_unreadable.cls ≠ "java/lang/invoke/VarHandle" ∧ (parseMethodDescriptor y_M_unreadable.desc).map (fun d => d.parameters.length) = some 3 := ⟨by decide +kernel, by decide +kernel, by decide +kernel⟩
abbrev cc_M_flows : ByteArray := prog_10_method_6_code
def y_M_flows : MethodName := ⟨R_Model, "flows", "(II)Z"⟩
abbrev ws_M_flows : List Cond := .code y_M_flows cc_M_flows 3 (some .boolean) :: jv_LT
abbrev rm_M_flows : Room := { frames := 2, cells := 0, slots := 0, locals := 44 }
theorem yd_M_flows : y_M_flows.cls ≠ "java/lang/invoke/MethodHandle" ∧ y_M_flows.cls ≠ "java/lang/invoke/VarHandle" ∧ (parseMethodDescriptor y_M_flows.desc).map (fun d => d.parameters.length) = some 2 := ⟨by decide +kernel, by decide +kernel, by decide +kernel⟩
abbrev cc_M_area : ByteArray := prog_10_method_8_code
def y_M_area : MethodName := ⟨R_Model, "area", "(I)I"⟩
abbrev ws_M_area : List Cond := .code y_M_area cc_M_area 4 (some .int) :: jv_LT
abbrev rm_M_area : Room := { frames := 1, cells := 0, slots := 0, locals := 20 }
theorem yd_M_area : y_M_area.cls ≠ "java/lang/invoke/MethodHandle" ∧ y_M_area.cls ≠ "java/lang/invoke/VarHandle" ∧ (parseMethodDescriptor y_M_area.desc).map (fun d => d.parameters.length) = some 1 := ⟨by decide +kernel, by decide +kernel, by decide +kernel⟩
abbrev cc_M_clear : ByteArray := prog_10_method_9_code
def y_M_clear : MethodName := ⟨R_Model, "clear", "(II)Z"⟩
abbrev ws_M_clear : List Cond := .code y_M_clear cc_M_clear 3 (some .boolean) :: jv_LT
abbrev rm_M_clear : Room := { frames := 1, cells := 0, slots := 0, locals := 20 }
theorem yd_M_clear : y_M_clear.cls ≠ "java/lang/invoke/MethodHandle" ∧ y_M_clear.cls ≠ "java/lang/invoke/VarHandle" ∧ (parseMethodDescriptor y_M_clear.desc).map (fun d => d.parameters.length) = some 2 := ⟨by decide +kernel, by decide +kernel, by decide +kernel⟩
abbrev cc_M_login : ByteArray := prog_10_method_10_code
def y_M_login : MethodName := ⟨R_Model, "login", "(II)I"⟩
abbrev ws_M_login : List Cond := .code y_M_login cc_M_login 7 (some .int) :: jv_LT
abbrev rm_M_login : Room := { frames := 1, cells := 0, slots := 0, locals := 23 }
theorem yd_M_login : y_M_login.cls ≠ "java/lang/invoke/MethodHandle" ∧ y_M_login.cls ≠ "java/lang/invoke/VarHandle" ∧ (parseMethodDescriptor y_M_login.desc).map (fun d => d.parameters.length) = some 2 := ⟨by decide +kernel, by decide +kernel, by decide +kernel⟩
abbrev cc_M_logout : ByteArray := prog_10_method_12_code
def y_M_logout : MethodName := ⟨R_Model, "logout", "(I)I"⟩
abbrev ws_M_logout : List Cond := .code y_M_logout cc_M_logout 3 (some .int) :: jv_LT
abbrev rm_M_logout : Room := { frames := 1, cells := 0, slots := 0, locals := 21 }
theorem yd_M_logout : y_M_logout.cls ≠ "java/lang/invoke/MethodHandle" ∧ y_M_logout.cls ≠ "java/lang/invoke/VarHandle" ∧ (parseMethodDescriptor y_M_logout.desc).map (fun d => d.parameters.length) = some 1 := ⟨by decide +kernel, by decide +kernel, by decide +kernel⟩
abbrev cc_M_start : ByteArray := prog_10_method_21_code
def y_M_start : MethodName := ⟨R_Model, "start", "(I)V"⟩
abbrev ws_M_start : List Cond := .code y_M_start cc_M_start 3 none :: jv_LT
abbrev rm_M_start : Room := { frames := 0, cells := 0, slots := 0, locals := 0 }
theorem yd_M_start : y_M_start.cls ≠ "java/lang/invoke/MethodHandle" ∧ y_M_start.cls ≠ "java/lang/invoke/VarHandle" ∧ (parseMethodDescriptor y_M_start.desc).map (fun d => d.parameters.length) = some 1 := ⟨by decide +kernel, by decide +kernel, by decide +kernel⟩
abbrev cc_M_crashNow : ByteArray := prog_10_method_22_code
def y_M_crashNow : MethodName := ⟨R_Model, "crashNow", "()I"⟩
abbrev ws_M_crashNow : List Cond := .code y_M_crashNow cc_M_crashNow 3 (some .int) :: jv_LT
abbrev rm_M_crashNow : Room := { frames := 0, cells := 0, slots := 0, locals := 0 }
theorem yd_M_crashNow : y_M_crashNow.cls ≠ "java/lang/invoke/MethodHandle" ∧ y_M_crashNow.cls ≠ "java/lang/invoke/VarHandle" ∧ (parseMethodDescriptor y_M_crashNow.desc).map (fun d => d.parameters.length) = some 0 := ⟨by decide +kernel, by decide +kernel, by decide +kernel⟩
abbrev cc_M_finish : ByteArray := prog_10_method_23_code
def y_M_finish : MethodName := ⟨R_Model, "finish", "(II)I"⟩
abbrev ws_M_finish : List Cond := .code y_M_finish cc_M_finish 8 (some .int) :: jv_LT
abbrev rm_M_finish : Room := { frames := 1, cells := 0, slots := 0, locals := 22 }
theorem yd_M_finish : y_M_finish.cls ≠ "java/lang/invoke/MethodHandle" ∧ y_M_finish.cls ≠ "java/lang/invoke/VarHandle" ∧ (parseMethodDescriptor y_M_finish.desc).map (fun d => d.parameters.length) = some 2 := ⟨by decide +kernel, by decide +kernel, by decide +kernel⟩
abbrev cc_M_make : ByteArray := prog_10_method_26_code
def y_M_make : MethodName := ⟨R_Model, "make", "(III)I"⟩
abbrev ws_M_make : List Cond := .code y_M_make cc_M_make 12 (some .int) :: jv_LT
abbrev rm_M_make : Room := { frames := 5, cells := 0, slots := 0, locals := 125 }
theorem yd_M_make : y_M_make.cls ≠ "java/lang/invoke/MethodHandle" ∧ y_M_make.cls ≠ "java/lang/invoke/VarHandle" ∧ (parseMethodDescriptor y_M_make.desc).map (fun d => d.parameters.length) = some 3 := ⟨by decide +kernel, by decide +kernel, by decide +kernel⟩
abbrev cc_M_takeBlock : ByteArray := prog_10_method_28_code
def y_M_takeBlock : MethodName := ⟨R_Model, "takeBlock", "()I"⟩
abbrev ws_M_takeBlock : List Cond := .code y_M_takeBlock cc_M_takeBlock 3 (some .int) :: jv_LT
abbrev rm_M_takeBlock : Room := { frames := 0, cells := 0, slots := 0, locals := 0 }
theorem yd_M_takeBlock : y_M_takeBlock.cls ≠ "java/lang/invoke/MethodHandle" ∧ y_M_takeBlock.cls ≠ "java/lang/invoke/VarHandle" ∧ (parseMethodDescriptor y_M_takeBlock.desc).map (fun d => d.parameters.length) = some 0 := ⟨by decide +kernel, by decide +kernel, by decide +kernel⟩
abbrev cc_M_write : ByteArray := prog_10_method_30_code
def y_M_write : MethodName := ⟨R_Model, "write", "(IIII)I"⟩
abbrev ws_M_write : List Cond := .code y_M_write cc_M_write 11 (some .int) :: jv_LT
abbrev rm_M_write : Room := { frames := 6, cells := 0, slots := 0, locals := 147 }
theorem yd_M_write : y_M_write.cls ≠ "java/lang/invoke/MethodHandle" ∧ y_M_write.cls ≠ "java/lang/invoke/VarHandle" ∧ (parseMethodDescriptor y_M_write.desc).map (fun d => d.parameters.length) = some 4 := ⟨by decide +kernel, by decide +kernel, by decide +kernel⟩
abbrev cc_M_release : ByteArray := prog_10_method_31_code
def y_M_release : MethodName := ⟨R_Model, "release", "(I)I"⟩
abbrev ws_M_release : List Cond := .code y_M_release cc_M_release 3 (some .int) :: jv_LT
abbrev rm_M_release : Room := { frames := 0, cells := 0, slots := 0, locals := 0 }
theorem yd_M_release : y_M_release.cls ≠ "java/lang/invoke/MethodHandle" ∧ y_M_release.cls ≠ "java/lang/invoke/VarHandle" ∧ (parseMethodDescriptor y_M_release.desc).map (fun d => d.parameters.length) = some 1 := ⟨by decide +kernel, by decide +kernel, by decide +kernel⟩
abbrev cc_M_truncate : ByteArray := prog_10_method_32_code
def y_M_truncate : MethodName := ⟨R_Model, "truncate", "(III)I"⟩
abbrev ws_M_truncate : List Cond := .code y_M_truncate cc_M_truncate 11 (some .int) :: jv_LT
abbrev rm_M_truncate : Room := { frames := 6, cells := 0, slots := 0, locals := 147 }
theorem yd_M_truncate : y_M_truncate.cls ≠ "java/lang/invoke/MethodHandle" ∧ y_M_truncate.cls ≠ "java/lang/invoke/VarHandle" ∧ (parseMethodDescriptor y_M_truncate.desc).map (fun d => d.parameters.length) = some 3 := ⟨by decide +kernel, by decide +kernel, by decide +kernel⟩
abbrev cc_M_remove : ByteArray := prog_10_method_34_code
def y_M_remove : MethodName := ⟨R_Model, "remove", "(II)I"⟩
abbrev ws_M_remove : List Cond := .code y_M_remove cc_M_remove 8 (some .int) :: jv_LT
abbrev rm_M_remove : Room := { frames := 6, cells := 0, slots := 0, locals := 147 }
theorem yd_M_remove : y_M_remove.cls ≠ "java/lang/invoke/MethodHandle" ∧ y_M_remove.cls ≠ "java/lang/invoke/VarHandle" ∧ (parseMethodDescriptor y_M_remove.desc).map (fun d => d.parameters.length) = some 2 := ⟨by decide +kernel, by decide +kernel, by decide +kernel⟩
abbrev cc_M_move : ByteArray := prog_10_method_36_code
def y_M_move : MethodName := ⟨R_Model, "move", "(III)I"⟩
abbrev ws_M_move : List Cond := .code y_M_move cc_M_move 10 (some .int) :: jv_LT
abbrev rm_M_move : Room := { frames := 6, cells := 0, slots := 0, locals := 147 }
theorem yd_M_move : y_M_move.cls ≠ "java/lang/invoke/MethodHandle" ∧ y_M_move.cls ≠ "java/lang/invoke/VarHandle" ∧ (parseMethodDescriptor y_M_move.desc).map (fun d => d.parameters.length) = some 3 := ⟨by decide +kernel, by decide +kernel, by decide +kernel⟩
abbrev cc_M_read : ByteArray := prog_10_method_38_code
def y_M_read : MethodName := ⟨R_Model, "read", "(IIII)I"⟩
abbrev ws_M_read : List Cond := .code y_M_read cc_M_read 7 (some .int) :: jv_LT
abbrev rm_M_read : Room := { frames := 5, cells := 0, slots := 0, locals := 123 }
theorem yd_M_read : y_M_read.cls ≠ "java/lang/invoke/MethodHandle" ∧ y_M_read.cls ≠ "java/lang/invoke/VarHandle" ∧ (parseMethodDescriptor y_M_read.desc).map (fun d => d.parameters.length) = some 4 := ⟨by decide +kernel, by decide +kernel, by decide +kernel⟩
abbrev cc_M_size : ByteArray := prog_10_method_39_code
def y_M_size : MethodName := ⟨R_Model, "size", "(III)I"⟩
abbrev ws_M_size : List Cond := .code y_M_size cc_M_size 4 (some .int) :: jv_LT
abbrev rm_M_size : Room := { frames := 5, cells := 0, slots := 0, locals := 123 }
theorem yd_M_size : y_M_size.cls ≠ "java/lang/invoke/MethodHandle" ∧ y_M_size.cls ≠ "java/lang/invoke/VarHandle" ∧ (parseMethodDescriptor y_M_size.desc).map (fun d => d.parameters.length) = some 3 := ⟨by decide +kernel, by decide +kernel, by decide +kernel⟩
abbrev cc_M_list : ByteArray := prog_10_method_40_code
def y_M_list : MethodName := ⟨R_Model, "list", "(II)I"⟩
abbrev ws_M_list : List Cond := .code y_M_list cc_M_list 7 (some .int) :: jv_LT
abbrev rm_M_list : Room := { frames := 5, cells := 0, slots := 0, locals := 125 }
theorem yd_M_list : y_M_list.cls ≠ "java/lang/invoke/MethodHandle" ∧ y_M_list.cls ≠ "java/lang/invoke/VarHandle" ∧ (parseMethodDescriptor y_M_list.desc).map (fun d => d.parameters.length) = some 2 := ⟨by decide +kernel, by decide +kernel, by decide +kernel⟩
abbrev cc_M_look : ByteArray := prog_10_method_41_code
def y_M_look : MethodName := ⟨R_Model, "look", "(II)I"⟩
abbrev ws_M_look : List Cond := .code y_M_look cc_M_look 5 (some .int) :: jv_LT
abbrev rm_M_look : Room := { frames := 4, cells := 0, slots := 0, locals := 99 }
theorem yd_M_look : y_M_look.cls ≠ "java/lang/invoke/MethodHandle" ∧ y_M_look.cls ≠ "java/lang/invoke/VarHandle" ∧ (parseMethodDescriptor y_M_look.desc).map (fun d => d.parameters.length) = some 2 := ⟨by decide +kernel, by decide +kernel, by decide +kernel⟩
abbrev cc_M_disk : ByteArray := prog_10_method_44_code
def y_M_disk : MethodName := ⟨R_Model, "disk", "(III)I"⟩
abbrev ws_M_disk : List Cond := .code y_M_disk cc_M_disk 4 (some .int) :: jv_LT
abbrev rm_M_disk : Room := { frames := 1, cells := 0, slots := 0, locals := 21 }
theorem yd_M_disk : y_M_disk.cls ≠ "java/lang/invoke/MethodHandle" ∧ y_M_disk.cls ≠ "java/lang/invoke/VarHandle" ∧ (parseMethodDescriptor y_M_disk.desc).map (fun d => d.parameters.length) = some 3 := ⟨by decide +kernel, by decide +kernel, by decide +kernel⟩
abbrev cc_M_about : ByteArray := prog_10_method_45_code
def y_M_about : MethodName := ⟨R_Model, "about", "(II)I"⟩
abbrev ws_M_about : List Cond := .code y_M_about cc_M_about 5 (some .int) :: jv_LT
abbrev rm_M_about : Room := { frames := 2, cells := 0, slots := 0, locals := 46 }
theorem yd_M_about : y_M_about.cls ≠ "java/lang/invoke/MethodHandle" ∧ y_M_about.cls ≠ "java/lang/invoke/VarHandle" ∧ (parseMethodDescriptor y_M_about.desc).map (fun d => d.parameters.length) = some 2 := ⟨by decide +kernel, by decide +kernel, by decide +kernel⟩
abbrev cc_M_user : ByteArray := prog_10_method_46_code
def y_M_user : MethodName := ⟨R_Model, "user", "(I)I"⟩
abbrev ws_M_user : List Cond := .code y_M_user cc_M_user 2 (some .int) :: jv_LT
abbrev rm_M_user : Room := { frames := 1, cells := 0, slots := 0, locals := 21 }
theorem yd_M_user : y_M_user.cls ≠ "java/lang/invoke/MethodHandle" ∧ y_M_user.cls ≠ "java/lang/invoke/VarHandle" ∧ (parseMethodDescriptor y_M_user.desc).map (fun d => d.parameters.length) = some 1 := ⟨by decide +kernel, by decide +kernel, by decide +kernel⟩
abbrev cc_M_fuse : ByteArray := prog_10_method_47_code
def y_M_fuse : MethodName := ⟨R_Model, "fuse", "()I"⟩
abbrev ws_M_fuse : List Cond := .code y_M_fuse cc_M_fuse 1 (some .int) :: jv_LT
abbrev rm_M_fuse : Room := { frames := 0, cells := 0, slots := 0, locals := 0 }
theorem yd_M_fuse : y_M_fuse.cls ≠ "java/lang/invoke/MethodHandle" ∧ y_M_fuse.cls ≠ "java/lang/invoke/VarHandle" ∧ (parseMethodDescriptor y_M_fuse.desc).map (fun d => d.parameters.length) = some 0 := ⟨by decide +kernel, by decide +kernel, by decide +kernel⟩
abbrev cc_M_crash : ByteArray := prog_10_method_42_code
def y_M_crash : MethodName := ⟨R_Model, "crash", "()I"⟩
abbrev ws_M_crash : List Cond := .code y_M_crash cc_M_crash 1 (some .int) :: jv_LT
abbrev rm_M_crash : Room := { frames := 1, cells := 0, slots := 0, locals := 22 }
theorem yd_M_crash : y_M_crash.cls ≠ "java/lang/invoke/MethodHandle" ∧ y_M_crash.cls ≠ "java/lang/invoke/VarHandle" ∧ (parseMethodDescriptor y_M_crash.desc).map (fun d => d.parameters.length) = some 0 := ⟨by decide +kernel, by decide +kernel, by decide +kernel⟩
abbrev cc_M_tear : ByteArray := prog_10_method_43_code
def y_M_tear : MethodName := ⟨R_Model, "tear", "(I)Z"⟩
abbrev ws_M_tear : List Cond := .code y_M_tear cc_M_tear 2 (some .boolean) :: jv_LT
abbrev rm_M_tear : Room := { frames := 0, cells := 0, slots := 0, locals := 0 }
theorem yd_M_tear : y_M_tear.cls ≠ "java/lang/invoke/MethodHandle" ∧ y_M_tear.cls ≠ "java/lang/invoke/VarHandle" ∧ (parseMethodDescriptor y_M_tear.desc).map (fun d => d.parameters.length) = some 1 := ⟨by decide +kernel, by decide +kernel, by decide +kernel⟩
theorem wa_0 : (Cond.code y_L_isSecrecyWithin prog_6_method_5_code 2 (some .boolean)) ∈ jv_LT := List.mem_filter.mpr ⟨List.mem_of_getElem? (i := 376) (by decide +kernel), by decide +kernel⟩
theorem wa_1 : (Cond.initialized R_Labels) ∈ jv_LT := List.mem_filter.mpr ⟨List.mem_of_getElem? (i := 53) (by decide +kernel), by decide +kernel⟩
theorem wa_2 : (Cond.methodLink R_Labels 9 y_L_isSecrecyWithin) ∈ jv_LT := List.mem_filter.mpr ⟨List.mem_of_getElem? (i := 374) (by decide +kernel), by decide +kernel⟩
theorem wa_3 : (Cond.static y_L_isSecrecyWithin) ∈ jv_LT := List.mem_filter.mpr ⟨List.mem_of_getElem? (i := 375) (by decide +kernel), by decide +kernel⟩
theorem wa_4 : (Cond.code y_L_isIntegrityWithin prog_6_method_6_code 2 (some .boolean)) ∈ jv_LT := List.mem_filter.mpr ⟨List.mem_of_getElem? (i := 379) (by decide +kernel), by decide +kernel⟩
theorem wa_5 : (Cond.methodLink R_Labels 13 y_L_isIntegrityWithin) ∈ jv_LT := List.mem_filter.mpr ⟨List.mem_of_getElem? (i := 377) (by decide +kernel), by decide +kernel⟩
theorem wa_6 : (Cond.static y_L_isIntegrityWithin) ∈ jv_LT := List.mem_filter.mpr ⟨List.mem_of_getElem? (i := 378) (by decide +kernel), by decide +kernel⟩
theorem wa_7 : (Cond.code y_P_lastName prog_7_method_5_code 1 (some .int)) ∈ jv_LT := List.mem_filter.mpr ⟨List.mem_of_getElem? (i := 441) (by decide +kernel), by decide +kernel⟩
theorem wa_8 : (Cond.initialized R_Paths) ∈ jv_LT := List.mem_filter.mpr ⟨List.mem_of_getElem? (i := 64) (by decide +kernel), by decide +kernel⟩
theorem wa_9 : (Cond.methodLink R_Paths 9 y_P_lastName) ∈ jv_LT := List.mem_filter.mpr ⟨List.mem_of_getElem? (i := 439) (by decide +kernel), by decide +kernel⟩
theorem wa_10 : (Cond.static y_P_lastName) ∈ jv_LT := List.mem_filter.mpr ⟨List.mem_of_getElem? (i := 440) (by decide +kernel), by decide +kernel⟩
theorem wa_11 : (Cond.code y_P_parentOf prog_7_method_4_code 1 (some .int)) ∈ jv_LT := List.mem_filter.mpr ⟨List.mem_of_getElem? (i := 444) (by decide +kernel), by decide +kernel⟩
theorem wa_12 : (Cond.methodLink R_Paths 13 y_P_parentOf) ∈ jv_LT := List.mem_filter.mpr ⟨List.mem_of_getElem? (i := 442) (by decide +kernel), by decide +kernel⟩
theorem wa_13 : (Cond.static y_P_parentOf) ∈ jv_LT := List.mem_filter.mpr ⟨List.mem_of_getElem? (i := 443) (by decide +kernel), by decide +kernel⟩
theorem wa_14 : (Cond.code y_P_isPath prog_7_method_2_code 4 (some .boolean)) ∈ jv_LT := List.mem_filter.mpr ⟨List.mem_of_getElem? (i := 438) (by decide +kernel), by decide +kernel⟩
theorem wa_15 : (Cond.methodLink R_Paths 16 y_P_isPath) ∈ jv_LT := List.mem_filter.mpr ⟨List.mem_of_getElem? (i := 436) (by decide +kernel), by decide +kernel⟩
theorem wa_16 : (Cond.static y_P_isPath) ∈ jv_LT := List.mem_filter.mpr ⟨List.mem_of_getElem? (i := 437) (by decide +kernel), by decide +kernel⟩
theorem wa_17 : (Cond.code y_P_without prog_7_method_7_code 2 (some .int)) ∈ jv_LT := List.mem_filter.mpr ⟨List.mem_of_getElem? (i := 467) (by decide +kernel), by decide +kernel⟩
theorem wa_18 : (Cond.methodLink R_Paths 20 y_P_without) ∈ jv_LT := List.mem_filter.mpr ⟨List.mem_of_getElem? (i := 465) (by decide +kernel), by decide +kernel⟩
theorem wa_19 : (Cond.static y_P_without) ∈ jv_LT := List.mem_filter.mpr ⟨List.mem_of_getElem? (i := 466) (by decide +kernel), by decide +kernel⟩
theorem wa_20 : (Cond.fieldLink R_Fuse 9 R_Fuse "at" "I") ∈ jv_LT := List.mem_filter.mpr ⟨List.mem_of_getElem? (i := 86) (by decide +kernel), by decide +kernel⟩
theorem wa_21 : (Cond.fieldLink R_Disk 11 R_Disk "places" "[I") ∈ jv_LT := List.mem_filter.mpr ⟨List.mem_of_getElem? (i := 299) (by decide +kernel), by decide +kernel⟩
theorem wa_22 : (Cond.fieldLink R_Disk 15 R_Disk "draft" "[I") ∈ jv_LT := List.mem_filter.mpr ⟨List.mem_of_getElem? (i := 300) (by decide +kernel), by decide +kernel⟩
theorem wa_23 : (Cond.methodLink R_Disk 32 arraycopyName) ∈ jv_LT := List.mem_filter.mpr ⟨List.mem_of_getElem? (i := 134) (by decide +kernel), by decide +kernel⟩
theorem wa_24 : (Cond.native arraycopyName) ∈ jv_LT := List.mem_filter.mpr ⟨List.mem_of_getElem? (i := 136) (by decide +kernel), by decide +kernel⟩
theorem wa_25 : (Cond.static arraycopyName) ∈ jv_LT := List.mem_filter.mpr ⟨List.mem_of_getElem? (i := 135) (by decide +kernel), by decide +kernel⟩
theorem wa_26 : (Cond.initialized "java/lang/System") ∈ jv_LT := List.mem_filter.mpr ⟨List.mem_of_getElem? (i := 67) (by decide +kernel), by decide +kernel⟩
theorem wa_27 : (Cond.fieldLink R_Disk 25 R_Disk "marked" "Z") ∈ jv_LT := List.mem_filter.mpr ⟨List.mem_of_getElem? (i := 303) (by decide +kernel), by decide +kernel⟩
theorem wa_28 : (Cond.code y_D_dropDraft prog_4_method_8_code 1 none) ∈ jv_LT := List.mem_filter.mpr ⟨List.mem_of_getElem? (i := 140) (by decide +kernel), by decide +kernel⟩
theorem wa_29 : (Cond.initialized R_Disk) ∈ jv_LT := List.mem_filter.mpr ⟨List.mem_of_getElem? (i := 60) (by decide +kernel), by decide +kernel⟩
theorem wa_30 : (Cond.methodLink R_Disk 62 y_D_dropDraft) ∈ jv_LT := List.mem_filter.mpr ⟨List.mem_of_getElem? (i := 137) (by decide +kernel), by decide +kernel⟩
theorem wa_31 : (Cond.instanceMethod y_D_dropDraft) ∈ jv_LT := List.mem_filter.mpr ⟨List.mem_of_getElem? (i := 138) (by decide +kernel), by decide +kernel⟩
theorem wa_32 : (Cond.selects R_Disk y_D_dropDraft y_D_dropDraft) ∈ jv_LT := List.mem_filter.mpr ⟨List.mem_of_getElem? (i := 139) (by decide +kernel), by decide +kernel⟩
theorem wa_33 : (Cond.fieldLink R_Disk 21 R_Disk "journaled" "I") ∈ jv_LT := List.mem_filter.mpr ⟨List.mem_of_getElem? (i := 302) (by decide +kernel), by decide +kernel⟩
theorem wa_34 : (Cond.code y_D_isIn prog_4_method_16_code 2 (some .boolean)) ∈ jv_LT := List.mem_filter.mpr ⟨List.mem_of_getElem? (i := 130) (by decide +kernel), by decide +kernel⟩
theorem wa_35 : (Cond.methodLink R_Disk 54 y_D_isIn) ∈ jv_LT := List.mem_filter.mpr ⟨List.mem_of_getElem? (i := 128) (by decide +kernel), by decide +kernel⟩
theorem wa_36 : (Cond.static y_D_isIn) ∈ jv_LT := List.mem_filter.mpr ⟨List.mem_of_getElem? (i := 129) (by decide +kernel), by decide +kernel⟩
theorem wa_37 : (Cond.fieldLink R_Disk 18 R_Disk "journal" "[I") ∈ jv_LT := List.mem_filter.mpr ⟨List.mem_of_getElem? (i := 301) (by decide +kernel), by decide +kernel⟩
theorem wa_38 : (Cond.code y_D_copyBlock prog_4_method_17_code 3 none) ∈ jv_LT := List.mem_filter.mpr ⟨List.mem_of_getElem? (i := 133) (by decide +kernel), by decide +kernel⟩
theorem wa_39 : (Cond.methodLink R_Disk 58 y_D_copyBlock) ∈ jv_LT := List.mem_filter.mpr ⟨List.mem_of_getElem? (i := 131) (by decide +kernel), by decide +kernel⟩
theorem wa_40 : (Cond.static y_D_copyBlock) ∈ jv_LT := List.mem_filter.mpr ⟨List.mem_of_getElem? (i := 132) (by decide +kernel), by decide +kernel⟩
theorem wa_41 : (Cond.code y_Fu_letsPass prog_5_method_2_code 1 (some .boolean)) ∈ jv_LT := List.mem_filter.mpr ⟨List.mem_of_getElem? (i := 556) (by decide +kernel), by decide +kernel⟩
theorem wa_42 : (Cond.initialized R_Fuse) ∈ jv_LT := List.mem_filter.mpr ⟨List.mem_of_getElem? (i := 51) (by decide +kernel), by decide +kernel⟩
theorem wa_43 : (Cond.methodLink R_Disk 68 y_Fu_letsPass) ∈ jv_LT := List.mem_filter.mpr ⟨List.mem_of_getElem? (i := 553) (by decide +kernel), by decide +kernel⟩
theorem wa_44 : (Cond.instanceMethod y_Fu_letsPass) ∈ jv_LT := List.mem_filter.mpr ⟨List.mem_of_getElem? (i := 554) (by decide +kernel), by decide +kernel⟩
theorem wa_45 : (Cond.selects R_Fuse y_Fu_letsPass y_Fu_letsPass) ∈ jv_LT := List.mem_filter.mpr ⟨List.mem_of_getElem? (i := 555) (by decide +kernel), by decide +kernel⟩
theorem wa_46 : (Cond.fieldLink R_Disk 29 R_Disk "writes" "I") ∈ jv_LT := List.mem_filter.mpr ⟨List.mem_of_getElem? (i := 304) (by decide +kernel), by decide +kernel⟩
theorem wa_47 : (Cond.code y_D_countWrite prog_4_method_15_code 2 (some .boolean)) ∈ jv_LT := List.mem_filter.mpr ⟨List.mem_of_getElem? (i := 552) (by decide +kernel), by decide +kernel⟩
theorem wa_48 : (Cond.methodLink R_Disk 65 y_D_countWrite) ∈ jv_LT := List.mem_filter.mpr ⟨List.mem_of_getElem? (i := 549) (by decide +kernel), by decide +kernel⟩
theorem wa_49 : (Cond.instanceMethod y_D_countWrite) ∈ jv_LT := List.mem_filter.mpr ⟨List.mem_of_getElem? (i := 551) (by decide +kernel), by decide +kernel⟩
theorem wa_50 : (Cond.selects R_Disk y_D_countWrite y_D_countWrite) ∈ jv_LT := List.mem_filter.mpr ⟨List.mem_of_getElem? (i := 14) (by decide +kernel), by decide +kernel⟩
theorem wa_51 : (Cond.code y_D_changedBlocks prog_4_method_11_code 3 (some .int)) ∈ jv_LT := List.mem_filter.mpr ⟨List.mem_of_getElem? (i := 544) (by decide +kernel), by decide +kernel⟩
theorem wa_52 : (Cond.methodLink R_Disk 38 y_D_changedBlocks) ∈ jv_LT := List.mem_filter.mpr ⟨List.mem_of_getElem? (i := 541) (by decide +kernel), by decide +kernel⟩
theorem wa_53 : (Cond.instanceMethod y_D_changedBlocks) ∈ jv_LT := List.mem_filter.mpr ⟨List.mem_of_getElem? (i := 543) (by decide +kernel), by decide +kernel⟩
theorem wa_54 : (Cond.selects R_Disk y_D_changedBlocks y_D_changedBlocks) ∈ jv_LT := List.mem_filter.mpr ⟨List.mem_of_getElem? (i := 12) (by decide +kernel), by decide +kernel⟩
theorem wa_55 : (Cond.code y_D_fillJournal prog_4_method_12_code 4 (some .boolean)) ∈ jv_LT := List.mem_filter.mpr ⟨List.mem_of_getElem? (i := 548) (by decide +kernel), by decide +kernel⟩
theorem wa_56 : (Cond.methodLink R_Disk 42 y_D_fillJournal) ∈ jv_LT := List.mem_filter.mpr ⟨List.mem_of_getElem? (i := 545) (by decide +kernel), by decide +kernel⟩
theorem wa_57 : (Cond.instanceMethod y_D_fillJournal) ∈ jv_LT := List.mem_filter.mpr ⟨List.mem_of_getElem? (i := 547) (by decide +kernel), by decide +kernel⟩
theorem wa_58 : (Cond.selects R_Disk y_D_fillJournal y_D_fillJournal) ∈ jv_LT := List.mem_filter.mpr ⟨List.mem_of_getElem? (i := 13) (by decide +kernel), by decide +kernel⟩
theorem wa_59 : (Cond.code y_D_setMark prog_4_method_14_code 3 (some .boolean)) ∈ jv_LT := List.mem_filter.mpr ⟨List.mem_of_getElem? (i := 560) (by decide +kernel), by decide +kernel⟩
theorem wa_60 : (Cond.methodLink R_Disk 46 y_D_setMark) ∈ jv_LT := List.mem_filter.mpr ⟨List.mem_of_getElem? (i := 557) (by decide +kernel), by decide +kernel⟩
theorem wa_61 : (Cond.instanceMethod y_D_setMark) ∈ jv_LT := List.mem_filter.mpr ⟨List.mem_of_getElem? (i := 559) (by decide +kernel), by decide +kernel⟩
theorem wa_62 : (Cond.selects R_Disk y_D_setMark y_D_setMark) ∈ jv_LT := List.mem_filter.mpr ⟨List.mem_of_getElem? (i := 15) (by decide +kernel), by decide +kernel⟩
theorem wa_63 : (Cond.code y_D_fillPlaces prog_4_method_13_code 3 (some .boolean)) ∈ jv_LT := List.mem_filter.mpr ⟨List.mem_of_getElem? (i := 564) (by decide +kernel), by decide +kernel⟩
theorem wa_64 : (Cond.methodLink R_Disk 50 y_D_fillPlaces) ∈ jv_LT := List.mem_filter.mpr ⟨List.mem_of_getElem? (i := 561) (by decide +kernel), by decide +kernel⟩
theorem wa_65 : (Cond.instanceMethod y_D_fillPlaces) ∈ jv_LT := List.mem_filter.mpr ⟨List.mem_of_getElem? (i := 563) (by decide +kernel), by decide +kernel⟩
theorem wa_66 : (Cond.selects R_Disk y_D_fillPlaces y_D_fillPlaces) ∈ jv_LT := List.mem_filter.mpr ⟨List.mem_of_getElem? (i := 16) (by decide +kernel), by decide +kernel⟩
theorem wa_67 : (Cond.fieldLink R_Tree 9 R_Tree "disk" "LLabelVault$Disk;") ∈ jv_LT := List.mem_filter.mpr ⟨List.mem_of_getElem? (i := 329) (by decide +kernel), by decide +kernel⟩
theorem wa_68 : (Cond.code y_D_inodeWord prog_4_method_5_code 3 (some .int)) ∈ jv_LT := List.mem_filter.mpr ⟨List.mem_of_getElem? (i := 174) (by decide +kernel), by decide +kernel⟩
theorem wa_69 : (Cond.methodLink R_Tree 15 y_D_inodeWord) ∈ jv_LT := List.mem_filter.mpr ⟨List.mem_of_getElem? (i := 171) (by decide +kernel), by decide +kernel⟩
theorem wa_70 : (Cond.instanceMethod y_D_inodeWord) ∈ jv_LT := List.mem_filter.mpr ⟨List.mem_of_getElem? (i := 172) (by decide +kernel), by decide +kernel⟩
theorem wa_71 : (Cond.selects R_Disk y_D_inodeWord y_D_inodeWord) ∈ jv_LT := List.mem_filter.mpr ⟨List.mem_of_getElem? (i := 173) (by decide +kernel), by decide +kernel⟩
theorem wa_72 : (Cond.code y_P_lengthOf prog_7_method_6_code 3 (some .int)) ∈ jv_LT := List.mem_filter.mpr ⟨List.mem_of_getElem? (i := 464) (by decide +kernel), by decide +kernel⟩
theorem wa_73 : (Cond.methodLink R_Tree 21 y_P_lengthOf) ∈ jv_LT := List.mem_filter.mpr ⟨List.mem_of_getElem? (i := 462) (by decide +kernel), by decide +kernel⟩
theorem wa_74 : (Cond.static y_P_lengthOf) ∈ jv_LT := List.mem_filter.mpr ⟨List.mem_of_getElem? (i := 463) (by decide +kernel), by decide +kernel⟩
theorem wa_75 : (Cond.methodLink R_Tree 27 y_P_without) ∈ jv_LT := List.mem_filter.mpr ⟨List.mem_of_getElem? (i := 468) (by decide +kernel), by decide +kernel⟩
theorem wa_76 : (Cond.methodLink R_Tree 30 y_P_lastName) ∈ jv_LT := List.mem_filter.mpr ⟨List.mem_of_getElem? (i := 469) (by decide +kernel), by decide +kernel⟩
theorem wa_77 : (Cond.code y_T_childNamed prog_8_method_15_code 4 (some .int)) ∈ jv_LT := List.mem_filter.mpr ⟨List.mem_of_getElem? (i := 473) (by decide +kernel), by decide +kernel⟩
theorem wa_78 : (Cond.initialized R_Tree) ∈ jv_LT := List.mem_filter.mpr ⟨List.mem_of_getElem? (i := 61) (by decide +kernel), by decide +kernel⟩
theorem wa_79 : (Cond.methodLink R_Tree 33 y_T_childNamed) ∈ jv_LT := List.mem_filter.mpr ⟨List.mem_of_getElem? (i := 470) (by decide +kernel), by decide +kernel⟩
theorem wa_80 : (Cond.instanceMethod y_T_childNamed) ∈ jv_LT := List.mem_filter.mpr ⟨List.mem_of_getElem? (i := 472) (by decide +kernel), by decide +kernel⟩
theorem wa_81 : (Cond.selects R_Tree y_T_childNamed y_T_childNamed) ∈ jv_LT := List.mem_filter.mpr ⟨List.mem_of_getElem? (i := 9) (by decide +kernel), by decide +kernel⟩
theorem wa_82 : (Cond.code y_T_find prog_8_method_5_code 4 (some .int)) ∈ jv_LT := List.mem_filter.mpr ⟨List.mem_of_getElem? (i := 461) (by decide +kernel), by decide +kernel⟩
theorem wa_83 : (Cond.methodLink R_Tree 36 y_T_find) ∈ jv_LT := List.mem_filter.mpr ⟨List.mem_of_getElem? (i := 458) (by decide +kernel), by decide +kernel⟩
theorem wa_84 : (Cond.instanceMethod y_T_find) ∈ jv_LT := List.mem_filter.mpr ⟨List.mem_of_getElem? (i := 459) (by decide +kernel), by decide +kernel⟩
theorem wa_85 : (Cond.selects R_Tree y_T_find y_T_find) ∈ jv_LT := List.mem_filter.mpr ⟨List.mem_of_getElem? (i := 460) (by decide +kernel), by decide +kernel⟩
theorem wa_86 : (Cond.code y_T_kindOf prog_8_method_2_code 2 (some .int)) ∈ jv_LT := List.mem_filter.mpr ⟨List.mem_of_getElem? (i := 170) (by decide +kernel), by decide +kernel⟩
theorem wa_87 : (Cond.methodLink R_Tree 39 y_T_kindOf) ∈ jv_LT := List.mem_filter.mpr ⟨List.mem_of_getElem? (i := 167) (by decide +kernel), by decide +kernel⟩
theorem wa_88 : (Cond.instanceMethod y_T_kindOf) ∈ jv_LT := List.mem_filter.mpr ⟨List.mem_of_getElem? (i := 168) (by decide +kernel), by decide +kernel⟩
theorem wa_89 : (Cond.selects R_Tree y_T_kindOf y_T_kindOf) ∈ jv_LT := List.mem_filter.mpr ⟨List.mem_of_getElem? (i := 169) (by decide +kernel), by decide +kernel⟩
theorem wa_90 : (Cond.code y_T_kindAt prog_8_method_6_code 3 (some .int)) ∈ jv_LT := List.mem_filter.mpr ⟨List.mem_of_getElem? (i := 457) (by decide +kernel), by decide +kernel⟩
theorem wa_91 : (Cond.methodLink R_Tree 42 y_T_kindAt) ∈ jv_LT := List.mem_filter.mpr ⟨List.mem_of_getElem? (i := 494) (by decide +kernel), by decide +kernel⟩
theorem wa_92 : (Cond.instanceMethod y_T_kindAt) ∈ jv_LT := List.mem_filter.mpr ⟨List.mem_of_getElem? (i := 455) (by decide +kernel), by decide +kernel⟩
theorem wa_93 : (Cond.selects R_Tree y_T_kindAt y_T_kindAt) ∈ jv_LT := List.mem_filter.mpr ⟨List.mem_of_getElem? (i := 456) (by decide +kernel), by decide +kernel⟩
theorem wa_94 : (Cond.code y_T_parentOf prog_8_method_3_code 2 (some .int)) ∈ jv_LT := List.mem_filter.mpr ⟨List.mem_of_getElem? (i := 671) (by decide +kernel), by decide +kernel⟩
theorem wa_95 : (Cond.methodLink R_Tree 57 y_T_parentOf) ∈ jv_LT := List.mem_filter.mpr ⟨List.mem_of_getElem? (i := 668) (by decide +kernel), by decide +kernel⟩
theorem wa_96 : (Cond.instanceMethod y_T_parentOf) ∈ jv_LT := List.mem_filter.mpr ⟨List.mem_of_getElem? (i := 670) (by decide +kernel), by decide +kernel⟩
theorem wa_97 : (Cond.selects R_Tree y_T_parentOf y_T_parentOf) ∈ jv_LT := List.mem_filter.mpr ⟨List.mem_of_getElem? (i := 27) (by decide +kernel), by decide +kernel⟩
theorem wa_98 : (Cond.code y_T_nameOf prog_8_method_4_code 2 (some .int)) ∈ jv_LT := List.mem_filter.mpr ⟨List.mem_of_getElem? (i := 755) (by decide +kernel), by decide +kernel⟩
theorem wa_99 : (Cond.methodLink R_Tree 60 y_T_nameOf) ∈ jv_LT := List.mem_filter.mpr ⟨List.mem_of_getElem? (i := 752) (by decide +kernel), by decide +kernel⟩
theorem wa_100 : (Cond.instanceMethod y_T_nameOf) ∈ jv_LT := List.mem_filter.mpr ⟨List.mem_of_getElem? (i := 754) (by decide +kernel), by decide +kernel⟩
theorem wa_101 : (Cond.selects R_Tree y_T_nameOf y_T_nameOf) ∈ jv_LT := List.mem_filter.mpr ⟨List.mem_of_getElem? (i := 29) (by decide +kernel), by decide +kernel⟩
theorem wa_102 : (Cond.code y_T_childrenOf prog_8_method_12_code 4 (some .int)) ∈ jv_LT := List.mem_filter.mpr ⟨List.mem_of_getElem? (i := 667) (by decide +kernel), by decide +kernel⟩
theorem wa_103 : (Cond.methodLink R_Tree 63 y_T_childrenOf) ∈ jv_LT := List.mem_filter.mpr ⟨List.mem_of_getElem? (i := 699) (by decide +kernel), by decide +kernel⟩
theorem wa_104 : (Cond.instanceMethod y_T_childrenOf) ∈ jv_LT := List.mem_filter.mpr ⟨List.mem_of_getElem? (i := 665) (by decide +kernel), by decide +kernel⟩
theorem wa_105 : (Cond.selects R_Tree y_T_childrenOf y_T_childrenOf) ∈ jv_LT := List.mem_filter.mpr ⟨List.mem_of_getElem? (i := 666) (by decide +kernel), by decide +kernel⟩
theorem wa_106 : (Cond.code y_D_putInodeWord prog_4_method_6_code 4 none) ∈ jv_LT := List.mem_filter.mpr ⟨List.mem_of_getElem? (i := 524) (by decide +kernel), by decide +kernel⟩
theorem wa_107 : (Cond.methodLink R_Tree 49 y_D_putInodeWord) ∈ jv_LT := List.mem_filter.mpr ⟨List.mem_of_getElem? (i := 521) (by decide +kernel), by decide +kernel⟩
theorem wa_108 : (Cond.instanceMethod y_D_putInodeWord) ∈ jv_LT := List.mem_filter.mpr ⟨List.mem_of_getElem? (i := 522) (by decide +kernel), by decide +kernel⟩
theorem wa_109 : (Cond.selects R_Disk y_D_putInodeWord y_D_putInodeWord) ∈ jv_LT := List.mem_filter.mpr ⟨List.mem_of_getElem? (i := 523) (by decide +kernel), by decide +kernel⟩
theorem wa_110 : (Cond.code y_D_zeroFrom prog_4_method_7_code 4 none) ∈ jv_LT := List.mem_filter.mpr ⟨List.mem_of_getElem? (i := 607) (by decide +kernel), by decide +kernel⟩
theorem wa_111 : (Cond.methodLink R_Tree 53 y_D_zeroFrom) ∈ jv_LT := List.mem_filter.mpr ⟨List.mem_of_getElem? (i := 681) (by decide +kernel), by decide +kernel⟩
theorem wa_112 : (Cond.instanceMethod y_D_zeroFrom) ∈ jv_LT := List.mem_filter.mpr ⟨List.mem_of_getElem? (i := 605) (by decide +kernel), by decide +kernel⟩
theorem wa_113 : (Cond.selects R_Disk y_D_zeroFrom y_D_zeroFrom) ∈ jv_LT := List.mem_filter.mpr ⟨List.mem_of_getElem? (i := 606) (by decide +kernel), by decide +kernel⟩
theorem wa_114 : (Cond.code y_T_hang prog_8_method_9_code 4 none) ∈ jv_LT := List.mem_filter.mpr ⟨List.mem_of_getElem? (i := 528) (by decide +kernel), by decide +kernel⟩
theorem wa_115 : (Cond.methodLink R_Tree 66 y_T_hang) ∈ jv_LT := List.mem_filter.mpr ⟨List.mem_of_getElem? (i := 525) (by decide +kernel), by decide +kernel⟩
theorem wa_116 : (Cond.instanceMethod y_T_hang) ∈ jv_LT := List.mem_filter.mpr ⟨List.mem_of_getElem? (i := 526) (by decide +kernel), by decide +kernel⟩
theorem wa_117 : (Cond.selects R_Tree y_T_hang y_T_hang) ∈ jv_LT := List.mem_filter.mpr ⟨List.mem_of_getElem? (i := 527) (by decide +kernel), by decide +kernel⟩
theorem wa_118 : (Cond.code y_T_take prog_8_method_16_code 5 (some .int)) ∈ jv_LT := List.mem_filter.mpr ⟨List.mem_of_getElem? (i := 520) (by decide +kernel), by decide +kernel⟩
theorem wa_119 : (Cond.methodLink R_Tree 45 y_T_take) ∈ jv_LT := List.mem_filter.mpr ⟨List.mem_of_getElem? (i := 517) (by decide +kernel), by decide +kernel⟩
theorem wa_120 : (Cond.instanceMethod y_T_take) ∈ jv_LT := List.mem_filter.mpr ⟨List.mem_of_getElem? (i := 519) (by decide +kernel), by decide +kernel⟩
theorem wa_121 : (Cond.selects R_Tree y_T_take y_T_take) ∈ jv_LT := List.mem_filter.mpr ⟨List.mem_of_getElem? (i := 10) (by decide +kernel), by decide +kernel⟩
theorem wa_122 : (Cond.fieldLink R_Cont 9 R_Cont "disk" "LLabelVault$Disk;") ∈ jv_LT := List.mem_filter.mpr ⟨List.mem_of_getElem? (i := 339) (by decide +kernel), by decide +kernel⟩
theorem wa_123 : (Cond.methodLink R_Cont 15 y_D_inodeWord) ∈ jv_LT := List.mem_filter.mpr ⟨List.mem_of_getElem? (i := 622) (by decide +kernel), by decide +kernel⟩
theorem wa_124 : (Cond.code y_D_get prog_4_method_3_code 3 (some .int)) ∈ jv_LT := List.mem_filter.mpr ⟨List.mem_of_getElem? (i := 156) (by decide +kernel), by decide +kernel⟩
theorem wa_125 : (Cond.methodLink R_Cont 28 y_D_get) ∈ jv_LT := List.mem_filter.mpr ⟨List.mem_of_getElem? (i := 153) (by decide +kernel), by decide +kernel⟩
theorem wa_126 : (Cond.instanceMethod y_D_get) ∈ jv_LT := List.mem_filter.mpr ⟨List.mem_of_getElem? (i := 154) (by decide +kernel), by decide +kernel⟩
theorem wa_127 : (Cond.selects R_Disk y_D_get y_D_get) ∈ jv_LT := List.mem_filter.mpr ⟨List.mem_of_getElem? (i := 155) (by decide +kernel), by decide +kernel⟩
theorem wa_128 : (Cond.code y_C_blockBehind prog_3_method_8_code 1 (some .int)) ∈ jv_LT := List.mem_filter.mpr ⟨List.mem_of_getElem? (i := 610) (by decide +kernel), by decide +kernel⟩
theorem wa_129 : (Cond.initialized R_Cont) ∈ jv_LT := List.mem_filter.mpr ⟨List.mem_of_getElem? (i := 62) (by decide +kernel), by decide +kernel⟩
theorem wa_130 : (Cond.methodLink R_Cont 24 y_C_blockBehind) ∈ jv_LT := List.mem_filter.mpr ⟨List.mem_of_getElem? (i := 608) (by decide +kernel), by decide +kernel⟩
theorem wa_131 : (Cond.static y_C_blockBehind) ∈ jv_LT := List.mem_filter.mpr ⟨List.mem_of_getElem? (i := 609) (by decide +kernel), by decide +kernel⟩
theorem wa_132 : (Cond.code y_C_holderOf prog_3_method_9_code 4 (some .int)) ∈ jv_LT := List.mem_filter.mpr ⟨List.mem_of_getElem? (i := 614) (by decide +kernel), by decide +kernel⟩
theorem wa_133 : (Cond.methodLink R_Cont 44 y_C_holderOf) ∈ jv_LT := List.mem_filter.mpr ⟨List.mem_of_getElem? (i := 611) (by decide +kernel), by decide +kernel⟩
theorem wa_134 : (Cond.instanceMethod y_C_holderOf) ∈ jv_LT := List.mem_filter.mpr ⟨List.mem_of_getElem? (i := 613) (by decide +kernel), by decide +kernel⟩
theorem wa_135 : (Cond.selects R_Cont y_C_holderOf y_C_holderOf) ∈ jv_LT := List.mem_filter.mpr ⟨List.mem_of_getElem? (i := 21) (by decide +kernel), by decide +kernel⟩
theorem wa_136 : (Cond.code y_C_wordInHolder prog_3_method_10_code 1 (some .int)) ∈ jv_LT := List.mem_filter.mpr ⟨List.mem_of_getElem? (i := 617) (by decide +kernel), by decide +kernel⟩
theorem wa_137 : (Cond.methodLink R_Cont 47 y_C_wordInHolder) ∈ jv_LT := List.mem_filter.mpr ⟨List.mem_of_getElem? (i := 615) (by decide +kernel), by decide +kernel⟩
theorem wa_138 : (Cond.static y_C_wordInHolder) ∈ jv_LT := List.mem_filter.mpr ⟨List.mem_of_getElem? (i := 616) (by decide +kernel), by decide +kernel⟩
theorem wa_139 : (Cond.code y_C_pointerTo prog_3_method_11_code 4 (some .int)) ∈ jv_LT := List.mem_filter.mpr ⟨List.mem_of_getElem? (i := 656) (by decide +kernel), by decide +kernel⟩
theorem wa_140 : (Cond.methodLink R_Cont 21 y_C_pointerTo) ∈ jv_LT := List.mem_filter.mpr ⟨List.mem_of_getElem? (i := 653) (by decide +kernel), by decide +kernel⟩
theorem wa_141 : (Cond.instanceMethod y_C_pointerTo) ∈ jv_LT := List.mem_filter.mpr ⟨List.mem_of_getElem? (i := 655) (by decide +kernel), by decide +kernel⟩
theorem wa_142 : (Cond.selects R_Cont y_C_pointerTo y_C_pointerTo) ∈ jv_LT := List.mem_filter.mpr ⟨List.mem_of_getElem? (i := 26) (by decide +kernel), by decide +kernel⟩
theorem wa_143 : (Cond.code y_D_put prog_4_method_4_code 4 none) ∈ jv_LT := List.mem_filter.mpr ⟨List.mem_of_getElem? (i := 603) (by decide +kernel), by decide +kernel⟩
theorem wa_144 : (Cond.methodLink R_Cont 34 y_D_put) ∈ jv_LT := List.mem_filter.mpr ⟨List.mem_of_getElem? (i := 600) (by decide +kernel), by decide +kernel⟩
theorem wa_145 : (Cond.instanceMethod y_D_put) ∈ jv_LT := List.mem_filter.mpr ⟨List.mem_of_getElem? (i := 601) (by decide +kernel), by decide +kernel⟩
theorem wa_146 : (Cond.selects R_Disk y_D_put y_D_put) ∈ jv_LT := List.mem_filter.mpr ⟨List.mem_of_getElem? (i := 602) (by decide +kernel), by decide +kernel⟩
theorem wa_147 : (Cond.methodLink R_Cont 76 y_D_zeroFrom) ∈ jv_LT := List.mem_filter.mpr ⟨List.mem_of_getElem? (i := 604) (by decide +kernel), by decide +kernel⟩
theorem wa_148 : (Cond.code y_C_takePointer prog_3_method_14_code 3 (some .int)) ∈ jv_LT := List.mem_filter.mpr ⟨List.mem_of_getElem? (i := 599) (by decide +kernel), by decide +kernel⟩
theorem wa_149 : (Cond.methodLink R_Cont 72 y_C_takePointer) ∈ jv_LT := List.mem_filter.mpr ⟨List.mem_of_getElem? (i := 596) (by decide +kernel), by decide +kernel⟩
theorem wa_150 : (Cond.instanceMethod y_C_takePointer) ∈ jv_LT := List.mem_filter.mpr ⟨List.mem_of_getElem? (i := 598) (by decide +kernel), by decide +kernel⟩
theorem wa_151 : (Cond.selects R_Cont y_C_takePointer y_C_takePointer) ∈ jv_LT := List.mem_filter.mpr ⟨List.mem_of_getElem? (i := 20) (by decide +kernel), by decide +kernel⟩
theorem wa_152 : (Cond.code y_C_takeBehind prog_3_method_13_code 3 (some .int)) ∈ jv_LT := List.mem_filter.mpr ⟨List.mem_of_getElem? (i := 595) (by decide +kernel), by decide +kernel⟩
theorem wa_153 : (Cond.methodLink R_Cont 69 y_C_takeBehind) ∈ jv_LT := List.mem_filter.mpr ⟨List.mem_of_getElem? (i := 592) (by decide +kernel), by decide +kernel⟩
theorem wa_154 : (Cond.instanceMethod y_C_takeBehind) ∈ jv_LT := List.mem_filter.mpr ⟨List.mem_of_getElem? (i := 594) (by decide +kernel), by decide +kernel⟩
theorem wa_155 : (Cond.selects R_Cont y_C_takeBehind y_C_takeBehind) ∈ jv_LT := List.mem_filter.mpr ⟨List.mem_of_getElem? (i := 19) (by decide +kernel), by decide +kernel⟩
theorem wa_156 : (Cond.code y_C_takenBlock prog_3_method_12_code 4 (some .int)) ∈ jv_LT := List.mem_filter.mpr ⟨List.mem_of_getElem? (i := 591) (by decide +kernel), by decide +kernel⟩
theorem wa_157 : (Cond.methodLink R_Cont 31 y_C_takenBlock) ∈ jv_LT := List.mem_filter.mpr ⟨List.mem_of_getElem? (i := 588) (by decide +kernel), by decide +kernel⟩
theorem wa_158 : (Cond.instanceMethod y_C_takenBlock) ∈ jv_LT := List.mem_filter.mpr ⟨List.mem_of_getElem? (i := 590) (by decide +kernel), by decide +kernel⟩
theorem wa_159 : (Cond.selects R_Cont y_C_takenBlock y_C_takenBlock) ∈ jv_LT := List.mem_filter.mpr ⟨List.mem_of_getElem? (i := 18) (by decide +kernel), by decide +kernel⟩
theorem wa_160 : (Cond.code y_C_sizeOf prog_3_method_2_code 2 (some .int)) ∈ jv_LT := List.mem_filter.mpr ⟨List.mem_of_getElem? (i := 621) (by decide +kernel), by decide +kernel⟩
theorem wa_161 : (Cond.methodLink R_Cont 38 y_C_sizeOf) ∈ jv_LT := List.mem_filter.mpr ⟨List.mem_of_getElem? (i := 618) (by decide +kernel), by decide +kernel⟩
theorem wa_162 : (Cond.instanceMethod y_C_sizeOf) ∈ jv_LT := List.mem_filter.mpr ⟨List.mem_of_getElem? (i := 619) (by decide +kernel), by decide +kernel⟩
theorem wa_163 : (Cond.selects R_Cont y_C_sizeOf y_C_sizeOf) ∈ jv_LT := List.mem_filter.mpr ⟨List.mem_of_getElem? (i := 620) (by decide +kernel), by decide +kernel⟩
theorem wa_164 : (Cond.methodLink R_Cont 41 y_D_putInodeWord) ∈ jv_LT := List.mem_filter.mpr ⟨List.mem_of_getElem? (i := 623) (by decide +kernel), by decide +kernel⟩
theorem wa_165 : (Cond.code y_C_release prog_3_method_16_code 2 (some .int)) ∈ jv_LT := List.mem_filter.mpr ⟨List.mem_of_getElem? (i := 644) (by decide +kernel), by decide +kernel⟩
theorem wa_166 : (Cond.methodLink R_Cont 61 y_C_release) ∈ jv_LT := List.mem_filter.mpr ⟨List.mem_of_getElem? (i := 641) (by decide +kernel), by decide +kernel⟩
theorem wa_167 : (Cond.instanceMethod y_C_release) ∈ jv_LT := List.mem_filter.mpr ⟨List.mem_of_getElem? (i := 643) (by decide +kernel), by decide +kernel⟩
theorem wa_168 : (Cond.selects R_Cont y_C_release y_C_release) ∈ jv_LT := List.mem_filter.mpr ⟨List.mem_of_getElem? (i := 23) (by decide +kernel), by decide +kernel⟩
theorem wa_169 : (Cond.code y_C_isIndirectEmpty prog_3_method_17_code 4 (some .boolean)) ∈ jv_LT := List.mem_filter.mpr ⟨List.mem_of_getElem? (i := 648) (by decide +kernel), by decide +kernel⟩
theorem wa_170 : (Cond.methodLink R_Cont 53 y_C_isIndirectEmpty) ∈ jv_LT := List.mem_filter.mpr ⟨List.mem_of_getElem? (i := 645) (by decide +kernel), by decide +kernel⟩
theorem wa_171 : (Cond.instanceMethod y_C_isIndirectEmpty) ∈ jv_LT := List.mem_filter.mpr ⟨List.mem_of_getElem? (i := 647) (by decide +kernel), by decide +kernel⟩
theorem wa_172 : (Cond.selects R_Cont y_C_isIndirectEmpty y_C_isIndirectEmpty) ∈ jv_LT := List.mem_filter.mpr ⟨List.mem_of_getElem? (i := 24) (by decide +kernel), by decide +kernel⟩
theorem wa_173 : (Cond.code y_C_zeroBehind prog_3_method_18_code 4 none) ∈ jv_LT := List.mem_filter.mpr ⟨List.mem_of_getElem? (i := 652) (by decide +kernel), by decide +kernel⟩
theorem wa_174 : (Cond.methodLink R_Cont 57 y_C_zeroBehind) ∈ jv_LT := List.mem_filter.mpr ⟨List.mem_of_getElem? (i := 649) (by decide +kernel), by decide +kernel⟩
theorem wa_175 : (Cond.instanceMethod y_C_zeroBehind) ∈ jv_LT := List.mem_filter.mpr ⟨List.mem_of_getElem? (i := 651) (by decide +kernel), by decide +kernel⟩
theorem wa_176 : (Cond.selects R_Cont y_C_zeroBehind y_C_zeroBehind) ∈ jv_LT := List.mem_filter.mpr ⟨List.mem_of_getElem? (i := 25) (by decide +kernel), by decide +kernel⟩
theorem wa_177 : (Cond.code y_C_dropPointer prog_3_method_15_code 4 (some .int)) ∈ jv_LT := List.mem_filter.mpr ⟨List.mem_of_getElem? (i := 640) (by decide +kernel), by decide +kernel⟩
theorem wa_178 : (Cond.methodLink R_Cont 50 y_C_dropPointer) ∈ jv_LT := List.mem_filter.mpr ⟨List.mem_of_getElem? (i := 637) (by decide +kernel), by decide +kernel⟩
theorem wa_179 : (Cond.instanceMethod y_C_dropPointer) ∈ jv_LT := List.mem_filter.mpr ⟨List.mem_of_getElem? (i := 639) (by decide +kernel), by decide +kernel⟩
theorem wa_180 : (Cond.selects R_Cont y_C_dropPointer y_C_dropPointer) ∈ jv_LT := List.mem_filter.mpr ⟨List.mem_of_getElem? (i := 22) (by decide +kernel), by decide +kernel⟩
theorem wa_181 : (Cond.constant R_Integer 265 1431655765) ∈ jv_LT := List.mem_filter.mpr ⟨List.mem_of_getElem? (i := 160) (by decide +kernel), by decide +kernel⟩
theorem wa_182 : (Cond.constant R_Integer 266 858993459) ∈ jv_LT := List.mem_filter.mpr ⟨List.mem_of_getElem? (i := 161) (by decide +kernel), by decide +kernel⟩
theorem wa_183 : (Cond.constant R_Integer 267 252645135) ∈ jv_LT := List.mem_filter.mpr ⟨List.mem_of_getElem? (i := 162) (by decide +kernel), by decide +kernel⟩
theorem wa_184 : (Cond.code y_J_bitCount prog_15_method_49_code 1 (some .int)) ∈ jv_LT := List.mem_filter.mpr ⟨List.mem_of_getElem? (i := 159) (by decide +kernel), by decide +kernel⟩
theorem wa_185 : (Cond.initialized R_Integer) ∈ jv_LT := List.mem_filter.mpr ⟨List.mem_of_getElem? (i := 69) (by decide +kernel), by decide +kernel⟩
theorem wa_186 : (Cond.methodLink R_Cont 64 y_J_bitCount) ∈ jv_LT := List.mem_filter.mpr ⟨List.mem_of_getElem? (i := 157) (by decide +kernel), by decide +kernel⟩
theorem wa_187 : (Cond.static y_J_bitCount) ∈ jv_LT := List.mem_filter.mpr ⟨List.mem_of_getElem? (i := 158) (by decide +kernel), by decide +kernel⟩
theorem wa_188 : (Cond.fieldLink R_Area 9 R_Area "users" "[I") ∈ jv_LT := List.mem_filter.mpr ⟨List.mem_of_getElem? (i := 345) (by decide +kernel), by decide +kernel⟩
theorem wa_189 : (Cond.code y_J_fill prog_21_method_103_code 4 none) ∈ jv_LT := List.mem_filter.mpr ⟨List.mem_of_getElem? (i := 123) (by decide +kernel), by decide +kernel⟩
theorem wa_190 : (Cond.initialized R_Arrays) ∈ jv_LT := List.mem_filter.mpr ⟨List.mem_of_getElem? (i := 63) (by decide +kernel), by decide +kernel⟩
theorem wa_191 : (Cond.methodLink R_Area 39 y_J_fill) ∈ jv_LT := List.mem_filter.mpr ⟨List.mem_of_getElem? (i := 121) (by decide +kernel), by decide +kernel⟩
theorem wa_192 : (Cond.static y_J_fill) ∈ jv_LT := List.mem_filter.mpr ⟨List.mem_of_getElem? (i := 122) (by decide +kernel), by decide +kernel⟩
theorem wa_193 : (Cond.code y_M_among prog_10_method_4_code 4 (some .boolean)) ∈ jv_LT := List.mem_filter.mpr ⟨List.mem_of_getElem? (i := 838) (by decide +kernel), by decide +kernel⟩
theorem wa_194 : (Cond.initialized R_Model) ∈ jv_LT := List.mem_filter.mpr ⟨List.mem_of_getElem? (i := 52) (by decide +kernel), by decide +kernel⟩
theorem wa_195 : (Cond.methodLink R_Model 35 y_M_among) ∈ jv_LT := List.mem_filter.mpr ⟨List.mem_of_getElem? (i := 836) (by decide +kernel), by decide +kernel⟩
theorem wa_196 : (Cond.static y_M_among) ∈ jv_LT := List.mem_filter.mpr ⟨List.mem_of_getElem? (i := 837) (by decide +kernel), by decide +kernel⟩
theorem wa_197 : (Cond.code y_M_names prog_10_method_13_code 6 (some .int)) ∈ jv_LT := List.mem_filter.mpr ⟨List.mem_of_getElem? (i := 872) (by decide +kernel), by decide +kernel⟩
theorem wa_198 : (Cond.methodLink R_Model 56 y_M_names) ∈ jv_LT := List.mem_filter.mpr ⟨List.mem_of_getElem? (i := 870) (by decide +kernel), by decide +kernel⟩
theorem wa_199 : (Cond.static y_M_names) ∈ jv_LT := List.mem_filter.mpr ⟨List.mem_of_getElem? (i := 871) (by decide +kernel), by decide +kernel⟩
theorem wa_200 : (Cond.fieldLink R_Model 32 R_Model "threw" "I") ∈ jv_LT := List.mem_filter.mpr ⟨List.mem_of_getElem? (i := 794) (by decide +kernel), by decide +kernel⟩
theorem wa_201 : (Cond.fieldLink R_Model 47 R_Model "areas" "I") ∈ jv_LT := List.mem_filter.mpr ⟨List.mem_of_getElem? (i := 795) (by decide +kernel), by decide +kernel⟩
theorem wa_202 : (Cond.fieldLink R_Model 16 R_Model "user" "[I") ∈ jv_LT := List.mem_filter.mpr ⟨List.mem_of_getElem? (i := 798) (by decide +kernel), by decide +kernel⟩
theorem wa_203 : (Cond.fieldLink R_Model 22 R_Model "disk" "[I") ∈ jv_LT := List.mem_filter.mpr ⟨List.mem_of_getElem? (i := 800) (by decide +kernel), by decide +kernel⟩
theorem wa_204 : (Cond.code y_M_prefix prog_10_method_15_code 4 (some .int)) ∈ jv_LT := List.mem_filter.mpr ⟨List.mem_of_getElem? (i := 875) (by decide +kernel), by decide +kernel⟩
theorem wa_205 : (Cond.methodLink R_Model 60 y_M_prefix) ∈ jv_LT := List.mem_filter.mpr ⟨List.mem_of_getElem? (i := 873) (by decide +kernel), by decide +kernel⟩
theorem wa_206 : (Cond.static y_M_prefix) ∈ jv_LT := List.mem_filter.mpr ⟨List.mem_of_getElem? (i := 874) (by decide +kernel), by decide +kernel⟩
theorem wa_207 : (Cond.code y_M_inode prog_10_method_16_code 4 (some .int)) ∈ jv_LT := List.mem_filter.mpr ⟨List.mem_of_getElem? (i := 895) (by decide +kernel), by decide +kernel⟩
theorem wa_208 : (Cond.methodLink R_Model 64 y_M_inode) ∈ jv_LT := List.mem_filter.mpr ⟨List.mem_of_getElem? (i := 892) (by decide +kernel), by decide +kernel⟩
theorem wa_209 : (Cond.instanceMethod y_M_inode) ∈ jv_LT := List.mem_filter.mpr ⟨List.mem_of_getElem? (i := 894) (by decide +kernel), by decide +kernel⟩
theorem wa_210 : (Cond.selects R_Model y_M_inode y_M_inode) ∈ jv_LT := List.mem_filter.mpr ⟨List.mem_of_getElem? (i := 36) (by decide +kernel), by decide +kernel⟩
theorem wa_211 : (Cond.code y_M_find prog_10_method_17_code 9 (some .int)) ∈ jv_LT := List.mem_filter.mpr ⟨List.mem_of_getElem? (i := 891) (by decide +kernel), by decide +kernel⟩
theorem wa_212 : (Cond.methodLink R_Model 68 y_M_find) ∈ jv_LT := List.mem_filter.mpr ⟨List.mem_of_getElem? (i := 888) (by decide +kernel), by decide +kernel⟩
theorem wa_213 : (Cond.instanceMethod y_M_find) ∈ jv_LT := List.mem_filter.mpr ⟨List.mem_of_getElem? (i := 890) (by decide +kernel), by decide +kernel⟩
theorem wa_214 : (Cond.selects R_Model y_M_find y_M_find) ∈ jv_LT := List.mem_filter.mpr ⟨List.mem_of_getElem? (i := 35) (by decide +kernel), by decide +kernel⟩
theorem wa_215 : (Cond.fieldLink R_Model 7 R_Model "label" "[I") ∈ jv_LT := List.mem_filter.mpr ⟨List.mem_of_getElem? (i := 796) (by decide +kernel), by decide +kernel⟩
theorem wa_216 : (Cond.code y_M_flow prog_10_method_5_code 2 (some .boolean)) ∈ jv_LT := List.mem_filter.mpr ⟨List.mem_of_getElem? (i := 835) (by decide +kernel), by decide +kernel⟩
theorem wa_217 : (Cond.methodLink R_Model 43 y_M_flow) ∈ jv_LT := List.mem_filter.mpr ⟨List.mem_of_getElem? (i := 833) (by decide +kernel), by decide +kernel⟩
theorem wa_218 : (Cond.static y_M_flow) ∈ jv_LT := List.mem_filter.mpr ⟨List.mem_of_getElem? (i := 834) (by decide +kernel), by decide +kernel⟩
theorem wa_219 : (Cond.code y_M_sees prog_10_method_19_code 3 (some .boolean)) ∈ jv_LT := List.mem_filter.mpr ⟨List.mem_of_getElem? (i := 883) (by decide +kernel), by decide +kernel⟩
theorem wa_220 : (Cond.methodLink R_Model 71 y_M_sees) ∈ jv_LT := List.mem_filter.mpr ⟨List.mem_of_getElem? (i := 880) (by decide +kernel), by decide +kernel⟩
theorem wa_221 : (Cond.instanceMethod y_M_sees) ∈ jv_LT := List.mem_filter.mpr ⟨List.mem_of_getElem? (i := 882) (by decide +kernel), by decide +kernel⟩
theorem wa_222 : (Cond.selects R_Model y_M_sees y_M_sees) ∈ jv_LT := List.mem_filter.mpr ⟨List.mem_of_getElem? (i := 33) (by decide +kernel), by decide +kernel⟩
theorem wa_223 : (Cond.code y_M_kind prog_10_method_18_code 4 (some .int)) ∈ jv_LT := List.mem_filter.mpr ⟨List.mem_of_getElem? (i := 887) (by decide +kernel), by decide +kernel⟩
theorem wa_224 : (Cond.methodLink R_Model 74 y_M_kind) ∈ jv_LT := List.mem_filter.mpr ⟨List.mem_of_getElem? (i := 884) (by decide +kernel), by decide +kernel⟩
theorem wa_225 : (Cond.instanceMethod y_M_kind) ∈ jv_LT := List.mem_filter.mpr ⟨List.mem_of_getElem? (i := 886) (by decide +kernel), by decide +kernel⟩
theorem wa_226 : (Cond.selects R_Model y_M_kind y_M_kind) ∈ jv_LT := List.mem_filter.mpr ⟨List.mem_of_getElem? (i := 34) (by decide +kernel), by decide +kernel⟩
theorem wa_227 : (Cond.code y_M_isSession prog_10_method_11_code 2 (some .boolean)) ∈ jv_LT := List.mem_filter.mpr ⟨List.mem_of_getElem? (i := 862) (by decide +kernel), by decide +kernel⟩
theorem wa_228 : (Cond.methodLink R_Model 53 y_M_isSession) ∈ jv_LT := List.mem_filter.mpr ⟨List.mem_of_getElem? (i := 859) (by decide +kernel), by decide +kernel⟩
theorem wa_229 : (Cond.instanceMethod y_M_isSession) ∈ jv_LT := List.mem_filter.mpr ⟨List.mem_of_getElem? (i := 861) (by decide +kernel), by decide +kernel⟩
theorem wa_230 : (Cond.selects R_Model y_M_isSession y_M_isSession) ∈ jv_LT := List.mem_filter.mpr ⟨List.mem_of_getElem? (i := 31) (by decide +kernel), by decide +kernel⟩
theorem wa_231 : (Cond.code y_M_isPath prog_10_method_14_code 1 (some .boolean)) ∈ jv_LT := List.mem_filter.mpr ⟨List.mem_of_getElem? (i := 869) (by decide +kernel), by decide +kernel⟩
theorem wa_232 : (Cond.methodLink R_Model 81 y_M_isPath) ∈ jv_LT := List.mem_filter.mpr ⟨List.mem_of_getElem? (i := 867) (by decide +kernel), by decide +kernel⟩
theorem wa_233 : (Cond.static y_M_isPath) ∈ jv_LT := List.mem_filter.mpr ⟨List.mem_of_getElem? (i := 868) (by decide +kernel), by decide +kernel⟩
theorem wa_234 : (Cond.code y_M_visible prog_10_method_20_code 7 (some .boolean)) ∈ jv_LT := List.mem_filter.mpr ⟨List.mem_of_getElem? (i := 879) (by decide +kernel), by decide +kernel⟩
theorem wa_235 : (Cond.methodLink R_Model 84 y_M_visible) ∈ jv_LT := List.mem_filter.mpr ⟨List.mem_of_getElem? (i := 876) (by decide +kernel), by decide +kernel⟩
theorem wa_236 : (Cond.instanceMethod y_M_visible) ∈ jv_LT := List.mem_filter.mpr ⟨List.mem_of_getElem? (i := 878) (by decide +kernel), by decide +kernel⟩
theorem wa_237 : (Cond.selects R_Model y_M_visible y_M_visible) ∈ jv_LT := List.mem_filter.mpr ⟨List.mem_of_getElem? (i := 32) (by decide +kernel), by decide +kernel⟩
theorem wa_238 : (Cond.fieldLink R_Model 25 R_Model "copy" "[I") ∈ jv_LT := List.mem_filter.mpr ⟨List.mem_of_getElem? (i := 801) (by decide +kernel), by decide +kernel⟩
theorem wa_239 : (Cond.code y_M_isArea prog_10_method_7_code 2 (some .boolean)) ∈ jv_LT := List.mem_filter.mpr ⟨List.mem_of_getElem? (i := 854) (by decide +kernel), by decide +kernel⟩
theorem wa_240 : (Cond.methodLink R_Model 50 y_M_isArea) ∈ jv_LT := List.mem_filter.mpr ⟨List.mem_of_getElem? (i := 851) (by decide +kernel), by decide +kernel⟩
theorem wa_241 : (Cond.instanceMethod y_M_isArea) ∈ jv_LT := List.mem_filter.mpr ⟨List.mem_of_getElem? (i := 853) (by decide +kernel), by decide +kernel⟩
theorem wa_242 : (Cond.selects R_Model y_M_isArea y_M_isArea) ∈ jv_LT := List.mem_filter.mpr ⟨List.mem_of_getElem? (i := 30) (by decide +kernel), by decide +kernel⟩
theorem wa_243 : (Cond.code y_M_isLabel prog_10_method_3_code 1 (some .boolean)) ∈ jv_LT := List.mem_filter.mpr ⟨List.mem_of_getElem? (i := 832) (by decide +kernel), by decide +kernel⟩
theorem wa_244 : (Cond.methodLink R_Model 39 y_M_isLabel) ∈ jv_LT := List.mem_filter.mpr ⟨List.mem_of_getElem? (i := 830) (by decide +kernel), by decide +kernel⟩
theorem wa_245 : (Cond.static y_M_isLabel) ∈ jv_LT := List.mem_filter.mpr ⟨List.mem_of_getElem? (i := 831) (by decide +kernel), by decide +kernel⟩
theorem wa_246 : (Cond.fieldLink R_Model 13 R_Model "clearance" "[I") ∈ jv_LT := List.mem_filter.mpr ⟨List.mem_of_getElem? (i := 797) (by decide +kernel), by decide +kernel⟩
theorem wa_247 : (Cond.fieldLink R_Model 28 R_Model "fuse" "I") ∈ jv_LT := List.mem_filter.mpr ⟨List.mem_of_getElem? (i := 802) (by decide +kernel), by decide +kernel⟩
theorem wa_248 : (Cond.fieldLink R_Model 19 R_Model "writes" "[I") ∈ jv_LT := List.mem_filter.mpr ⟨List.mem_of_getElem? (i := 799) (by decide +kernel), by decide +kernel⟩
theorem wa_249 : (Cond.code y_M_crashNow prog_10_method_22_code 3 (some .int)) ∈ jv_LT := List.mem_filter.mpr ⟨List.mem_of_getElem? (i := 911) (by decide +kernel), by decide +kernel⟩
theorem wa_250 : (Cond.methodLink R_Model 77 y_M_crashNow) ∈ jv_LT := List.mem_filter.mpr ⟨List.mem_of_getElem? (i := 908) (by decide +kernel), by decide +kernel⟩
theorem wa_251 : (Cond.instanceMethod y_M_crashNow) ∈ jv_LT := List.mem_filter.mpr ⟨List.mem_of_getElem? (i := 910) (by decide +kernel), by decide +kernel⟩
theorem wa_252 : (Cond.selects R_Model y_M_crashNow y_M_crashNow) ∈ jv_LT := List.mem_filter.mpr ⟨List.mem_of_getElem? (i := 40) (by decide +kernel), by decide +kernel⟩
theorem wa_253 : (Cond.code y_M_freeInodes prog_10_method_24_code 4 (some .int)) ∈ jv_LT := List.mem_filter.mpr ⟨List.mem_of_getElem? (i := 899) (by decide +kernel), by decide +kernel⟩
theorem wa_254 : (Cond.methodLink R_Model 88 y_M_freeInodes) ∈ jv_LT := List.mem_filter.mpr ⟨List.mem_of_getElem? (i := 896) (by decide +kernel), by decide +kernel⟩
theorem wa_255 : (Cond.instanceMethod y_M_freeInodes) ∈ jv_LT := List.mem_filter.mpr ⟨List.mem_of_getElem? (i := 898) (by decide +kernel), by decide +kernel⟩
theorem wa_256 : (Cond.selects R_Model y_M_freeInodes y_M_freeInodes) ∈ jv_LT := List.mem_filter.mpr ⟨List.mem_of_getElem? (i := 37) (by decide +kernel), by decide +kernel⟩
theorem wa_257 : (Cond.code y_M_start prog_10_method_21_code 3 none) ∈ jv_LT := List.mem_filter.mpr ⟨List.mem_of_getElem? (i := 903) (by decide +kernel), by decide +kernel⟩
theorem wa_258 : (Cond.methodLink R_Model 91 y_M_start) ∈ jv_LT := List.mem_filter.mpr ⟨List.mem_of_getElem? (i := 900) (by decide +kernel), by decide +kernel⟩
theorem wa_259 : (Cond.instanceMethod y_M_start) ∈ jv_LT := List.mem_filter.mpr ⟨List.mem_of_getElem? (i := 902) (by decide +kernel), by decide +kernel⟩
theorem wa_260 : (Cond.selects R_Model y_M_start y_M_start) ∈ jv_LT := List.mem_filter.mpr ⟨List.mem_of_getElem? (i := 38) (by decide +kernel), by decide +kernel⟩
theorem wa_261 : (Cond.code y_M_finish prog_10_method_23_code 8 (some .int)) ∈ jv_LT := List.mem_filter.mpr ⟨List.mem_of_getElem? (i := 907) (by decide +kernel), by decide +kernel⟩
theorem wa_262 : (Cond.methodLink R_Model 95 y_M_finish) ∈ jv_LT := List.mem_filter.mpr ⟨List.mem_of_getElem? (i := 904) (by decide +kernel), by decide +kernel⟩
theorem wa_263 : (Cond.instanceMethod y_M_finish) ∈ jv_LT := List.mem_filter.mpr ⟨List.mem_of_getElem? (i := 906) (by decide +kernel), by decide +kernel⟩
theorem wa_264 : (Cond.selects R_Model y_M_finish y_M_finish) ∈ jv_LT := List.mem_filter.mpr ⟨List.mem_of_getElem? (i := 39) (by decide +kernel), by decide +kernel⟩
theorem wa_265 : (Cond.code y_M_refusal prog_10_method_27_code 3 (some .int)) ∈ jv_LT := List.mem_filter.mpr ⟨List.mem_of_getElem? (i := 919) (by decide +kernel), by decide +kernel⟩
theorem wa_266 : (Cond.methodLink R_Model 98 y_M_refusal) ∈ jv_LT := List.mem_filter.mpr ⟨List.mem_of_getElem? (i := 916) (by decide +kernel), by decide +kernel⟩
theorem wa_267 : (Cond.instanceMethod y_M_refusal) ∈ jv_LT := List.mem_filter.mpr ⟨List.mem_of_getElem? (i := 918) (by decide +kernel), by decide +kernel⟩
theorem wa_268 : (Cond.selects R_Model y_M_refusal y_M_refusal) ∈ jv_LT := List.mem_filter.mpr ⟨List.mem_of_getElem? (i := 41) (by decide +kernel), by decide +kernel⟩
theorem wa_269 : (Cond.code y_M_pointer prog_10_method_29_code 4 (some .int)) ∈ jv_LT := List.mem_filter.mpr ⟨List.mem_of_getElem? (i := 923) (by decide +kernel), by decide +kernel⟩
theorem wa_270 : (Cond.methodLink R_Model 101 y_M_pointer) ∈ jv_LT := List.mem_filter.mpr ⟨List.mem_of_getElem? (i := 920) (by decide +kernel), by decide +kernel⟩
theorem wa_271 : (Cond.instanceMethod y_M_pointer) ∈ jv_LT := List.mem_filter.mpr ⟨List.mem_of_getElem? (i := 922) (by decide +kernel), by decide +kernel⟩
theorem wa_272 : (Cond.selects R_Model y_M_pointer y_M_pointer) ∈ jv_LT := List.mem_filter.mpr ⟨List.mem_of_getElem? (i := 42) (by decide +kernel), by decide +kernel⟩
theorem wa_273 : (Cond.code y_M_freeBlocks prog_10_method_25_code 4 (some .int)) ∈ jv_LT := List.mem_filter.mpr ⟨List.mem_of_getElem? (i := 927) (by decide +kernel), by decide +kernel⟩
theorem wa_274 : (Cond.methodLink R_Model 104 y_M_freeBlocks) ∈ jv_LT := List.mem_filter.mpr ⟨List.mem_of_getElem? (i := 924) (by decide +kernel), by decide +kernel⟩
theorem wa_275 : (Cond.instanceMethod y_M_freeBlocks) ∈ jv_LT := List.mem_filter.mpr ⟨List.mem_of_getElem? (i := 926) (by decide +kernel), by decide +kernel⟩
theorem wa_276 : (Cond.selects R_Model y_M_freeBlocks y_M_freeBlocks) ∈ jv_LT := List.mem_filter.mpr ⟨List.mem_of_getElem? (i := 43) (by decide +kernel), by decide +kernel⟩
theorem wa_277 : (Cond.code y_M_takeBlock prog_10_method_28_code 3 (some .int)) ∈ jv_LT := List.mem_filter.mpr ⟨List.mem_of_getElem? (i := 931) (by decide +kernel), by decide +kernel⟩
theorem wa_278 : (Cond.methodLink R_Model 107 y_M_takeBlock) ∈ jv_LT := List.mem_filter.mpr ⟨List.mem_of_getElem? (i := 928) (by decide +kernel), by decide +kernel⟩
theorem wa_279 : (Cond.instanceMethod y_M_takeBlock) ∈ jv_LT := List.mem_filter.mpr ⟨List.mem_of_getElem? (i := 930) (by decide +kernel), by decide +kernel⟩
theorem wa_280 : (Cond.selects R_Model y_M_takeBlock y_M_takeBlock) ∈ jv_LT := List.mem_filter.mpr ⟨List.mem_of_getElem? (i := 44) (by decide +kernel), by decide +kernel⟩
theorem wa_281 : (Cond.code y_M_release prog_10_method_31_code 3 (some .int)) ∈ jv_LT := List.mem_filter.mpr ⟨List.mem_of_getElem? (i := 939) (by decide +kernel), by decide +kernel⟩
theorem wa_282 : (Cond.methodLink R_Model 110 y_M_release) ∈ jv_LT := List.mem_filter.mpr ⟨List.mem_of_getElem? (i := 936) (by decide +kernel), by decide +kernel⟩
theorem wa_283 : (Cond.instanceMethod y_M_release) ∈ jv_LT := List.mem_filter.mpr ⟨List.mem_of_getElem? (i := 938) (by decide +kernel), by decide +kernel⟩
theorem wa_284 : (Cond.selects R_Model y_M_release y_M_release) ∈ jv_LT := List.mem_filter.mpr ⟨List.mem_of_getElem? (i := 45) (by decide +kernel), by decide +kernel⟩
theorem wa_285 : (Cond.code y_M_hasChild prog_10_method_33_code 5 (some .boolean)) ∈ jv_LT := List.mem_filter.mpr ⟨List.mem_of_getElem? (i := 947) (by decide +kernel), by decide +kernel⟩
theorem wa_286 : (Cond.methodLink R_Model 113 y_M_hasChild) ∈ jv_LT := List.mem_filter.mpr ⟨List.mem_of_getElem? (i := 944) (by decide +kernel), by decide +kernel⟩
theorem wa_287 : (Cond.instanceMethod y_M_hasChild) ∈ jv_LT := List.mem_filter.mpr ⟨List.mem_of_getElem? (i := 946) (by decide +kernel), by decide +kernel⟩
theorem wa_288 : (Cond.selects R_Model y_M_hasChild y_M_hasChild) ∈ jv_LT := List.mem_filter.mpr ⟨List.mem_of_getElem? (i := 46) (by decide +kernel), by decide +kernel⟩
theorem wa_289 : (Cond.code y_M_below prog_10_method_35_code 6 (some .int)) ∈ jv_LT := List.mem_filter.mpr ⟨List.mem_of_getElem? (i := 955) (by decide +kernel), by decide +kernel⟩
theorem wa_290 : (Cond.methodLink R_Model 116 y_M_below) ∈ jv_LT := List.mem_filter.mpr ⟨List.mem_of_getElem? (i := 952) (by decide +kernel), by decide +kernel⟩
theorem wa_291 : (Cond.instanceMethod y_M_below) ∈ jv_LT := List.mem_filter.mpr ⟨List.mem_of_getElem? (i := 954) (by decide +kernel), by decide +kernel⟩
theorem wa_292 : (Cond.selects R_Model y_M_below y_M_below) ∈ jv_LT := List.mem_filter.mpr ⟨List.mem_of_getElem? (i := 47) (by decide +kernel), by decide +kernel⟩
theorem wa_293 : (Cond.code y_M_unreadable prog_10_method_37_code 5 (some .int)) ∈ jv_LT := List.mem_filter.mpr ⟨List.mem_of_getElem? (i := 963) (by decide +kernel), by decide +kernel⟩
theorem wa_294 : (Cond.methodLink R_Model 119 y_M_unreadable) ∈ jv_LT := List.mem_filter.mpr ⟨List.mem_of_getElem? (i := 960) (by decide +kernel), by decide +kernel⟩
theorem wa_295 : (Cond.instanceMethod y_M_unreadable) ∈ jv_LT := List.mem_filter.mpr ⟨List.mem_of_getElem? (i := 962) (by decide +kernel), by decide +kernel⟩
theorem wa_296 : (Cond.selects R_Model y_M_unreadable y_M_unreadable) ∈ jv_LT := List.mem_filter.mpr ⟨List.mem_of_getElem? (i := 48) (by decide +kernel), by decide +kernel⟩
abbrev w_fuse (cI : ClassId) (q_fu : Nat) (vat : Int32) : va_W := [(q_fu, .inr (kFuse, [.int vat]))]
abbrev w_disk (cI : ClassId) (q_di q_pl q_dr q_jo : Nat) (vjn : Int32) (vmk : Int32) (vwr : Int32) (vP : Nat → Int32) (vD : Nat → Int32) (vJ : Nat → Int32) : va_W := [(q_di, .inr (kDisk, [.ref q_pl, .ref q_dr, .ref q_jo, .int vjn, .int vmk, .int vwr])), (q_pl, .inl (cI, 232, .inl vP)), (q_dr, .inl (cI, 232, .inl vD)), (q_jo, .inl (cI, 232, .inl vJ))]
abbrev w_dfu (cI : ClassId) (q_di q_pl q_dr q_jo q_fu : Nat) (vjn : Int32) (vmk : Int32) (vwr : Int32) (vP : Nat → Int32) (vD : Nat → Int32) (vJ : Nat → Int32) (vat : Int32) : va_W := [(q_di, .inr (kDisk, [.ref q_pl, .ref q_dr, .ref q_jo, .int vjn, .int vmk, .int vwr])), (q_pl, .inl (cI, 232, .inl vP)), (q_dr, .inl (cI, 232, .inl vD)), (q_jo, .inl (cI, 232, .inl vJ)), (q_fu, .inr (kFuse, [.int vat]))]
abbrev w_tree (cI : ClassId) (q_tr q_di q_pl q_dr q_jo : Nat) (vjn : Int32) (vmk : Int32) (vwr : Int32) (vP : Nat → Int32) (vD : Nat → Int32) (vJ : Nat → Int32) : va_W := [(q_tr, .inr (kTree, [.ref q_di])), (q_di, .inr (kDisk, [.ref q_pl, .ref q_dr, .ref q_jo, .int vjn, .int vmk, .int vwr])), (q_pl, .inl (cI, 232, .inl vP)), (q_dr, .inl (cI, 232, .inl vD)), (q_jo, .inl (cI, 232, .inl vJ))]
abbrev w_cont (cI : ClassId) (q_co q_di q_pl q_dr q_jo : Nat) (vjn : Int32) (vmk : Int32) (vwr : Int32) (vP : Nat → Int32) (vD : Nat → Int32) (vJ : Nat → Int32) : va_W := [(q_co, .inr (kCont, [.ref q_di])), (q_di, .inr (kDisk, [.ref q_pl, .ref q_dr, .ref q_jo, .int vjn, .int vmk, .int vwr])), (q_pl, .inl (cI, 232, .inl vP)), (q_dr, .inl (cI, 232, .inl vD)), (q_jo, .inl (cI, 232, .inl vJ))]
abbrev w_area (cI : ClassId) (q_ar q_us q_di q_tr q_co : Nat) (vlb : Int32) (vU : Nat → Int32) : va_W := [(q_ar, .inr (kArea, [.int vlb, .ref q_us, .ref q_di, .ref q_tr, .ref q_co])), (q_us, .inl (cI, 4, .inl vU))]
abbrev w_model (cI : ClassId) (q_mo q_mlb_ q_mcl_ q_mus_ q_mwr_ q_mdk_ q_mcp_ : Nat) (mth : Int32) (mar : Int32) (mfu : Int32) (mLb : Nat → Int32) (mCl : Nat → Int32) (mUs : Nat → Int32) (mWr : Nat → Int32) (mDk : Nat → Int32) (mCp : Nat → Int32) : va_W := [(q_mo, .inr (kModel, [.int mth, .int mar, .ref q_mlb_, .ref q_mcl_, .ref q_mus_, .ref q_mwr_, .ref q_mdk_, .ref q_mcp_, .int mfu])), (q_mlb_, .inl (cI, 6, .inl mLb)), (q_mcl_, .inl (cI, 4, .inl mCl)), (q_mus_, .inl (cI, 24, .inl mUs)), (q_mwr_, .inl (cI, 6, .inl mWr)), (q_mdk_, .inl (cI, 1392, .inl mDk)), (q_mcp_, .inl (cI, 232, .inl mCp))]
abbrev w_two (cI : ClassId) (q_fr q_to : Nat) (vF : Nat → Int32) (vT : Nat → Int32) : va_W := [(q_fr, .inl (cI, 232, .inl vF)), (q_to, .inl (cI, 232, .inl vT))]
abbrev w_arr4 (cI : ClassId) (q_us : Nat) (vU : Nat → Int32) : va_W := [(q_us, .inl (cI, 4, .inl vU))]
end
section
theorem d_L_isLabel_0 : decode cc_L_isLabel 0 = .ok (.iload_n 0, 1) := by decide +kernel
theorem d_L_isLabel_1 : decode cc_L_isLabel 1 = .ok (.ifCond .lt 14, 3) := by decide +kernel
theorem d_L_isLabel_15 : decode cc_L_isLabel 15 = .ok (.iconst 0, 1) := by decide +kernel
theorem d_L_isLabel_16 : decode cc_L_isLabel 16 = .ok (.ireturn, 1) := by decide +kernel
theorem d_L_isLabel_4 : decode cc_L_isLabel 4 = .ok (.iload_n 0, 1) := by decide +kernel
theorem d_L_isLabel_5 : decode cc_L_isLabel 5 = .ok (.sipush 512, 3) := by decide +kernel
theorem d_L_isLabel_8 : decode cc_L_isLabel 8 = .ok (.if_icmp .ge 7, 3) := by decide +kernel
theorem d_L_isLabel_11 : decode cc_L_isLabel 11 = .ok (.iconst 1, 1) := by decide +kernel
theorem d_L_isLabel_12 : decode cc_L_isLabel 12 = .ok (.goto 4, 3) := by decide +kernel
theorem d_L_isSecrecyWithin_0 : decode cc_L_isSecrecyWithin 0 = .ok (.iload_n 0, 1) := by decide +kernel
theorem d_L_isSecrecyWithin_1 : decode cc_L_isSecrecyWithin 1 = .ok (.iconst 3, 1) := by decide +kernel
theorem d_L_isSecrecyWithin_2 : decode cc_L_isSecrecyWithin 2 = .ok (.iand, 1) := by decide +kernel
theorem d_L_isSecrecyWithin_3 : decode cc_L_isSecrecyWithin 3 = .ok (.iload_n 1, 1) := by decide +kernel
theorem d_L_isSecrecyWithin_4 : decode cc_L_isSecrecyWithin 4 = .ok (.iconst 3, 1) := by decide +kernel
theorem d_L_isSecrecyWithin_5 : decode cc_L_isSecrecyWithin 5 = .ok (.iand, 1) := by decide +kernel
theorem d_L_isSecrecyWithin_6 : decode cc_L_isSecrecyWithin 6 = .ok (.if_icmp .gt 18, 3) := by decide +kernel
theorem d_L_isSecrecyWithin_24 : decode cc_L_isSecrecyWithin 24 = .ok (.iconst 0, 1) := by decide +kernel
theorem d_L_isSecrecyWithin_25 : decode cc_L_isSecrecyWithin 25 = .ok (.ireturn, 1) := by decide +kernel
theorem d_L_isSecrecyWithin_9 : decode cc_L_isSecrecyWithin 9 = .ok (.iload_n 0, 1) := by decide +kernel
theorem d_L_isSecrecyWithin_10 : decode cc_L_isSecrecyWithin 10 = .ok (.iload_n 1, 1) := by decide +kernel
theorem d_L_isSecrecyWithin_11 : decode cc_L_isSecrecyWithin 11 = .ok (.iconst (-1), 1) := by decide +kernel
theorem d_L_isSecrecyWithin_12 : decode cc_L_isSecrecyWithin 12 = .ok (.ixor, 1) := by decide +kernel
theorem d_L_isSecrecyWithin_13 : decode cc_L_isSecrecyWithin 13 = .ok (.iand, 1) := by decide +kernel
theorem d_L_isSecrecyWithin_14 : decode cc_L_isSecrecyWithin 14 = .ok (.bipush 28, 2) := by decide +kernel
theorem d_L_isSecrecyWithin_16 : decode cc_L_isSecrecyWithin 16 = .ok (.iand, 1) := by decide +kernel
theorem d_L_isSecrecyWithin_17 : decode cc_L_isSecrecyWithin 17 = .ok (.ifCond .ne 7, 3) := by decide +kernel
theorem d_L_isSecrecyWithin_20 : decode cc_L_isSecrecyWithin 20 = .ok (.iconst 1, 1) := by decide +kernel
theorem d_L_isSecrecyWithin_21 : decode cc_L_isSecrecyWithin 21 = .ok (.goto 4, 3) := by decide +kernel
theorem d_L_isIntegrityWithin_0 : decode cc_L_isIntegrityWithin 0 = .ok (.iload_n 0, 1) := by decide +kernel
theorem d_L_isIntegrityWithin_1 : decode cc_L_isIntegrityWithin 1 = .ok (.bipush 96, 2) := by decide +kernel
theorem d_L_isIntegrityWithin_3 : decode cc_L_isIntegrityWithin 3 = .ok (.iand, 1) := by decide +kernel
theorem d_L_isIntegrityWithin_4 : decode cc_L_isIntegrityWithin 4 = .ok (.iload_n 1, 1) := by decide +kernel
theorem d_L_isIntegrityWithin_5 : decode cc_L_isIntegrityWithin 5 = .ok (.bipush 96, 2) := by decide +kernel
theorem d_L_isIntegrityWithin_7 : decode cc_L_isIntegrityWithin 7 = .ok (.iand, 1) := by decide +kernel
theorem d_L_isIntegrityWithin_8 : decode cc_L_isIntegrityWithin 8 = .ok (.if_icmp .gt 19, 3) := by decide +kernel
theorem d_L_isIntegrityWithin_27 : decode cc_L_isIntegrityWithin 27 = .ok (.iconst 0, 1) := by decide +kernel
theorem d_L_isIntegrityWithin_28 : decode cc_L_isIntegrityWithin 28 = .ok (.ireturn, 1) := by decide +kernel
theorem d_L_isIntegrityWithin_11 : decode cc_L_isIntegrityWithin 11 = .ok (.iload_n 0, 1) := by decide +kernel
theorem d_L_isIntegrityWithin_12 : decode cc_L_isIntegrityWithin 12 = .ok (.iload_n 1, 1) := by decide +kernel
theorem d_L_isIntegrityWithin_13 : decode cc_L_isIntegrityWithin 13 = .ok (.iconst (-1), 1) := by decide +kernel
theorem d_L_isIntegrityWithin_14 : decode cc_L_isIntegrityWithin 14 = .ok (.ixor, 1) := by decide +kernel
theorem d_L_isIntegrityWithin_15 : decode cc_L_isIntegrityWithin 15 = .ok (.iand, 1) := by decide +kernel
theorem d_L_isIntegrityWithin_16 : decode cc_L_isIntegrityWithin 16 = .ok (.sipush 384, 3) := by decide +kernel
theorem d_L_isIntegrityWithin_19 : decode cc_L_isIntegrityWithin 19 = .ok (.iand, 1) := by decide +kernel
theorem d_L_isIntegrityWithin_20 : decode cc_L_isIntegrityWithin 20 = .ok (.ifCond .ne 7, 3) := by decide +kernel
theorem d_L_isIntegrityWithin_23 : decode cc_L_isIntegrityWithin 23 = .ok (.iconst 1, 1) := by decide +kernel
theorem d_L_isIntegrityWithin_24 : decode cc_L_isIntegrityWithin 24 = .ok (.goto 4, 3) := by decide +kernel
theorem d_L_mayFlow_0 : decode cc_L_mayFlow 0 = .ok (.iload_n 0, 1) := by decide +kernel
theorem d_L_mayFlow_1 : decode cc_L_mayFlow 1 = .ok (.iload_n 1, 1) := by decide +kernel
theorem d_L_mayFlow_2 : decode cc_L_mayFlow 2 = .ok (.invokestatic 9, 3) := by decide +kernel
theorem d_L_mayFlow_5 : decode cc_L_mayFlow 5 = .ok (.ifCond .eq 15, 3) := by decide +kernel
theorem d_L_mayFlow_20 : decode cc_L_mayFlow 20 = .ok (.iconst 0, 1) := by decide +kernel
theorem d_L_mayFlow_21 : decode cc_L_mayFlow 21 = .ok (.ireturn, 1) := by decide +kernel
theorem d_L_mayFlow_8 : decode cc_L_mayFlow 8 = .ok (.iload_n 1, 1) := by decide +kernel
theorem d_L_mayFlow_9 : decode cc_L_mayFlow 9 = .ok (.iload_n 0, 1) := by decide +kernel
theorem d_L_mayFlow_10 : decode cc_L_mayFlow 10 = .ok (.invokestatic 13, 3) := by decide +kernel
theorem d_L_mayFlow_13 : decode cc_L_mayFlow 13 = .ok (.ifCond .eq 7, 3) := by decide +kernel
theorem d_L_mayFlow_16 : decode cc_L_mayFlow 16 = .ok (.iconst 1, 1) := by decide +kernel
theorem d_L_mayFlow_17 : decode cc_L_mayFlow 17 = .ok (.goto 4, 3) := by decide +kernel
theorem d_L_isWithin_0 : decode cc_L_isWithin 0 = .ok (.iload_n 0, 1) := by decide +kernel
theorem d_L_isWithin_1 : decode cc_L_isWithin 1 = .ok (.iload_n 1, 1) := by decide +kernel
theorem d_L_isWithin_2 : decode cc_L_isWithin 2 = .ok (.invokestatic 9, 3) := by decide +kernel
theorem d_L_isWithin_5 : decode cc_L_isWithin 5 = .ok (.ifCond .eq 15, 3) := by decide +kernel
theorem d_L_isWithin_20 : decode cc_L_isWithin 20 = .ok (.iconst 0, 1) := by decide +kernel
theorem d_L_isWithin_21 : decode cc_L_isWithin 21 = .ok (.ireturn, 1) := by decide +kernel
theorem d_L_isWithin_8 : decode cc_L_isWithin 8 = .ok (.iload_n 0, 1) := by decide +kernel
theorem d_L_isWithin_9 : decode cc_L_isWithin 9 = .ok (.iload_n 1, 1) := by decide +kernel
theorem d_L_isWithin_10 : decode cc_L_isWithin 10 = .ok (.invokestatic 13, 3) := by decide +kernel
theorem d_L_isWithin_13 : decode cc_L_isWithin 13 = .ok (.ifCond .eq 7, 3) := by decide +kernel
theorem d_L_isWithin_16 : decode cc_L_isWithin 16 = .ok (.iconst 1, 1) := by decide +kernel
theorem d_L_isWithin_17 : decode cc_L_isWithin 17 = .ok (.goto 4, 3) := by decide +kernel
theorem d_P_lastName_0 : decode cc_P_lastName 0 = .ok (.iload_n 0, 1) := by decide +kernel
theorem d_P_lastName_1 : decode cc_P_lastName 1 = .ok (.bipush 31, 2) := by decide +kernel
theorem d_P_lastName_3 : decode cc_P_lastName 3 = .ok (.iand, 1) := by decide +kernel
theorem d_P_lastName_4 : decode cc_P_lastName 4 = .ok (.ireturn, 1) := by decide +kernel
theorem d_P_parentOf_0 : decode cc_P_parentOf 0 = .ok (.iload_n 0, 1) := by decide +kernel
theorem d_P_parentOf_1 : decode cc_P_parentOf 1 = .ok (.iconst 5, 1) := by decide +kernel
theorem d_P_parentOf_2 : decode cc_P_parentOf 2 = .ok (.ishr, 1) := by decide +kernel
theorem d_P_parentOf_3 : decode cc_P_parentOf 3 = .ok (.ireturn, 1) := by decide +kernel
theorem d_P_without_0 : decode cc_P_without 0 = .ok (.iload_n 0, 1) := by decide +kernel
theorem d_P_without_1 : decode cc_P_without 1 = .ok (.iload_n 1, 1) := by decide +kernel
theorem d_P_without_2 : decode cc_P_without 2 = .ok (.iconst 5, 1) := by decide +kernel
theorem d_P_without_3 : decode cc_P_without 3 = .ok (.imul, 1) := by decide +kernel
theorem d_P_without_4 : decode cc_P_without 4 = .ok (.ishr, 1) := by decide +kernel
theorem d_P_without_5 : decode cc_P_without 5 = .ok (.ireturn, 1) := by decide +kernel
theorem d_P_isPath_0 : decode cc_P_isPath 0 = .ok (.iload_n 0, 1) := by decide +kernel
theorem d_P_isPath_1 : decode cc_P_isPath 1 = .ok (.istore_n 1, 1) := by decide +kernel
theorem d_P_isPath_2 : decode cc_P_isPath 2 = .ok (.iconst 0, 1) := by decide +kernel
theorem d_P_isPath_3 : decode cc_P_isPath 3 = .ok (.istore_n 2, 1) := by decide +kernel
theorem d_P_isPath_4 : decode cc_P_isPath 4 = .ok (.iload_n 2, 1) := by decide +kernel
theorem d_P_isPath_5 : decode cc_P_isPath 5 = .ok (.iconst 4, 1) := by decide +kernel
theorem d_P_isPath_6 : decode cc_P_isPath 6 = .ok (.if_icmp .ge 35, 3) := by decide +kernel
theorem d_P_isPath_41 : decode cc_P_isPath 41 = .ok (.iload_n 1, 1) := by decide +kernel
theorem d_P_isPath_42 : decode cc_P_isPath 42 = .ok (.ifCond .ne 7, 3) := by decide +kernel
theorem d_P_isPath_49 : decode cc_P_isPath 49 = .ok (.iconst 0, 1) := by decide +kernel
theorem d_P_isPath_50 : decode cc_P_isPath 50 = .ok (.ireturn, 1) := by decide +kernel
theorem d_P_isPath_45 : decode cc_P_isPath 45 = .ok (.iconst 1, 1) := by decide +kernel
theorem d_P_isPath_46 : decode cc_P_isPath 46 = .ok (.goto 4, 3) := by decide +kernel
theorem d_P_isPath_9 : decode cc_P_isPath 9 = .ok (.iload_n 1, 1) := by decide +kernel
theorem d_P_isPath_10 : decode cc_P_isPath 10 = .ok (.ifCond .eq 31, 3) := by decide +kernel
theorem d_P_isPath_13 : decode cc_P_isPath 13 = .ok (.iload_n 1, 1) := by decide +kernel
theorem d_P_isPath_14 : decode cc_P_isPath 14 = .ok (.invokestatic 9, 3) := by decide +kernel
theorem d_P_isPath_17 : decode cc_P_isPath 17 = .ok (.istore_n 3, 1) := by decide +kernel
theorem d_P_isPath_18 : decode cc_P_isPath 18 = .ok (.iload_n 3, 1) := by decide +kernel
theorem d_P_isPath_19 : decode cc_P_isPath 19 = .ok (.ifCond .eq 9, 3) := by decide +kernel
theorem d_P_isPath_28 : decode cc_P_isPath 28 = .ok (.iconst 0, 1) := by decide +kernel
theorem d_P_isPath_29 : decode cc_P_isPath 29 = .ok (.ireturn, 1) := by decide +kernel
theorem d_P_isPath_22 : decode cc_P_isPath 22 = .ok (.iload_n 3, 1) := by decide +kernel
theorem d_P_isPath_23 : decode cc_P_isPath 23 = .ok (.bipush 26, 2) := by decide +kernel
theorem d_P_isPath_25 : decode cc_P_isPath 25 = .ok (.if_icmp .le 5, 3) := by decide +kernel
theorem d_P_isPath_30 : decode cc_P_isPath 30 = .ok (.iload_n 1, 1) := by decide +kernel
theorem d_P_isPath_31 : decode cc_P_isPath 31 = .ok (.invokestatic 13, 3) := by decide +kernel
theorem d_P_isPath_34 : decode cc_P_isPath 34 = .ok (.istore_n 1, 1) := by decide +kernel
theorem d_P_isPath_35 : decode cc_P_isPath 35 = .ok (.iinc 2 1, 3) := by decide +kernel
theorem d_P_isPath_38 : decode cc_P_isPath 38 = .ok (.goto (-34), 3) := by decide +kernel
theorem d_P_isBelowRoot_0 : decode cc_P_isBelowRoot 0 = .ok (.iload_n 0, 1) := by decide +kernel
theorem d_P_isBelowRoot_1 : decode cc_P_isBelowRoot 1 = .ok (.ifCond .eq 14, 3) := by decide +kernel
theorem d_P_isBelowRoot_15 : decode cc_P_isBelowRoot 15 = .ok (.iconst 0, 1) := by decide +kernel
theorem d_P_isBelowRoot_16 : decode cc_P_isBelowRoot 16 = .ok (.ireturn, 1) := by decide +kernel
theorem d_P_isBelowRoot_4 : decode cc_P_isBelowRoot 4 = .ok (.iload_n 0, 1) := by decide +kernel
theorem d_P_isBelowRoot_5 : decode cc_P_isBelowRoot 5 = .ok (.invokestatic 16, 3) := by decide +kernel
theorem d_P_isBelowRoot_8 : decode cc_P_isBelowRoot 8 = .ok (.ifCond .eq 7, 3) := by decide +kernel
theorem d_P_isBelowRoot_11 : decode cc_P_isBelowRoot 11 = .ok (.iconst 1, 1) := by decide +kernel
theorem d_P_isBelowRoot_12 : decode cc_P_isBelowRoot 12 = .ok (.goto 4, 3) := by decide +kernel
theorem d_P_lengthOf_0 : decode cc_P_lengthOf 0 = .ok (.iconst 0, 1) := by decide +kernel
theorem d_P_lengthOf_1 : decode cc_P_lengthOf 1 = .ok (.istore_n 1, 1) := by decide +kernel
theorem d_P_lengthOf_2 : decode cc_P_lengthOf 2 = .ok (.iconst 0, 1) := by decide +kernel
theorem d_P_lengthOf_3 : decode cc_P_lengthOf 3 = .ok (.istore_n 2, 1) := by decide +kernel
theorem d_P_lengthOf_4 : decode cc_P_lengthOf 4 = .ok (.iload_n 2, 1) := by decide +kernel
theorem d_P_lengthOf_5 : decode cc_P_lengthOf 5 = .ok (.iconst 4, 1) := by decide +kernel
theorem d_P_lengthOf_6 : decode cc_P_lengthOf 6 = .ok (.if_icmp .ge 20, 3) := by decide +kernel
theorem d_P_lengthOf_26 : decode cc_P_lengthOf 26 = .ok (.iload_n 1, 1) := by decide +kernel
theorem d_P_lengthOf_27 : decode cc_P_lengthOf 27 = .ok (.ireturn, 1) := by decide +kernel
theorem d_P_lengthOf_9 : decode cc_P_lengthOf 9 = .ok (.iload_n 0, 1) := by decide +kernel
theorem d_P_lengthOf_10 : decode cc_P_lengthOf 10 = .ok (.iload_n 2, 1) := by decide +kernel
theorem d_P_lengthOf_11 : decode cc_P_lengthOf 11 = .ok (.invokestatic 20, 3) := by decide +kernel
theorem d_P_lengthOf_14 : decode cc_P_lengthOf 14 = .ok (.ifCond .eq 6, 3) := by decide +kernel
theorem d_P_lengthOf_20 : decode cc_P_lengthOf 20 = .ok (.iinc 2 1, 3) := by decide +kernel
theorem d_P_lengthOf_23 : decode cc_P_lengthOf 23 = .ok (.goto (-19), 3) := by decide +kernel
theorem d_P_lengthOf_17 : decode cc_P_lengthOf 17 = .ok (.iinc 1 1, 3) := by decide +kernel
theorem d_P_startsWith_0 : decode cc_P_startsWith 0 = .ok (.iconst 0, 1) := by decide +kernel
theorem d_P_startsWith_1 : decode cc_P_startsWith 1 = .ok (.istore_n 2, 1) := by decide +kernel
theorem d_P_startsWith_2 : decode cc_P_startsWith 2 = .ok (.iload_n 2, 1) := by decide +kernel
theorem d_P_startsWith_3 : decode cc_P_startsWith 3 = .ok (.iconst 4, 1) := by decide +kernel
theorem d_P_startsWith_4 : decode cc_P_startsWith 4 = .ok (.if_icmp .ge 20, 3) := by decide +kernel
theorem d_P_startsWith_24 : decode cc_P_startsWith 24 = .ok (.iconst 0, 1) := by decide +kernel
theorem d_P_startsWith_25 : decode cc_P_startsWith 25 = .ok (.ireturn, 1) := by decide +kernel
theorem d_P_startsWith_7 : decode cc_P_startsWith 7 = .ok (.iload_n 0, 1) := by decide +kernel
theorem d_P_startsWith_8 : decode cc_P_startsWith 8 = .ok (.iload_n 2, 1) := by decide +kernel
theorem d_P_startsWith_9 : decode cc_P_startsWith 9 = .ok (.invokestatic 20, 3) := by decide +kernel
theorem d_P_startsWith_12 : decode cc_P_startsWith 12 = .ok (.iload_n 1, 1) := by decide +kernel
theorem d_P_startsWith_13 : decode cc_P_startsWith 13 = .ok (.if_icmp .ne 5, 3) := by decide +kernel
theorem d_P_startsWith_18 : decode cc_P_startsWith 18 = .ok (.iinc 2 1, 3) := by decide +kernel
theorem d_P_startsWith_21 : decode cc_P_startsWith 21 = .ok (.goto (-19), 3) := by decide +kernel
theorem d_P_startsWith_16 : decode cc_P_startsWith 16 = .ok (.iconst 1, 1) := by decide +kernel
theorem d_P_startsWith_17 : decode cc_P_startsWith 17 = .ok (.ireturn, 1) := by decide +kernel
theorem d_Fu_letsPass_0 : decode cc_Fu_letsPass 0 = .ok (.aload_n 0, 1) := by decide +kernel
theorem d_Fu_letsPass_1 : decode cc_Fu_letsPass 1 = .ok (.getfield 9, 3) := by decide +kernel
theorem d_Fu_letsPass_4 : decode cc_Fu_letsPass 4 = .ok (.ifCond .ne 5, 3) := by decide +kernel
theorem d_Fu_letsPass_9 : decode cc_Fu_letsPass 9 = .ok (.aload_n 0, 1) := by decide +kernel
theorem d_Fu_letsPass_10 : decode cc_Fu_letsPass 10 = .ok (.getfield 9, 3) := by decide +kernel
theorem d_Fu_letsPass_13 : decode cc_Fu_letsPass 13 = .ok (.ifCond .le 13, 3) := by decide +kernel
theorem d_Fu_letsPass_26 : decode cc_Fu_letsPass 26 = .ok (.iconst 1, 1) := by decide +kernel
theorem d_Fu_letsPass_27 : decode cc_Fu_letsPass 27 = .ok (.ireturn, 1) := by decide +kernel
theorem d_Fu_letsPass_16 : decode cc_Fu_letsPass 16 = .ok (.aload_n 0, 1) := by decide +kernel
theorem d_Fu_letsPass_17 : decode cc_Fu_letsPass 17 = .ok (.dup, 1) := by decide +kernel
theorem d_Fu_letsPass_18 : decode cc_Fu_letsPass 18 = .ok (.getfield 9, 3) := by decide +kernel
theorem d_Fu_letsPass_21 : decode cc_Fu_letsPass 21 = .ok (.iconst 1, 1) := by decide +kernel
theorem d_Fu_letsPass_22 : decode cc_Fu_letsPass 22 = .ok (.isub, 1) := by decide +kernel
theorem d_Fu_letsPass_23 : decode cc_Fu_letsPass 23 = .ok (.putfield 9, 3) := by decide +kernel
theorem d_Fu_letsPass_7 : decode cc_Fu_letsPass 7 = .ok (.iconst 0, 1) := by decide +kernel
theorem d_Fu_letsPass_8 : decode cc_Fu_letsPass 8 = .ok (.ireturn, 1) := by decide +kernel
theorem d_D_get_0 : decode cc_D_get 0 = .ok (.aload_n 0, 1) := by decide +kernel
theorem d_D_get_1 : decode cc_D_get 1 = .ok (.getfield 15, 3) := by decide +kernel
theorem d_D_get_4 : decode cc_D_get 4 = .ok (.iload_n 1, 1) := by decide +kernel
theorem d_D_get_5 : decode cc_D_get 5 = .ok (.bipush 8, 2) := by decide +kernel
theorem d_D_get_7 : decode cc_D_get 7 = .ok (.imul, 1) := by decide +kernel
theorem d_D_get_8 : decode cc_D_get 8 = .ok (.iload_n 2, 1) := by decide +kernel
theorem d_D_get_9 : decode cc_D_get 9 = .ok (.iadd, 1) := by decide +kernel
theorem d_D_get_10 : decode cc_D_get 10 = .ok (.iaload, 1) := by decide +kernel
theorem d_D_get_11 : decode cc_D_get 11 = .ok (.ireturn, 1) := by decide +kernel
theorem d_D_inodeWord_0 : decode cc_D_inodeWord 0 = .ok (.aload_n 0, 1) := by decide +kernel
theorem d_D_inodeWord_1 : decode cc_D_inodeWord 1 = .ok (.getfield 15, 3) := by decide +kernel
theorem d_D_inodeWord_4 : decode cc_D_inodeWord 4 = .ok (.iconst 1, 1) := by decide +kernel
theorem d_D_inodeWord_5 : decode cc_D_inodeWord 5 = .ok (.iload_n 1, 1) := by decide +kernel
theorem d_D_inodeWord_6 : decode cc_D_inodeWord 6 = .ok (.iadd, 1) := by decide +kernel
theorem d_D_inodeWord_7 : decode cc_D_inodeWord 7 = .ok (.bipush 8, 2) := by decide +kernel
theorem d_D_inodeWord_9 : decode cc_D_inodeWord 9 = .ok (.imul, 1) := by decide +kernel
theorem d_D_inodeWord_10 : decode cc_D_inodeWord 10 = .ok (.iload_n 2, 1) := by decide +kernel
theorem d_D_inodeWord_11 : decode cc_D_inodeWord 11 = .ok (.iadd, 1) := by decide +kernel
theorem d_D_inodeWord_12 : decode cc_D_inodeWord 12 = .ok (.iaload, 1) := by decide +kernel
theorem d_D_inodeWord_13 : decode cc_D_inodeWord 13 = .ok (.ireturn, 1) := by decide +kernel
theorem d_D_put_0 : decode cc_D_put 0 = .ok (.aload_n 0, 1) := by decide +kernel
theorem d_D_put_1 : decode cc_D_put 1 = .ok (.getfield 15, 3) := by decide +kernel
theorem d_D_put_4 : decode cc_D_put 4 = .ok (.iload_n 1, 1) := by decide +kernel
theorem d_D_put_5 : decode cc_D_put 5 = .ok (.bipush 8, 2) := by decide +kernel
theorem d_D_put_7 : decode cc_D_put 7 = .ok (.imul, 1) := by decide +kernel
theorem d_D_put_8 : decode cc_D_put 8 = .ok (.iload_n 2, 1) := by decide +kernel
theorem d_D_put_9 : decode cc_D_put 9 = .ok (.iadd, 1) := by decide +kernel
theorem d_D_put_10 : decode cc_D_put 10 = .ok (.iload_n 3, 1) := by decide +kernel
theorem d_D_put_11 : decode cc_D_put 11 = .ok (.iastore, 1) := by decide +kernel
theorem d_D_put_12 : decode cc_D_put 12 = .ok (.return_, 1) := by decide +kernel
theorem d_D_putInodeWord_0 : decode cc_D_putInodeWord 0 = .ok (.aload_n 0, 1) := by decide +kernel
theorem d_D_putInodeWord_1 : decode cc_D_putInodeWord 1 = .ok (.getfield 15, 3) := by decide +kernel
theorem d_D_putInodeWord_4 : decode cc_D_putInodeWord 4 = .ok (.iconst 1, 1) := by decide +kernel
theorem d_D_putInodeWord_5 : decode cc_D_putInodeWord 5 = .ok (.iload_n 1, 1) := by decide +kernel
theorem d_D_putInodeWord_6 : decode cc_D_putInodeWord 6 = .ok (.iadd, 1) := by decide +kernel
theorem d_D_putInodeWord_7 : decode cc_D_putInodeWord 7 = .ok (.bipush 8, 2) := by decide +kernel
theorem d_D_putInodeWord_9 : decode cc_D_putInodeWord 9 = .ok (.imul, 1) := by decide +kernel
theorem d_D_putInodeWord_10 : decode cc_D_putInodeWord 10 = .ok (.iload_n 2, 1) := by decide +kernel
theorem d_D_putInodeWord_11 : decode cc_D_putInodeWord 11 = .ok (.iadd, 1) := by decide +kernel
theorem d_D_putInodeWord_12 : decode cc_D_putInodeWord 12 = .ok (.iload_n 3, 1) := by decide +kernel
theorem d_D_putInodeWord_13 : decode cc_D_putInodeWord 13 = .ok (.iastore, 1) := by decide +kernel
theorem d_D_putInodeWord_14 : decode cc_D_putInodeWord 14 = .ok (.return_, 1) := by decide +kernel
theorem d_D_zeroFrom_0 : decode cc_D_zeroFrom 0 = .ok (.iload_n 2, 1) := by decide +kernel
theorem d_D_zeroFrom_1 : decode cc_D_zeroFrom 1 = .ok (.istore_n 3, 1) := by decide +kernel
theorem d_D_zeroFrom_2 : decode cc_D_zeroFrom 2 = .ok (.iload_n 3, 1) := by decide +kernel
theorem d_D_zeroFrom_3 : decode cc_D_zeroFrom 3 = .ok (.bipush 8, 2) := by decide +kernel
theorem d_D_zeroFrom_5 : decode cc_D_zeroFrom 5 = .ok (.if_icmp .ge 21, 3) := by decide +kernel
theorem d_D_zeroFrom_26 : decode cc_D_zeroFrom 26 = .ok (.return_, 1) := by decide +kernel
theorem d_D_zeroFrom_8 : decode cc_D_zeroFrom 8 = .ok (.aload_n 0, 1) := by decide +kernel
theorem d_D_zeroFrom_9 : decode cc_D_zeroFrom 9 = .ok (.getfield 15, 3) := by decide +kernel
theorem d_D_zeroFrom_12 : decode cc_D_zeroFrom 12 = .ok (.iload_n 1, 1) := by decide +kernel
theorem d_D_zeroFrom_13 : decode cc_D_zeroFrom 13 = .ok (.bipush 8, 2) := by decide +kernel
theorem d_D_zeroFrom_15 : decode cc_D_zeroFrom 15 = .ok (.imul, 1) := by decide +kernel
theorem d_D_zeroFrom_16 : decode cc_D_zeroFrom 16 = .ok (.iload_n 3, 1) := by decide +kernel
theorem d_D_zeroFrom_17 : decode cc_D_zeroFrom 17 = .ok (.iadd, 1) := by decide +kernel
theorem d_D_zeroFrom_18 : decode cc_D_zeroFrom 18 = .ok (.iconst 0, 1) := by decide +kernel
theorem d_D_zeroFrom_19 : decode cc_D_zeroFrom 19 = .ok (.iastore, 1) := by decide +kernel
theorem d_D_zeroFrom_20 : decode cc_D_zeroFrom 20 = .ok (.iinc 3 1, 3) := by decide +kernel
theorem d_D_zeroFrom_23 : decode cc_D_zeroFrom 23 = .ok (.goto (-21), 3) := by decide +kernel
end
section
def f_L_isLabel_0 (y0 : Int32) : Option (Int32) :=
  if y0 < 0 then (some (0 : Int32)) else (if (512 : Int32) ≤ y0 then (some (0 : Int32)) else (some (1 : Int32)))
set_option maxHeartbeats 4000000 in
set_option maxRecDepth 100000 in
theorem b_L_isLabel_0 {l : Launch} {p : Program} {e : Env} {s : State} {m : MethodId} {args : Array Value} {below : List Frame} {meth : Method} {c : Code} (cx : jv_cx p s m args meth c cc_L_isLabel 1 R_Labels (some .boolean) ws_L_isLabel) {r : Int32} {y0 : Int32} {ls : Array Slot} (hl : lv_has ls 1 [(0, .int y0)]) (hf : f_L_isLabel_0 y0 = some r) : W p l e rm_L_isLabel s m args below meth c s.heap [] 0 0 (MQ below (QcRead r) args s 0 0 (fun _ => False)) (F0 m 0 ls []) := by
  unfold f_L_isLabel_0 at hf
  obtain ⟨hx, hb, hml, hown, hts, hr, hlocks⟩ := id cx
  refine lv_iload_n hx hb d_L_isLabel_0 rfl (lv_at hl 0 rfl) ?_
  refine lv_if_lt (tgt := 15) hx hb d_L_isLabel_1 (by decide) (fun hc => ?_) (fun hc => ?_)
  · have hf := jv_it hf hc
    refine lv_iconst (v := (0 : Int32)) hx hb d_L_isLabel_15 (by decide) ?_
    obtain rfl := Option.some.inj hf
    exact W.zret hx hb hr rfl (fun t ht hW => ⟨rfl, ht⟩) (fun q h => by cases h) d_L_isLabel_16
  · have hf := jv_if hf hc
    refine lv_iload_n hx hb d_L_isLabel_4 rfl (lv_at hl 0 rfl) ?_
    refine lv_sipush (v := (512 : Int32)) hx hb d_L_isLabel_5 (by decide) ?_
    refine lv_icmp_ge (tgt := 15) hx hb d_L_isLabel_8 (by decide) (fun hc => ?_) (fun hc => ?_)
    · have hf := jv_it hf hc
      refine lv_iconst (v := (0 : Int32)) hx hb d_L_isLabel_15 (by decide) ?_
      obtain rfl := Option.some.inj hf
      exact W.zret hx hb hr rfl (fun t ht hW => ⟨rfl, ht⟩) (fun q h => by cases h) d_L_isLabel_16
    · have hf := jv_if hf hc
      refine lv_iconst (v := (1 : Int32)) hx hb d_L_isLabel_11 (by decide) ?_
      refine lv_goto (tgt := 16) hx hb d_L_isLabel_12 (by decide) ?_
      obtain rfl := Option.some.inj hf
      exact W.zret hx hb hr rfl (fun t ht hW => ⟨rfl, ht⟩) (fun q h => by cases h) d_L_isLabel_16
def f_L_isLabel (a0 : Int32) : Option (Int32) := f_L_isLabel_0 a0
set_option maxHeartbeats 4000000 in
set_option maxRecDepth 100000 in
theorem c_L_isLabel (l : Launch) (a0 : Int32) (r : Int32) (hf : f_L_isLabel a0 = some r) : Met l y_L_isLabel ws_L_isLabel rm_L_isLabel (jv_P0 [.int a0]) (QcRead r) 0 0 (fun _ => False) := by
  refine Met.ofW (cc := cc_L_isLabel) (maxL := 1) (ret := (some .boolean)) (by decide) rfl ?_
  intro p e s m args below meth c s₁ B hml hv
  obtain ⟨rfl, -⟩ := hv
  have cx : jv_cx p s m _ meth c cc_L_isLabel 1 R_Labels (some .boolean) ws_L_isLabel := ⟨B.exec, B.bytes, hml, findClass_of_methodNamed B.named, atoms_spec (ws := ws_L_isLabel) B.pre, B.returns, B.notSynchronized⟩
  have hl := lv_entry ([.int a0]) (n := 1) (Nat.le_of_ble_eq_true rfl)
  rw [lg_entry_eq]
  generalize (lg_sl ([.int a0]) ++ List.replicate (1 - (lg_sl ([.int a0])).length) Slot.unset).toArray = ls at hl ⊢
  have hl : lv_has ls 1 [(0, .int a0)] := hl
  exact b_L_isLabel_0 (y0 := a0) cx (lv_sub hl [0] rfl) hf
def f_L_isSecrecyWithin_0 (y0 : Int32) (y1 : Int32) : Option (Int32) :=
  if (y1 &&& (3 : Int32)) < (y0 &&& (3 : Int32)) then (some (0 : Int32)) else (if ((y0 &&& (y1 ^^^ (-1 : Int32))) &&& (28 : Int32)) = 0 then (some (1 : Int32)) else (some (0 : Int32)))
set_option maxHeartbeats 4000000 in
set_option maxRecDepth 100000 in
theorem b_L_isSecrecyWithin_0 {l : Launch} {p : Program} {e : Env} {s : State} {m : MethodId} {args : Array Value} {below : List Frame} {meth : Method} {c : Code} (cx : jv_cx p s m args meth c cc_L_isSecrecyWithin 2 R_Labels (some .boolean) ws_L_isSecrecyWithin) {r : Int32} {y0 : Int32} {y1 : Int32} {ls : Array Slot} (hl : lv_has ls 2 [(0, .int y0), (1, .int y1)]) (hf : f_L_isSecrecyWithin_0 y0 y1 = some r) : W p l e rm_L_isSecrecyWithin s m args below meth c s.heap [] 0 0 (MQ below (QcRead r) args s 0 0 (fun _ => False)) (F0 m 0 ls []) := by
  unfold f_L_isSecrecyWithin_0 at hf
  obtain ⟨hx, hb, hml, hown, hts, hr, hlocks⟩ := id cx
  refine lv_iload_n hx hb d_L_isSecrecyWithin_0 rfl (lv_at hl 0 rfl) ?_
  refine lv_iconst (v := (3 : Int32)) hx hb d_L_isSecrecyWithin_1 (by decide) ?_
  refine lv_iand hx hb d_L_isSecrecyWithin_2 ?_
  refine lv_iload_n hx hb d_L_isSecrecyWithin_3 rfl (lv_at hl 1 rfl) ?_
  refine lv_iconst (v := (3 : Int32)) hx hb d_L_isSecrecyWithin_4 (by decide) ?_
  refine lv_iand hx hb d_L_isSecrecyWithin_5 ?_
  refine lv_icmp_gt (tgt := 24) hx hb d_L_isSecrecyWithin_6 (by decide) (fun hc => ?_) (fun hc => ?_)
  · have hf := jv_it hf hc
    refine lv_iconst (v := (0 : Int32)) hx hb d_L_isSecrecyWithin_24 (by decide) ?_
    obtain rfl := Option.some.inj hf
    exact W.zret hx hb hr rfl (fun t ht hW => ⟨rfl, ht⟩) (fun q h => by cases h) d_L_isSecrecyWithin_25
  · have hf := jv_if hf hc
    refine lv_iload_n hx hb d_L_isSecrecyWithin_9 rfl (lv_at hl 0 rfl) ?_
    refine lv_iload_n hx hb d_L_isSecrecyWithin_10 rfl (lv_at hl 1 rfl) ?_
    refine lv_iconst (v := (-1 : Int32)) hx hb d_L_isSecrecyWithin_11 (by decide) ?_
    refine lv_ixor hx hb d_L_isSecrecyWithin_12 ?_
    refine lv_iand hx hb d_L_isSecrecyWithin_13 ?_
    refine lv_bipush (v := (28 : Int32)) hx hb d_L_isSecrecyWithin_14 (by decide) ?_
    refine lv_iand hx hb d_L_isSecrecyWithin_16 ?_
    refine lv_if_ne (tgt := 24) hx hb d_L_isSecrecyWithin_17 (by decide) (fun hc => ?_) (fun hc => ?_)
    · have hf := jv_if hf hc
      refine lv_iconst (v := (0 : Int32)) hx hb d_L_isSecrecyWithin_24 (by decide) ?_
      obtain rfl := Option.some.inj hf
      exact W.zret hx hb hr rfl (fun t ht hW => ⟨rfl, ht⟩) (fun q h => by cases h) d_L_isSecrecyWithin_25
    · have hf := jv_it hf hc
      refine lv_iconst (v := (1 : Int32)) hx hb d_L_isSecrecyWithin_20 (by decide) ?_
      refine lv_goto (tgt := 25) hx hb d_L_isSecrecyWithin_21 (by decide) ?_
      obtain rfl := Option.some.inj hf
      exact W.zret hx hb hr rfl (fun t ht hW => ⟨rfl, ht⟩) (fun q h => by cases h) d_L_isSecrecyWithin_25
def f_L_isSecrecyWithin (a0 : Int32) (a1 : Int32) : Option (Int32) := f_L_isSecrecyWithin_0 a0 a1
set_option maxHeartbeats 4000000 in
set_option maxRecDepth 100000 in
theorem c_L_isSecrecyWithin (l : Launch) (a0 : Int32) (a1 : Int32) (r : Int32) (hf : f_L_isSecrecyWithin a0 a1 = some r) : Met l y_L_isSecrecyWithin ws_L_isSecrecyWithin rm_L_isSecrecyWithin (jv_P0 [.int a0, .int a1]) (QcRead r) 0 0 (fun _ => False) := by
  refine Met.ofW (cc := cc_L_isSecrecyWithin) (maxL := 2) (ret := (some .boolean)) (by decide) rfl ?_
  intro p e s m args below meth c s₁ B hml hv
  obtain ⟨rfl, -⟩ := hv
  have cx : jv_cx p s m _ meth c cc_L_isSecrecyWithin 2 R_Labels (some .boolean) ws_L_isSecrecyWithin := ⟨B.exec, B.bytes, hml, findClass_of_methodNamed B.named, atoms_spec (ws := ws_L_isSecrecyWithin) B.pre, B.returns, B.notSynchronized⟩
  have hl := lv_entry ([.int a0, .int a1]) (n := 2) (Nat.le_of_ble_eq_true rfl)
  rw [lg_entry_eq]
  generalize (lg_sl ([.int a0, .int a1]) ++ List.replicate (2 - (lg_sl ([.int a0, .int a1])).length) Slot.unset).toArray = ls at hl ⊢
  have hl : lv_has ls 2 [(0, .int a0), (1, .int a1)] := hl
  exact b_L_isSecrecyWithin_0 (y0 := a0) (y1 := a1) cx (lv_sub hl [0, 1] rfl) hf
def f_L_isIntegrityWithin_0 (y0 : Int32) (y1 : Int32) : Option (Int32) :=
  if (y1 &&& (96 : Int32)) < (y0 &&& (96 : Int32)) then (some (0 : Int32)) else (if ((y0 &&& (y1 ^^^ (-1 : Int32))) &&& (384 : Int32)) = 0 then (some (1 : Int32)) else (some (0 : Int32)))
set_option maxHeartbeats 4000000 in
set_option maxRecDepth 100000 in
theorem b_L_isIntegrityWithin_0 {l : Launch} {p : Program} {e : Env} {s : State} {m : MethodId} {args : Array Value} {below : List Frame} {meth : Method} {c : Code} (cx : jv_cx p s m args meth c cc_L_isIntegrityWithin 2 R_Labels (some .boolean) ws_L_isIntegrityWithin) {r : Int32} {y0 : Int32} {y1 : Int32} {ls : Array Slot} (hl : lv_has ls 2 [(0, .int y0), (1, .int y1)]) (hf : f_L_isIntegrityWithin_0 y0 y1 = some r) : W p l e rm_L_isIntegrityWithin s m args below meth c s.heap [] 0 0 (MQ below (QcRead r) args s 0 0 (fun _ => False)) (F0 m 0 ls []) := by
  unfold f_L_isIntegrityWithin_0 at hf
  obtain ⟨hx, hb, hml, hown, hts, hr, hlocks⟩ := id cx
  refine lv_iload_n hx hb d_L_isIntegrityWithin_0 rfl (lv_at hl 0 rfl) ?_
  refine lv_bipush (v := (96 : Int32)) hx hb d_L_isIntegrityWithin_1 (by decide) ?_
  refine lv_iand hx hb d_L_isIntegrityWithin_3 ?_
  refine lv_iload_n hx hb d_L_isIntegrityWithin_4 rfl (lv_at hl 1 rfl) ?_
  refine lv_bipush (v := (96 : Int32)) hx hb d_L_isIntegrityWithin_5 (by decide) ?_
  refine lv_iand hx hb d_L_isIntegrityWithin_7 ?_
  refine lv_icmp_gt (tgt := 27) hx hb d_L_isIntegrityWithin_8 (by decide) (fun hc => ?_) (fun hc => ?_)
  · have hf := jv_it hf hc
    refine lv_iconst (v := (0 : Int32)) hx hb d_L_isIntegrityWithin_27 (by decide) ?_
    obtain rfl := Option.some.inj hf
    exact W.zret hx hb hr rfl (fun t ht hW => ⟨rfl, ht⟩) (fun q h => by cases h) d_L_isIntegrityWithin_28
  · have hf := jv_if hf hc
    refine lv_iload_n hx hb d_L_isIntegrityWithin_11 rfl (lv_at hl 0 rfl) ?_
    refine lv_iload_n hx hb d_L_isIntegrityWithin_12 rfl (lv_at hl 1 rfl) ?_
    refine lv_iconst (v := (-1 : Int32)) hx hb d_L_isIntegrityWithin_13 (by decide) ?_
    refine lv_ixor hx hb d_L_isIntegrityWithin_14 ?_
    refine lv_iand hx hb d_L_isIntegrityWithin_15 ?_
    refine lv_sipush (v := (384 : Int32)) hx hb d_L_isIntegrityWithin_16 (by decide) ?_
    refine lv_iand hx hb d_L_isIntegrityWithin_19 ?_
    refine lv_if_ne (tgt := 27) hx hb d_L_isIntegrityWithin_20 (by decide) (fun hc => ?_) (fun hc => ?_)
    · have hf := jv_if hf hc
      refine lv_iconst (v := (0 : Int32)) hx hb d_L_isIntegrityWithin_27 (by decide) ?_
      obtain rfl := Option.some.inj hf
      exact W.zret hx hb hr rfl (fun t ht hW => ⟨rfl, ht⟩) (fun q h => by cases h) d_L_isIntegrityWithin_28
    · have hf := jv_it hf hc
      refine lv_iconst (v := (1 : Int32)) hx hb d_L_isIntegrityWithin_23 (by decide) ?_
      refine lv_goto (tgt := 28) hx hb d_L_isIntegrityWithin_24 (by decide) ?_
      obtain rfl := Option.some.inj hf
      exact W.zret hx hb hr rfl (fun t ht hW => ⟨rfl, ht⟩) (fun q h => by cases h) d_L_isIntegrityWithin_28
def f_L_isIntegrityWithin (a0 : Int32) (a1 : Int32) : Option (Int32) := f_L_isIntegrityWithin_0 a0 a1
set_option maxHeartbeats 4000000 in
set_option maxRecDepth 100000 in
theorem c_L_isIntegrityWithin (l : Launch) (a0 : Int32) (a1 : Int32) (r : Int32) (hf : f_L_isIntegrityWithin a0 a1 = some r) : Met l y_L_isIntegrityWithin ws_L_isIntegrityWithin rm_L_isIntegrityWithin (jv_P0 [.int a0, .int a1]) (QcRead r) 0 0 (fun _ => False) := by
  refine Met.ofW (cc := cc_L_isIntegrityWithin) (maxL := 2) (ret := (some .boolean)) (by decide) rfl ?_
  intro p e s m args below meth c s₁ B hml hv
  obtain ⟨rfl, -⟩ := hv
  have cx : jv_cx p s m _ meth c cc_L_isIntegrityWithin 2 R_Labels (some .boolean) ws_L_isIntegrityWithin := ⟨B.exec, B.bytes, hml, findClass_of_methodNamed B.named, atoms_spec (ws := ws_L_isIntegrityWithin) B.pre, B.returns, B.notSynchronized⟩
  have hl := lv_entry ([.int a0, .int a1]) (n := 2) (Nat.le_of_ble_eq_true rfl)
  rw [lg_entry_eq]
  generalize (lg_sl ([.int a0, .int a1]) ++ List.replicate (2 - (lg_sl ([.int a0, .int a1])).length) Slot.unset).toArray = ls at hl ⊢
  have hl : lv_has ls 2 [(0, .int a0), (1, .int a1)] := hl
  exact b_L_isIntegrityWithin_0 (y0 := a0) (y1 := a1) cx (lv_sub hl [0, 1] rfl) hf
def f_L_mayFlow_0 (y0 : Int32) (y1 : Int32) : Option (Int32) :=
  (f_L_isSecrecyWithin y0 y1).bind fun x1 => if x1 = 0 then (some (0 : Int32)) else ((f_L_isIntegrityWithin y1 y0).bind fun x3 => if x3 = 0 then (some (0 : Int32)) else (some (1 : Int32)))
set_option maxHeartbeats 4000000 in
set_option maxRecDepth 100000 in
theorem b_L_mayFlow_0 {l : Launch} {p : Program} {e : Env} {s : State} {m : MethodId} {args : Array Value} {below : List Frame} {meth : Method} {c : Code} (cx : jv_cx p s m args meth c cc_L_mayFlow 2 R_Labels (some .boolean) ws_L_mayFlow) {r : Int32} {y0 : Int32} {y1 : Int32} {ls : Array Slot} (hl : lv_has ls 2 [(0, .int y0), (1, .int y1)]) (hf : f_L_mayFlow_0 y0 y1 = some r) : W p l e rm_L_mayFlow s m args below meth c s.heap [] 0 0 (MQ below (QcRead r) args s 0 0 (fun _ => False)) (F0 m 0 ls []) := by
  unfold f_L_mayFlow_0 at hf
  obtain ⟨hx, hb, hml, hown, hts, hr, hlocks⟩ := id cx
  refine lv_iload_n hx hb d_L_mayFlow_0 rfl (lv_at hl 0 rfl) ?_
  refine lv_iload_n hx hb d_L_mayFlow_1 rfl (lv_at hl 1 rfl) ?_
  obtain ⟨x1, g2, hf⟩ := jv_ob hf
  refine jv_cs (W.runS (As := [.int y0, .int y1]) (rest := []) ⟨hx, hb, hml, hown, hts⟩ (c_L_isSecrecyWithin l y0 y1 x1 g2) (jv_cwS hts wa_0 wa_1 wa_2 wa_3 rfl rfl yd_L_isSecrecyWithin ⟨Nat.le_of_ble_eq_true rfl, Nat.le_of_ble_eq_true rfl⟩) jv_pre0 rfl rfl hl.1 rfl (lv_room (Nat.le_of_ble_eq_true rfl)) d_L_mayFlow_2 ⟨Nat.zero_le _, Nat.zero_le _⟩) ?_
  refine lv_if_eq (tgt := 20) hx hb d_L_mayFlow_5 (by decide) (fun hc => ?_) (fun hc => ?_)
  · have hf := jv_it hf hc
    refine lv_iconst (v := (0 : Int32)) hx hb d_L_mayFlow_20 (by decide) ?_
    obtain rfl := Option.some.inj hf
    exact W.zret hx hb hr rfl (fun t ht hW => ⟨rfl, ht⟩) (fun q h => by cases h) d_L_mayFlow_21
  · have hf := jv_if hf hc
    refine lv_iload_n hx hb d_L_mayFlow_8 rfl (lv_at hl 1 rfl) ?_
    refine lv_iload_n hx hb d_L_mayFlow_9 rfl (lv_at hl 0 rfl) ?_
    obtain ⟨x3, g4, hf⟩ := jv_ob hf
    refine jv_cs (W.runS (As := [.int y1, .int y0]) (rest := []) ⟨hx, hb, hml, hown, hts⟩ (c_L_isIntegrityWithin l y1 y0 x3 g4) (jv_cwS hts wa_4 wa_1 wa_5 wa_6 rfl rfl yd_L_isIntegrityWithin ⟨Nat.le_of_ble_eq_true rfl, Nat.le_of_ble_eq_true rfl⟩) jv_pre0 rfl rfl hl.1 rfl (lv_room (Nat.le_of_ble_eq_true rfl)) d_L_mayFlow_10 ⟨Nat.zero_le _, Nat.zero_le _⟩) ?_
    refine lv_if_eq (tgt := 20) hx hb d_L_mayFlow_13 (by decide) (fun hc => ?_) (fun hc => ?_)
    · have hf := jv_it hf hc
      refine lv_iconst (v := (0 : Int32)) hx hb d_L_mayFlow_20 (by decide) ?_
      obtain rfl := Option.some.inj hf
      exact W.zret hx hb hr rfl (fun t ht hW => ⟨rfl, ht⟩) (fun q h => by cases h) d_L_mayFlow_21
    · have hf := jv_if hf hc
      refine lv_iconst (v := (1 : Int32)) hx hb d_L_mayFlow_16 (by decide) ?_
      refine lv_goto (tgt := 21) hx hb d_L_mayFlow_17 (by decide) ?_
      obtain rfl := Option.some.inj hf
      exact W.zret hx hb hr rfl (fun t ht hW => ⟨rfl, ht⟩) (fun q h => by cases h) d_L_mayFlow_21
def f_L_mayFlow (a0 : Int32) (a1 : Int32) : Option (Int32) := f_L_mayFlow_0 a0 a1
set_option maxHeartbeats 4000000 in
set_option maxRecDepth 100000 in
theorem c_L_mayFlow (l : Launch) (a0 : Int32) (a1 : Int32) (r : Int32) (hf : f_L_mayFlow a0 a1 = some r) : Met l y_L_mayFlow ws_L_mayFlow rm_L_mayFlow (jv_P0 [.int a0, .int a1]) (QcRead r) 0 0 (fun _ => False) := by
  refine Met.ofW (cc := cc_L_mayFlow) (maxL := 2) (ret := (some .boolean)) (by decide) rfl ?_
  intro p e s m args below meth c s₁ B hml hv
  obtain ⟨rfl, -⟩ := hv
  have cx : jv_cx p s m _ meth c cc_L_mayFlow 2 R_Labels (some .boolean) ws_L_mayFlow := ⟨B.exec, B.bytes, hml, findClass_of_methodNamed B.named, atoms_spec (ws := ws_L_mayFlow) B.pre, B.returns, B.notSynchronized⟩
  have hl := lv_entry ([.int a0, .int a1]) (n := 2) (Nat.le_of_ble_eq_true rfl)
  rw [lg_entry_eq]
  generalize (lg_sl ([.int a0, .int a1]) ++ List.replicate (2 - (lg_sl ([.int a0, .int a1])).length) Slot.unset).toArray = ls at hl ⊢
  have hl : lv_has ls 2 [(0, .int a0), (1, .int a1)] := hl
  exact b_L_mayFlow_0 (y0 := a0) (y1 := a1) cx (lv_sub hl [0, 1] rfl) hf
def f_L_isWithin_0 (y0 : Int32) (y1 : Int32) : Option (Int32) :=
  (f_L_isSecrecyWithin y0 y1).bind fun x1 => if x1 = 0 then (some (0 : Int32)) else ((f_L_isIntegrityWithin y0 y1).bind fun x3 => if x3 = 0 then (some (0 : Int32)) else (some (1 : Int32)))
set_option maxHeartbeats 4000000 in
set_option maxRecDepth 100000 in
theorem b_L_isWithin_0 {l : Launch} {p : Program} {e : Env} {s : State} {m : MethodId} {args : Array Value} {below : List Frame} {meth : Method} {c : Code} (cx : jv_cx p s m args meth c cc_L_isWithin 2 R_Labels (some .boolean) ws_L_isWithin) {r : Int32} {y0 : Int32} {y1 : Int32} {ls : Array Slot} (hl : lv_has ls 2 [(0, .int y0), (1, .int y1)]) (hf : f_L_isWithin_0 y0 y1 = some r) : W p l e rm_L_isWithin s m args below meth c s.heap [] 0 0 (MQ below (QcRead r) args s 0 0 (fun _ => False)) (F0 m 0 ls []) := by
  unfold f_L_isWithin_0 at hf
  obtain ⟨hx, hb, hml, hown, hts, hr, hlocks⟩ := id cx
  refine lv_iload_n hx hb d_L_isWithin_0 rfl (lv_at hl 0 rfl) ?_
  refine lv_iload_n hx hb d_L_isWithin_1 rfl (lv_at hl 1 rfl) ?_
  obtain ⟨x1, g2, hf⟩ := jv_ob hf
  refine jv_cs (W.runS (As := [.int y0, .int y1]) (rest := []) ⟨hx, hb, hml, hown, hts⟩ (c_L_isSecrecyWithin l y0 y1 x1 g2) (jv_cwS hts wa_0 wa_1 wa_2 wa_3 rfl rfl yd_L_isSecrecyWithin ⟨Nat.le_of_ble_eq_true rfl, Nat.le_of_ble_eq_true rfl⟩) jv_pre0 rfl rfl hl.1 rfl (lv_room (Nat.le_of_ble_eq_true rfl)) d_L_isWithin_2 ⟨Nat.zero_le _, Nat.zero_le _⟩) ?_
  refine lv_if_eq (tgt := 20) hx hb d_L_isWithin_5 (by decide) (fun hc => ?_) (fun hc => ?_)
  · have hf := jv_it hf hc
    refine lv_iconst (v := (0 : Int32)) hx hb d_L_isWithin_20 (by decide) ?_
    obtain rfl := Option.some.inj hf
    exact W.zret hx hb hr rfl (fun t ht hW => ⟨rfl, ht⟩) (fun q h => by cases h) d_L_isWithin_21
  · have hf := jv_if hf hc
    refine lv_iload_n hx hb d_L_isWithin_8 rfl (lv_at hl 0 rfl) ?_
    refine lv_iload_n hx hb d_L_isWithin_9 rfl (lv_at hl 1 rfl) ?_
    obtain ⟨x3, g4, hf⟩ := jv_ob hf
    refine jv_cs (W.runS (As := [.int y0, .int y1]) (rest := []) ⟨hx, hb, hml, hown, hts⟩ (c_L_isIntegrityWithin l y0 y1 x3 g4) (jv_cwS hts wa_4 wa_1 wa_5 wa_6 rfl rfl yd_L_isIntegrityWithin ⟨Nat.le_of_ble_eq_true rfl, Nat.le_of_ble_eq_true rfl⟩) jv_pre0 rfl rfl hl.1 rfl (lv_room (Nat.le_of_ble_eq_true rfl)) d_L_isWithin_10 ⟨Nat.zero_le _, Nat.zero_le _⟩) ?_
    refine lv_if_eq (tgt := 20) hx hb d_L_isWithin_13 (by decide) (fun hc => ?_) (fun hc => ?_)
    · have hf := jv_it hf hc
      refine lv_iconst (v := (0 : Int32)) hx hb d_L_isWithin_20 (by decide) ?_
      obtain rfl := Option.some.inj hf
      exact W.zret hx hb hr rfl (fun t ht hW => ⟨rfl, ht⟩) (fun q h => by cases h) d_L_isWithin_21
    · have hf := jv_if hf hc
      refine lv_iconst (v := (1 : Int32)) hx hb d_L_isWithin_16 (by decide) ?_
      refine lv_goto (tgt := 21) hx hb d_L_isWithin_17 (by decide) ?_
      obtain rfl := Option.some.inj hf
      exact W.zret hx hb hr rfl (fun t ht hW => ⟨rfl, ht⟩) (fun q h => by cases h) d_L_isWithin_21
def f_L_isWithin (a0 : Int32) (a1 : Int32) : Option (Int32) := f_L_isWithin_0 a0 a1
set_option maxHeartbeats 4000000 in
set_option maxRecDepth 100000 in
theorem c_L_isWithin (l : Launch) (a0 : Int32) (a1 : Int32) (r : Int32) (hf : f_L_isWithin a0 a1 = some r) : Met l y_L_isWithin ws_L_isWithin rm_L_isWithin (jv_P0 [.int a0, .int a1]) (QcRead r) 0 0 (fun _ => False) := by
  refine Met.ofW (cc := cc_L_isWithin) (maxL := 2) (ret := (some .boolean)) (by decide) rfl ?_
  intro p e s m args below meth c s₁ B hml hv
  obtain ⟨rfl, -⟩ := hv
  have cx : jv_cx p s m _ meth c cc_L_isWithin 2 R_Labels (some .boolean) ws_L_isWithin := ⟨B.exec, B.bytes, hml, findClass_of_methodNamed B.named, atoms_spec (ws := ws_L_isWithin) B.pre, B.returns, B.notSynchronized⟩
  have hl := lv_entry ([.int a0, .int a1]) (n := 2) (Nat.le_of_ble_eq_true rfl)
  rw [lg_entry_eq]
  generalize (lg_sl ([.int a0, .int a1]) ++ List.replicate (2 - (lg_sl ([.int a0, .int a1])).length) Slot.unset).toArray = ls at hl ⊢
  have hl : lv_has ls 2 [(0, .int a0), (1, .int a1)] := hl
  exact b_L_isWithin_0 (y0 := a0) (y1 := a1) cx (lv_sub hl [0, 1] rfl) hf
def f_P_lastName_0 (y0 : Int32) : Option (Int32) :=
  some (y0 &&& (31 : Int32))
set_option maxHeartbeats 4000000 in
set_option maxRecDepth 100000 in
theorem b_P_lastName_0 {l : Launch} {p : Program} {e : Env} {s : State} {m : MethodId} {args : Array Value} {below : List Frame} {meth : Method} {c : Code} (cx : jv_cx p s m args meth c cc_P_lastName 1 R_Paths (some .int) ws_P_lastName) {r : Int32} {y0 : Int32} {ls : Array Slot} (hl : lv_has ls 1 [(0, .int y0)]) (hf : f_P_lastName_0 y0 = some r) : W p l e rm_P_lastName s m args below meth c s.heap [] 0 0 (MQ below (QcRead r) args s 0 0 (fun _ => False)) (F0 m 0 ls []) := by
  unfold f_P_lastName_0 at hf
  obtain ⟨hx, hb, hml, hown, hts, hr, hlocks⟩ := id cx
  refine lv_iload_n hx hb d_P_lastName_0 rfl (lv_at hl 0 rfl) ?_
  refine lv_bipush (v := (31 : Int32)) hx hb d_P_lastName_1 (by decide) ?_
  refine lv_iand hx hb d_P_lastName_3 ?_
  obtain rfl := Option.some.inj hf
  exact W.iret hx hb hr (fun t ht hW => ⟨rfl, ht⟩) (fun q h => by cases h) d_P_lastName_4
def f_P_lastName (a0 : Int32) : Option (Int32) := f_P_lastName_0 a0
set_option maxHeartbeats 4000000 in
set_option maxRecDepth 100000 in
theorem c_P_lastName (l : Launch) (a0 : Int32) (r : Int32) (hf : f_P_lastName a0 = some r) : Met l y_P_lastName ws_P_lastName rm_P_lastName (jv_P0 [.int a0]) (QcRead r) 0 0 (fun _ => False) := by
  refine Met.ofW (cc := cc_P_lastName) (maxL := 1) (ret := (some .int)) (by decide) rfl ?_
  intro p e s m args below meth c s₁ B hml hv
  obtain ⟨rfl, -⟩ := hv
  have cx : jv_cx p s m _ meth c cc_P_lastName 1 R_Paths (some .int) ws_P_lastName := ⟨B.exec, B.bytes, hml, findClass_of_methodNamed B.named, atoms_spec (ws := ws_P_lastName) B.pre, B.returns, B.notSynchronized⟩
  have hl := lv_entry ([.int a0]) (n := 1) (Nat.le_of_ble_eq_true rfl)
  rw [lg_entry_eq]
  generalize (lg_sl ([.int a0]) ++ List.replicate (1 - (lg_sl ([.int a0])).length) Slot.unset).toArray = ls at hl ⊢
  have hl : lv_has ls 1 [(0, .int a0)] := hl
  exact b_P_lastName_0 (y0 := a0) cx (lv_sub hl [0] rfl) hf
def f_P_parentOf_0 (y0 : Int32) : Option (Int32) :=
  some (y0 >>> ((5 : Int32) &&& 31))
set_option maxHeartbeats 4000000 in
set_option maxRecDepth 100000 in
theorem b_P_parentOf_0 {l : Launch} {p : Program} {e : Env} {s : State} {m : MethodId} {args : Array Value} {below : List Frame} {meth : Method} {c : Code} (cx : jv_cx p s m args meth c cc_P_parentOf 1 R_Paths (some .int) ws_P_parentOf) {r : Int32} {y0 : Int32} {ls : Array Slot} (hl : lv_has ls 1 [(0, .int y0)]) (hf : f_P_parentOf_0 y0 = some r) : W p l e rm_P_parentOf s m args below meth c s.heap [] 0 0 (MQ below (QcRead r) args s 0 0 (fun _ => False)) (F0 m 0 ls []) := by
  unfold f_P_parentOf_0 at hf
  obtain ⟨hx, hb, hml, hown, hts, hr, hlocks⟩ := id cx
  refine lv_iload_n hx hb d_P_parentOf_0 rfl (lv_at hl 0 rfl) ?_
  refine lv_iconst (v := (5 : Int32)) hx hb d_P_parentOf_1 (by decide) ?_
  refine lv_ishr hx hb d_P_parentOf_2 ?_
  obtain rfl := Option.some.inj hf
  exact W.iret hx hb hr (fun t ht hW => ⟨rfl, ht⟩) (fun q h => by cases h) d_P_parentOf_3
def f_P_parentOf (a0 : Int32) : Option (Int32) := f_P_parentOf_0 a0
set_option maxHeartbeats 4000000 in
set_option maxRecDepth 100000 in
theorem c_P_parentOf (l : Launch) (a0 : Int32) (r : Int32) (hf : f_P_parentOf a0 = some r) : Met l y_P_parentOf ws_P_parentOf rm_P_parentOf (jv_P0 [.int a0]) (QcRead r) 0 0 (fun _ => False) := by
  refine Met.ofW (cc := cc_P_parentOf) (maxL := 1) (ret := (some .int)) (by decide) rfl ?_
  intro p e s m args below meth c s₁ B hml hv
  obtain ⟨rfl, -⟩ := hv
  have cx : jv_cx p s m _ meth c cc_P_parentOf 1 R_Paths (some .int) ws_P_parentOf := ⟨B.exec, B.bytes, hml, findClass_of_methodNamed B.named, atoms_spec (ws := ws_P_parentOf) B.pre, B.returns, B.notSynchronized⟩
  have hl := lv_entry ([.int a0]) (n := 1) (Nat.le_of_ble_eq_true rfl)
  rw [lg_entry_eq]
  generalize (lg_sl ([.int a0]) ++ List.replicate (1 - (lg_sl ([.int a0])).length) Slot.unset).toArray = ls at hl ⊢
  have hl : lv_has ls 1 [(0, .int a0)] := hl
  exact b_P_parentOf_0 (y0 := a0) cx (lv_sub hl [0] rfl) hf
def f_P_without_0 (y0 : Int32) (y1 : Int32) : Option (Int32) :=
  some (y0 >>> ((y1 * (5 : Int32)) &&& 31))
set_option maxHeartbeats 4000000 in
set_option maxRecDepth 100000 in
theorem b_P_without_0 {l : Launch} {p : Program} {e : Env} {s : State} {m : MethodId} {args : Array Value} {below : List Frame} {meth : Method} {c : Code} (cx : jv_cx p s m args meth c cc_P_without 2 R_Paths (some .int) ws_P_without) {r : Int32} {y0 : Int32} {y1 : Int32} {ls : Array Slot} (hl : lv_has ls 2 [(0, .int y0), (1, .int y1)]) (hf : f_P_without_0 y0 y1 = some r) : W p l e rm_P_without s m args below meth c s.heap [] 0 0 (MQ below (QcRead r) args s 0 0 (fun _ => False)) (F0 m 0 ls []) := by
  unfold f_P_without_0 at hf
  obtain ⟨hx, hb, hml, hown, hts, hr, hlocks⟩ := id cx
  refine lv_iload_n hx hb d_P_without_0 rfl (lv_at hl 0 rfl) ?_
  refine lv_iload_n hx hb d_P_without_1 rfl (lv_at hl 1 rfl) ?_
  refine lv_iconst (v := (5 : Int32)) hx hb d_P_without_2 (by decide) ?_
  refine lv_imul hx hb d_P_without_3 ?_
  refine lv_ishr hx hb d_P_without_4 ?_
  obtain rfl := Option.some.inj hf
  exact W.iret hx hb hr (fun t ht hW => ⟨rfl, ht⟩) (fun q h => by cases h) d_P_without_5
def f_P_without (a0 : Int32) (a1 : Int32) : Option (Int32) := f_P_without_0 a0 a1
set_option maxHeartbeats 4000000 in
set_option maxRecDepth 100000 in
theorem c_P_without (l : Launch) (a0 : Int32) (a1 : Int32) (r : Int32) (hf : f_P_without a0 a1 = some r) : Met l y_P_without ws_P_without rm_P_without (jv_P0 [.int a0, .int a1]) (QcRead r) 0 0 (fun _ => False) := by
  refine Met.ofW (cc := cc_P_without) (maxL := 2) (ret := (some .int)) (by decide) rfl ?_
  intro p e s m args below meth c s₁ B hml hv
  obtain ⟨rfl, -⟩ := hv
  have cx : jv_cx p s m _ meth c cc_P_without 2 R_Paths (some .int) ws_P_without := ⟨B.exec, B.bytes, hml, findClass_of_methodNamed B.named, atoms_spec (ws := ws_P_without) B.pre, B.returns, B.notSynchronized⟩
  have hl := lv_entry ([.int a0, .int a1]) (n := 2) (Nat.le_of_ble_eq_true rfl)
  rw [lg_entry_eq]
  generalize (lg_sl ([.int a0, .int a1]) ++ List.replicate (2 - (lg_sl ([.int a0, .int a1])).length) Slot.unset).toArray = ls at hl ⊢
  have hl : lv_has ls 2 [(0, .int a0), (1, .int a1)] := hl
  exact b_P_without_0 (y0 := a0) (y1 := a1) cx (lv_sub hl [0, 1] rfl) hf
def f_P_isPath_4 (k4 : (Int32 × Int32) → Option (Int32)) (a : Int32 × Int32) : Option (Int32) :=
  if (4 : Int32) ≤ a.2 then (if a.1 = 0 then (some (1 : Int32)) else (some (0 : Int32))) else (if a.1 = 0 then (if a.1 = 0 then (some (1 : Int32)) else (some (0 : Int32))) else ((f_P_lastName a.1).bind fun x1 => if x1 = 0 then (some (0 : Int32)) else (if x1 ≤ (26 : Int32) then ((f_P_parentOf a.1).bind fun x3 => k4 (x3, a.2 + (1 : Int32))) else (some (0 : Int32)))))
set_option maxHeartbeats 4000000 in
set_option maxRecDepth 100000 in
theorem b_P_isPath_4 {l : Launch} {p : Program} {e : Env} {s : State} {m : MethodId} {args : Array Value} {below : List Frame} {meth : Method} {c : Code} (cx : jv_cx p s m args meth c cc_P_isPath 4 R_Paths (some .boolean) ws_P_isPath) {r : Int32} {k4 : (Int32 × Int32) → Option (Int32)} (hk4 : ∀ (a : Int32 × Int32) (ls : Array Slot), lv_has ls 4 [(1, .int a.1), (2, .int a.2)] → k4 a = some r → W p l e rm_P_isPath s m args below meth c s.heap [] 0 0 (MQ below (QcRead r) args s 0 0 (fun _ => False)) (F0 m 4 ls [])) {a : Int32 × Int32} {ls : Array Slot} (hl : lv_has ls 4 [(1, .int a.1), (2, .int a.2)]) (hf : f_P_isPath_4 k4 a = some r) : W p l e rm_P_isPath s m args below meth c s.heap [] 0 0 (MQ below (QcRead r) args s 0 0 (fun _ => False)) (F0 m 4 ls []) := by
  unfold f_P_isPath_4 at hf
  obtain ⟨hx, hb, hml, hown, hts, hr, hlocks⟩ := id cx
  refine lv_iload_n hx hb d_P_isPath_4 rfl (lv_at hl 1 rfl) ?_
  refine lv_iconst (v := (4 : Int32)) hx hb d_P_isPath_5 (by decide) ?_
  refine lv_icmp_ge (tgt := 41) hx hb d_P_isPath_6 (by decide) (fun hc => ?_) (fun hc => ?_)
  · have hf := jv_it hf hc
    refine lv_iload_n hx hb d_P_isPath_41 rfl (lv_at hl 0 rfl) ?_
    refine lv_if_ne (tgt := 49) hx hb d_P_isPath_42 (by decide) (fun hc => ?_) (fun hc => ?_)
    · have hf := jv_if hf hc
      refine lv_iconst (v := (0 : Int32)) hx hb d_P_isPath_49 (by decide) ?_
      obtain rfl := Option.some.inj hf
      exact W.zret hx hb hr rfl (fun t ht hW => ⟨rfl, ht⟩) (fun q h => by cases h) d_P_isPath_50
    · have hf := jv_it hf hc
      refine lv_iconst (v := (1 : Int32)) hx hb d_P_isPath_45 (by decide) ?_
      refine lv_goto (tgt := 50) hx hb d_P_isPath_46 (by decide) ?_
      obtain rfl := Option.some.inj hf
      exact W.zret hx hb hr rfl (fun t ht hW => ⟨rfl, ht⟩) (fun q h => by cases h) d_P_isPath_50
  · have hf := jv_if hf hc
    refine lv_iload_n hx hb d_P_isPath_9 rfl (lv_at hl 0 rfl) ?_
    refine lv_if_eq (tgt := 41) hx hb d_P_isPath_10 (by decide) (fun hc => ?_) (fun hc => ?_)
    · have hf := jv_it hf hc
      refine lv_iload_n hx hb d_P_isPath_41 rfl (lv_at hl 0 rfl) ?_
      refine lv_if_ne (tgt := 49) hx hb d_P_isPath_42 (by decide) (fun hc => ?_) (fun hc => ?_)
      · have hf := jv_if hf hc
        refine lv_iconst (v := (0 : Int32)) hx hb d_P_isPath_49 (by decide) ?_
        obtain rfl := Option.some.inj hf
        exact W.zret hx hb hr rfl (fun t ht hW => ⟨rfl, ht⟩) (fun q h => by cases h) d_P_isPath_50
      · have hf := jv_it hf hc
        refine lv_iconst (v := (1 : Int32)) hx hb d_P_isPath_45 (by decide) ?_
        refine lv_goto (tgt := 50) hx hb d_P_isPath_46 (by decide) ?_
        obtain rfl := Option.some.inj hf
        exact W.zret hx hb hr rfl (fun t ht hW => ⟨rfl, ht⟩) (fun q h => by cases h) d_P_isPath_50
    · have hf := jv_if hf hc
      refine lv_iload_n hx hb d_P_isPath_13 rfl (lv_at hl 0 rfl) ?_
      obtain ⟨x1, g2, hf⟩ := jv_ob hf
      refine jv_cs (W.runS (As := [.int a.1]) (rest := []) ⟨hx, hb, hml, hown, hts⟩ (c_P_lastName l a.1 x1 g2) (jv_cwS hts wa_7 wa_8 wa_9 wa_10 rfl rfl yd_P_lastName ⟨Nat.le_of_ble_eq_true rfl, Nat.le_of_ble_eq_true rfl⟩) jv_pre0 rfl rfl hl.1 rfl (lv_room (Nat.le_of_ble_eq_true rfl)) d_P_isPath_14 ⟨Nat.zero_le _, Nat.zero_le _⟩) ?_
      refine lv_istore_n (lv' := [(3, .int x1), (1, .int a.1), (2, .int a.2)]) hx hb d_P_isPath_17 rfl hl (by decide) rfl (fun ls hl => ?_)
      refine lv_iload_n hx hb d_P_isPath_18 rfl (lv_at hl 0 rfl) ?_
      refine lv_if_eq (tgt := 28) hx hb d_P_isPath_19 (by decide) (fun hc => ?_) (fun hc => ?_)
      · have hf := jv_it hf hc
        refine lv_iconst (v := (0 : Int32)) hx hb d_P_isPath_28 (by decide) ?_
        obtain rfl := Option.some.inj hf
        exact W.zret hx hb hr rfl (fun t ht hW => ⟨rfl, ht⟩) (fun q h => by cases h) d_P_isPath_29
      · have hf := jv_if hf hc
        refine lv_iload_n hx hb d_P_isPath_22 rfl (lv_at hl 0 rfl) ?_
        refine lv_bipush (v := (26 : Int32)) hx hb d_P_isPath_23 (by decide) ?_
        refine lv_icmp_le (tgt := 30) hx hb d_P_isPath_25 (by decide) (fun hc => ?_) (fun hc => ?_)
        · have hf := jv_it hf hc
          refine lv_iload_n hx hb d_P_isPath_30 rfl (lv_at hl 1 rfl) ?_
          obtain ⟨x3, g4, hf⟩ := jv_ob hf
          refine jv_cs (W.runS (As := [.int a.1]) (rest := []) ⟨hx, hb, hml, hown, hts⟩ (c_P_parentOf l a.1 x3 g4) (jv_cwS hts wa_11 wa_8 wa_12 wa_13 rfl rfl yd_P_parentOf ⟨Nat.le_of_ble_eq_true rfl, Nat.le_of_ble_eq_true rfl⟩) jv_pre0 rfl rfl hl.1 rfl (lv_room (Nat.le_of_ble_eq_true rfl)) d_P_isPath_31 ⟨Nat.zero_le _, Nat.zero_le _⟩) ?_
          refine lv_istore_n (lv' := [(1, .int x3), (3, .int x1), (2, .int a.2)]) hx hb d_P_isPath_34 rfl hl (by decide) rfl (fun ls hl => ?_)
          refine lv_iinc (k := 2) (v := a.2 + (1 : Int32)) (lv' := [(2, .int (a.2 + (1 : Int32))), (1, .int x3), (3, .int x1)]) hx hb d_P_isPath_35 hl rfl rfl (by decide) rfl (fun ls hl => ?_)
          refine lv_goto (tgt := 4) hx hb d_P_isPath_38 (by decide) ?_
          exact hk4 (x3, a.2 + (1 : Int32)) _ (lv_sub hl [1, 0] rfl) hf
        · have hf := jv_if hf hc
          refine lv_iconst (v := (0 : Int32)) hx hb d_P_isPath_28 (by decide) ?_
          obtain rfl := Option.some.inj hf
          exact W.zret hx hb hr rfl (fun t ht hW => ⟨rfl, ht⟩) (fun q h => by cases h) d_P_isPath_29
set_option maxHeartbeats 4000000 in
set_option maxRecDepth 100000 in
theorem l_P_isPath_4 {l : Launch} {p : Program} {e : Env} {s : State} {m : MethodId} {args : Array Value} {below : List Frame} {meth : Method} {c : Code} (cx : jv_cx p s m args meth c cc_P_isPath 4 R_Paths (some .boolean) ws_P_isPath) {r : Int32} : ∀ n : Nat, ∀ (a : Int32 × Int32) (ls : Array Slot), lv_has ls 4 [(1, .int a.1), (2, .int a.2)] → jv_fx (f_P_isPath_4) n a = some r → W p l e rm_P_isPath s m args below meth c s.heap [] 0 0 (MQ below (QcRead r) args s 0 0 (fun _ => False)) (F0 m 4 ls []) := by
  intro n
  induction n with
  | zero => intro a ls hl hf; exact jv_no hf
  | succ n ih => intro a ls hl hf; exact b_P_isPath_4 cx ih hl hf
def f_P_isPath_0 (y0 : Int32) : Option (Int32) :=
  jv_fx (f_P_isPath_4) 300 (y0, (0 : Int32))
set_option maxHeartbeats 4000000 in
set_option maxRecDepth 100000 in
theorem b_P_isPath_0 {l : Launch} {p : Program} {e : Env} {s : State} {m : MethodId} {args : Array Value} {below : List Frame} {meth : Method} {c : Code} (cx : jv_cx p s m args meth c cc_P_isPath 4 R_Paths (some .boolean) ws_P_isPath) {r : Int32} {y0 : Int32} {ls : Array Slot} (hl : lv_has ls 4 [(0, .int y0)]) (hf : f_P_isPath_0 y0 = some r) : W p l e rm_P_isPath s m args below meth c s.heap [] 0 0 (MQ below (QcRead r) args s 0 0 (fun _ => False)) (F0 m 0 ls []) := by
  unfold f_P_isPath_0 at hf
  obtain ⟨hx, hb, hml, hown, hts, hr, hlocks⟩ := id cx
  refine lv_iload_n hx hb d_P_isPath_0 rfl (lv_at hl 0 rfl) ?_
  refine lv_istore_n (lv' := [(1, .int y0), (0, .int y0)]) hx hb d_P_isPath_1 rfl hl (by decide) rfl (fun ls hl => ?_)
  refine lv_iconst (v := (0 : Int32)) hx hb d_P_isPath_2 (by decide) ?_
  refine lv_istore_n (lv' := [(2, .int (0 : Int32)), (1, .int y0), (0, .int y0)]) hx hb d_P_isPath_3 rfl hl (by decide) rfl (fun ls hl => ?_)
  exact l_P_isPath_4 cx 300 (y0, (0 : Int32)) _ (lv_sub hl [1, 0] rfl) hf
def f_P_isPath (a0 : Int32) : Option (Int32) := f_P_isPath_0 a0
set_option maxHeartbeats 4000000 in
set_option maxRecDepth 100000 in
theorem c_P_isPath (l : Launch) (a0 : Int32) (r : Int32) (hf : f_P_isPath a0 = some r) : Met l y_P_isPath ws_P_isPath rm_P_isPath (jv_P0 [.int a0]) (QcRead r) 0 0 (fun _ => False) := by
  refine Met.ofW (cc := cc_P_isPath) (maxL := 4) (ret := (some .boolean)) (by decide) rfl ?_
  intro p e s m args below meth c s₁ B hml hv
  obtain ⟨rfl, -⟩ := hv
  have cx : jv_cx p s m _ meth c cc_P_isPath 4 R_Paths (some .boolean) ws_P_isPath := ⟨B.exec, B.bytes, hml, findClass_of_methodNamed B.named, atoms_spec (ws := ws_P_isPath) B.pre, B.returns, B.notSynchronized⟩
  have hl := lv_entry ([.int a0]) (n := 4) (Nat.le_of_ble_eq_true rfl)
  rw [lg_entry_eq]
  generalize (lg_sl ([.int a0]) ++ List.replicate (4 - (lg_sl ([.int a0])).length) Slot.unset).toArray = ls at hl ⊢
  have hl : lv_has ls 4 [(0, .int a0)] := hl
  exact b_P_isPath_0 (y0 := a0) cx (lv_sub hl [0] rfl) hf
def f_P_isBelowRoot_0 (y0 : Int32) : Option (Int32) :=
  if y0 = 0 then (some (0 : Int32)) else ((f_P_isPath y0).bind fun x1 => if x1 = 0 then (some (0 : Int32)) else (some (1 : Int32)))
set_option maxHeartbeats 4000000 in
set_option maxRecDepth 100000 in
theorem b_P_isBelowRoot_0 {l : Launch} {p : Program} {e : Env} {s : State} {m : MethodId} {args : Array Value} {below : List Frame} {meth : Method} {c : Code} (cx : jv_cx p s m args meth c cc_P_isBelowRoot 1 R_Paths (some .boolean) ws_P_isBelowRoot) {r : Int32} {y0 : Int32} {ls : Array Slot} (hl : lv_has ls 1 [(0, .int y0)]) (hf : f_P_isBelowRoot_0 y0 = some r) : W p l e rm_P_isBelowRoot s m args below meth c s.heap [] 0 0 (MQ below (QcRead r) args s 0 0 (fun _ => False)) (F0 m 0 ls []) := by
  unfold f_P_isBelowRoot_0 at hf
  obtain ⟨hx, hb, hml, hown, hts, hr, hlocks⟩ := id cx
  refine lv_iload_n hx hb d_P_isBelowRoot_0 rfl (lv_at hl 0 rfl) ?_
  refine lv_if_eq (tgt := 15) hx hb d_P_isBelowRoot_1 (by decide) (fun hc => ?_) (fun hc => ?_)
  · have hf := jv_it hf hc
    refine lv_iconst (v := (0 : Int32)) hx hb d_P_isBelowRoot_15 (by decide) ?_
    obtain rfl := Option.some.inj hf
    exact W.zret hx hb hr rfl (fun t ht hW => ⟨rfl, ht⟩) (fun q h => by cases h) d_P_isBelowRoot_16
  · have hf := jv_if hf hc
    refine lv_iload_n hx hb d_P_isBelowRoot_4 rfl (lv_at hl 0 rfl) ?_
    obtain ⟨x1, g2, hf⟩ := jv_ob hf
    refine jv_cs (W.runS (As := [.int y0]) (rest := []) ⟨hx, hb, hml, hown, hts⟩ (c_P_isPath l y0 x1 g2) (jv_cwS hts wa_14 wa_8 wa_15 wa_16 rfl rfl yd_P_isPath ⟨Nat.le_of_ble_eq_true rfl, Nat.le_of_ble_eq_true rfl⟩) jv_pre0 rfl rfl hl.1 rfl (lv_room (Nat.le_of_ble_eq_true rfl)) d_P_isBelowRoot_5 ⟨Nat.zero_le _, Nat.zero_le _⟩) ?_
    refine lv_if_eq (tgt := 15) hx hb d_P_isBelowRoot_8 (by decide) (fun hc => ?_) (fun hc => ?_)
    · have hf := jv_it hf hc
      refine lv_iconst (v := (0 : Int32)) hx hb d_P_isBelowRoot_15 (by decide) ?_
      obtain rfl := Option.some.inj hf
      exact W.zret hx hb hr rfl (fun t ht hW => ⟨rfl, ht⟩) (fun q h => by cases h) d_P_isBelowRoot_16
    · have hf := jv_if hf hc
      refine lv_iconst (v := (1 : Int32)) hx hb d_P_isBelowRoot_11 (by decide) ?_
      refine lv_goto (tgt := 16) hx hb d_P_isBelowRoot_12 (by decide) ?_
      obtain rfl := Option.some.inj hf
      exact W.zret hx hb hr rfl (fun t ht hW => ⟨rfl, ht⟩) (fun q h => by cases h) d_P_isBelowRoot_16
def f_P_isBelowRoot (a0 : Int32) : Option (Int32) := f_P_isBelowRoot_0 a0
set_option maxHeartbeats 4000000 in
set_option maxRecDepth 100000 in
theorem c_P_isBelowRoot (l : Launch) (a0 : Int32) (r : Int32) (hf : f_P_isBelowRoot a0 = some r) : Met l y_P_isBelowRoot ws_P_isBelowRoot rm_P_isBelowRoot (jv_P0 [.int a0]) (QcRead r) 0 0 (fun _ => False) := by
  refine Met.ofW (cc := cc_P_isBelowRoot) (maxL := 1) (ret := (some .boolean)) (by decide) rfl ?_
  intro p e s m args below meth c s₁ B hml hv
  obtain ⟨rfl, -⟩ := hv
  have cx : jv_cx p s m _ meth c cc_P_isBelowRoot 1 R_Paths (some .boolean) ws_P_isBelowRoot := ⟨B.exec, B.bytes, hml, findClass_of_methodNamed B.named, atoms_spec (ws := ws_P_isBelowRoot) B.pre, B.returns, B.notSynchronized⟩
  have hl := lv_entry ([.int a0]) (n := 1) (Nat.le_of_ble_eq_true rfl)
  rw [lg_entry_eq]
  generalize (lg_sl ([.int a0]) ++ List.replicate (1 - (lg_sl ([.int a0])).length) Slot.unset).toArray = ls at hl ⊢
  have hl : lv_has ls 1 [(0, .int a0)] := hl
  exact b_P_isBelowRoot_0 (y0 := a0) cx (lv_sub hl [0] rfl) hf
def f_P_lengthOf_4 (y0 : Int32) (k4 : (Int32 × Int32) → Option (Int32)) (a : Int32 × Int32) : Option (Int32) :=
  if (4 : Int32) ≤ a.2 then (some a.1) else ((f_P_without y0 a.2).bind fun x1 => if x1 = 0 then (k4 (a.1, a.2 + (1 : Int32))) else (k4 (a.1 + (1 : Int32), a.2 + (1 : Int32))))
set_option maxHeartbeats 4000000 in
set_option maxRecDepth 100000 in
theorem b_P_lengthOf_4 {l : Launch} {p : Program} {e : Env} {s : State} {m : MethodId} {args : Array Value} {below : List Frame} {meth : Method} {c : Code} (cx : jv_cx p s m args meth c cc_P_lengthOf 3 R_Paths (some .int) ws_P_lengthOf) {r : Int32} {y0 : Int32} {k4 : (Int32 × Int32) → Option (Int32)} (hk4 : ∀ (a : Int32 × Int32) (ls : Array Slot), lv_has ls 3 [(0, .int y0), (1, .int a.1), (2, .int a.2)] → k4 a = some r → W p l e rm_P_lengthOf s m args below meth c s.heap [] 0 0 (MQ below (QcRead r) args s 0 0 (fun _ => False)) (F0 m 4 ls [])) {a : Int32 × Int32} {ls : Array Slot} (hl : lv_has ls 3 [(0, .int y0), (1, .int a.1), (2, .int a.2)]) (hf : f_P_lengthOf_4 y0 k4 a = some r) : W p l e rm_P_lengthOf s m args below meth c s.heap [] 0 0 (MQ below (QcRead r) args s 0 0 (fun _ => False)) (F0 m 4 ls []) := by
  unfold f_P_lengthOf_4 at hf
  obtain ⟨hx, hb, hml, hown, hts, hr, hlocks⟩ := id cx
  refine lv_iload_n hx hb d_P_lengthOf_4 rfl (lv_at hl 2 rfl) ?_
  refine lv_iconst (v := (4 : Int32)) hx hb d_P_lengthOf_5 (by decide) ?_
  refine lv_icmp_ge (tgt := 26) hx hb d_P_lengthOf_6 (by decide) (fun hc => ?_) (fun hc => ?_)
  · have hf := jv_it hf hc
    refine lv_iload_n hx hb d_P_lengthOf_26 rfl (lv_at hl 1 rfl) ?_
    obtain rfl := Option.some.inj hf
    exact W.iret hx hb hr (fun t ht hW => ⟨rfl, ht⟩) (fun q h => by cases h) d_P_lengthOf_27
  · have hf := jv_if hf hc
    refine lv_iload_n hx hb d_P_lengthOf_9 rfl (lv_at hl 0 rfl) ?_
    refine lv_iload_n hx hb d_P_lengthOf_10 rfl (lv_at hl 2 rfl) ?_
    obtain ⟨x1, g2, hf⟩ := jv_ob hf
    refine jv_cs (W.runS (As := [.int y0, .int a.2]) (rest := []) ⟨hx, hb, hml, hown, hts⟩ (c_P_without l y0 a.2 x1 g2) (jv_cwS hts wa_17 wa_8 wa_18 wa_19 rfl rfl yd_P_without ⟨Nat.le_of_ble_eq_true rfl, Nat.le_of_ble_eq_true rfl⟩) jv_pre0 rfl rfl hl.1 rfl (lv_room (Nat.le_of_ble_eq_true rfl)) d_P_lengthOf_11 ⟨Nat.zero_le _, Nat.zero_le _⟩) ?_
    refine lv_if_eq (tgt := 20) hx hb d_P_lengthOf_14 (by decide) (fun hc => ?_) (fun hc => ?_)
    · have hf := jv_it hf hc
      refine lv_iinc (k := 2) (v := a.2 + (1 : Int32)) (lv' := [(2, .int (a.2 + (1 : Int32))), (0, .int y0), (1, .int a.1)]) hx hb d_P_lengthOf_20 hl rfl rfl (by decide) rfl (fun ls hl => ?_)
      refine lv_goto (tgt := 4) hx hb d_P_lengthOf_23 (by decide) ?_
      exact hk4 (a.1, a.2 + (1 : Int32)) _ (lv_sub hl [1, 2, 0] rfl) hf
    · have hf := jv_if hf hc
      refine lv_iinc (k := 1) (v := a.1 + (1 : Int32)) (lv' := [(1, .int (a.1 + (1 : Int32))), (0, .int y0), (2, .int a.2)]) hx hb d_P_lengthOf_17 hl rfl rfl (by decide) rfl (fun ls hl => ?_)
      refine lv_iinc (k := 2) (v := a.2 + (1 : Int32)) (lv' := [(2, .int (a.2 + (1 : Int32))), (1, .int (a.1 + (1 : Int32))), (0, .int y0)]) hx hb d_P_lengthOf_20 hl rfl rfl (by decide) rfl (fun ls hl => ?_)
      refine lv_goto (tgt := 4) hx hb d_P_lengthOf_23 (by decide) ?_
      exact hk4 (a.1 + (1 : Int32), a.2 + (1 : Int32)) _ (lv_sub hl [2, 1, 0] rfl) hf
set_option maxHeartbeats 4000000 in
set_option maxRecDepth 100000 in
theorem l_P_lengthOf_4 {l : Launch} {p : Program} {e : Env} {s : State} {m : MethodId} {args : Array Value} {below : List Frame} {meth : Method} {c : Code} (cx : jv_cx p s m args meth c cc_P_lengthOf 3 R_Paths (some .int) ws_P_lengthOf) {r : Int32} {y0 : Int32} : ∀ n : Nat, ∀ (a : Int32 × Int32) (ls : Array Slot), lv_has ls 3 [(0, .int y0), (1, .int a.1), (2, .int a.2)] → jv_fx (f_P_lengthOf_4 y0) n a = some r → W p l e rm_P_lengthOf s m args below meth c s.heap [] 0 0 (MQ below (QcRead r) args s 0 0 (fun _ => False)) (F0 m 4 ls []) := by
  intro n
  induction n with
  | zero => intro a ls hl hf; exact jv_no hf
  | succ n ih => intro a ls hl hf; exact b_P_lengthOf_4 cx ih hl hf
def f_P_lengthOf_0 (y0 : Int32) : Option (Int32) :=
  jv_fx (f_P_lengthOf_4 y0) 300 ((0 : Int32), (0 : Int32))
set_option maxHeartbeats 4000000 in
set_option maxRecDepth 100000 in
theorem b_P_lengthOf_0 {l : Launch} {p : Program} {e : Env} {s : State} {m : MethodId} {args : Array Value} {below : List Frame} {meth : Method} {c : Code} (cx : jv_cx p s m args meth c cc_P_lengthOf 3 R_Paths (some .int) ws_P_lengthOf) {r : Int32} {y0 : Int32} {ls : Array Slot} (hl : lv_has ls 3 [(0, .int y0)]) (hf : f_P_lengthOf_0 y0 = some r) : W p l e rm_P_lengthOf s m args below meth c s.heap [] 0 0 (MQ below (QcRead r) args s 0 0 (fun _ => False)) (F0 m 0 ls []) := by
  unfold f_P_lengthOf_0 at hf
  obtain ⟨hx, hb, hml, hown, hts, hr, hlocks⟩ := id cx
  refine lv_iconst (v := (0 : Int32)) hx hb d_P_lengthOf_0 (by decide) ?_
  refine lv_istore_n (lv' := [(1, .int (0 : Int32)), (0, .int y0)]) hx hb d_P_lengthOf_1 rfl hl (by decide) rfl (fun ls hl => ?_)
  refine lv_iconst (v := (0 : Int32)) hx hb d_P_lengthOf_2 (by decide) ?_
  refine lv_istore_n (lv' := [(2, .int (0 : Int32)), (1, .int (0 : Int32)), (0, .int y0)]) hx hb d_P_lengthOf_3 rfl hl (by decide) rfl (fun ls hl => ?_)
  exact l_P_lengthOf_4 (y0 := y0) cx 300 ((0 : Int32), (0 : Int32)) _ (lv_sub hl [2, 1, 0] rfl) hf
def f_P_lengthOf (a0 : Int32) : Option (Int32) := f_P_lengthOf_0 a0
set_option maxHeartbeats 4000000 in
set_option maxRecDepth 100000 in
theorem c_P_lengthOf (l : Launch) (a0 : Int32) (r : Int32) (hf : f_P_lengthOf a0 = some r) : Met l y_P_lengthOf ws_P_lengthOf rm_P_lengthOf (jv_P0 [.int a0]) (QcRead r) 0 0 (fun _ => False) := by
  refine Met.ofW (cc := cc_P_lengthOf) (maxL := 3) (ret := (some .int)) (by decide) rfl ?_
  intro p e s m args below meth c s₁ B hml hv
  obtain ⟨rfl, -⟩ := hv
  have cx : jv_cx p s m _ meth c cc_P_lengthOf 3 R_Paths (some .int) ws_P_lengthOf := ⟨B.exec, B.bytes, hml, findClass_of_methodNamed B.named, atoms_spec (ws := ws_P_lengthOf) B.pre, B.returns, B.notSynchronized⟩
  have hl := lv_entry ([.int a0]) (n := 3) (Nat.le_of_ble_eq_true rfl)
  rw [lg_entry_eq]
  generalize (lg_sl ([.int a0]) ++ List.replicate (3 - (lg_sl ([.int a0])).length) Slot.unset).toArray = ls at hl ⊢
  have hl : lv_has ls 3 [(0, .int a0)] := hl
  exact b_P_lengthOf_0 (y0 := a0) cx (lv_sub hl [0] rfl) hf
def f_P_startsWith_2 (y0 : Int32) (y1 : Int32) (k2 : (Int32) → Option (Int32)) (a : Int32) : Option (Int32) :=
  if (4 : Int32) ≤ a then (some (0 : Int32)) else ((f_P_without y0 a).bind fun x1 => if x1 = y1 then (some (1 : Int32)) else (k2 (a + (1 : Int32))))
set_option maxHeartbeats 4000000 in
set_option maxRecDepth 100000 in
theorem b_P_startsWith_2 {l : Launch} {p : Program} {e : Env} {s : State} {m : MethodId} {args : Array Value} {below : List Frame} {meth : Method} {c : Code} (cx : jv_cx p s m args meth c cc_P_startsWith 3 R_Paths (some .boolean) ws_P_startsWith) {r : Int32} {y0 : Int32} {y1 : Int32} {k2 : (Int32) → Option (Int32)} (hk2 : ∀ (a : Int32) (ls : Array Slot), lv_has ls 3 [(0, .int y0), (1, .int y1), (2, .int a)] → k2 a = some r → W p l e rm_P_startsWith s m args below meth c s.heap [] 0 0 (MQ below (QcRead r) args s 0 0 (fun _ => False)) (F0 m 2 ls [])) {a : Int32} {ls : Array Slot} (hl : lv_has ls 3 [(0, .int y0), (1, .int y1), (2, .int a)]) (hf : f_P_startsWith_2 y0 y1 k2 a = some r) : W p l e rm_P_startsWith s m args below meth c s.heap [] 0 0 (MQ below (QcRead r) args s 0 0 (fun _ => False)) (F0 m 2 ls []) := by
  unfold f_P_startsWith_2 at hf
  obtain ⟨hx, hb, hml, hown, hts, hr, hlocks⟩ := id cx
  refine lv_iload_n hx hb d_P_startsWith_2 rfl (lv_at hl 2 rfl) ?_
  refine lv_iconst (v := (4 : Int32)) hx hb d_P_startsWith_3 (by decide) ?_
  refine lv_icmp_ge (tgt := 24) hx hb d_P_startsWith_4 (by decide) (fun hc => ?_) (fun hc => ?_)
  · have hf := jv_it hf hc
    refine lv_iconst (v := (0 : Int32)) hx hb d_P_startsWith_24 (by decide) ?_
    obtain rfl := Option.some.inj hf
    exact W.zret hx hb hr rfl (fun t ht hW => ⟨rfl, ht⟩) (fun q h => by cases h) d_P_startsWith_25
  · have hf := jv_if hf hc
    refine lv_iload_n hx hb d_P_startsWith_7 rfl (lv_at hl 0 rfl) ?_
    refine lv_iload_n hx hb d_P_startsWith_8 rfl (lv_at hl 2 rfl) ?_
    obtain ⟨x1, g2, hf⟩ := jv_ob hf
    refine jv_cs (W.runS (As := [.int y0, .int a]) (rest := []) ⟨hx, hb, hml, hown, hts⟩ (c_P_without l y0 a x1 g2) (jv_cwS hts wa_17 wa_8 wa_18 wa_19 rfl rfl yd_P_without ⟨Nat.le_of_ble_eq_true rfl, Nat.le_of_ble_eq_true rfl⟩) jv_pre0 rfl rfl hl.1 rfl (lv_room (Nat.le_of_ble_eq_true rfl)) d_P_startsWith_9 ⟨Nat.zero_le _, Nat.zero_le _⟩) ?_
    refine lv_iload_n hx hb d_P_startsWith_12 rfl (lv_at hl 1 rfl) ?_
    refine lv_icmp_ne (tgt := 18) hx hb d_P_startsWith_13 (by decide) (fun hc => ?_) (fun hc => ?_)
    · have hf := jv_if hf hc
      refine lv_iinc (k := 2) (v := a + (1 : Int32)) (lv' := [(2, .int (a + (1 : Int32))), (0, .int y0), (1, .int y1)]) hx hb d_P_startsWith_18 hl rfl rfl (by decide) rfl (fun ls hl => ?_)
      refine lv_goto (tgt := 2) hx hb d_P_startsWith_21 (by decide) ?_
      exact hk2 (a + (1 : Int32)) _ (lv_sub hl [1, 2, 0] rfl) hf
    · have hf := jv_it hf hc
      refine lv_iconst (v := (1 : Int32)) hx hb d_P_startsWith_16 (by decide) ?_
      obtain rfl := Option.some.inj hf
      exact W.zret hx hb hr rfl (fun t ht hW => ⟨rfl, ht⟩) (fun q h => by cases h) d_P_startsWith_17
set_option maxHeartbeats 4000000 in
set_option maxRecDepth 100000 in
theorem l_P_startsWith_2 {l : Launch} {p : Program} {e : Env} {s : State} {m : MethodId} {args : Array Value} {below : List Frame} {meth : Method} {c : Code} (cx : jv_cx p s m args meth c cc_P_startsWith 3 R_Paths (some .boolean) ws_P_startsWith) {r : Int32} {y0 : Int32} {y1 : Int32} : ∀ n : Nat, ∀ (a : Int32) (ls : Array Slot), lv_has ls 3 [(0, .int y0), (1, .int y1), (2, .int a)] → jv_fx (f_P_startsWith_2 y0 y1) n a = some r → W p l e rm_P_startsWith s m args below meth c s.heap [] 0 0 (MQ below (QcRead r) args s 0 0 (fun _ => False)) (F0 m 2 ls []) := by
  intro n
  induction n with
  | zero => intro a ls hl hf; exact jv_no hf
  | succ n ih => intro a ls hl hf; exact b_P_startsWith_2 cx ih hl hf
def f_P_startsWith_0 (y0 : Int32) (y1 : Int32) : Option (Int32) :=
  jv_fx (f_P_startsWith_2 y0 y1) 300 (0 : Int32)
set_option maxHeartbeats 4000000 in
set_option maxRecDepth 100000 in
theorem b_P_startsWith_0 {l : Launch} {p : Program} {e : Env} {s : State} {m : MethodId} {args : Array Value} {below : List Frame} {meth : Method} {c : Code} (cx : jv_cx p s m args meth c cc_P_startsWith 3 R_Paths (some .boolean) ws_P_startsWith) {r : Int32} {y0 : Int32} {y1 : Int32} {ls : Array Slot} (hl : lv_has ls 3 [(0, .int y0), (1, .int y1)]) (hf : f_P_startsWith_0 y0 y1 = some r) : W p l e rm_P_startsWith s m args below meth c s.heap [] 0 0 (MQ below (QcRead r) args s 0 0 (fun _ => False)) (F0 m 0 ls []) := by
  unfold f_P_startsWith_0 at hf
  obtain ⟨hx, hb, hml, hown, hts, hr, hlocks⟩ := id cx
  refine lv_iconst (v := (0 : Int32)) hx hb d_P_startsWith_0 (by decide) ?_
  refine lv_istore_n (lv' := [(2, .int (0 : Int32)), (0, .int y0), (1, .int y1)]) hx hb d_P_startsWith_1 rfl hl (by decide) rfl (fun ls hl => ?_)
  exact l_P_startsWith_2 (y0 := y0) (y1 := y1) cx 300 (0 : Int32) _ (lv_sub hl [1, 2, 0] rfl) hf
def f_P_startsWith (a0 : Int32) (a1 : Int32) : Option (Int32) := f_P_startsWith_0 a0 a1
set_option maxHeartbeats 4000000 in
set_option maxRecDepth 100000 in
theorem c_P_startsWith (l : Launch) (a0 : Int32) (a1 : Int32) (r : Int32) (hf : f_P_startsWith a0 a1 = some r) : Met l y_P_startsWith ws_P_startsWith rm_P_startsWith (jv_P0 [.int a0, .int a1]) (QcRead r) 0 0 (fun _ => False) := by
  refine Met.ofW (cc := cc_P_startsWith) (maxL := 3) (ret := (some .boolean)) (by decide) rfl ?_
  intro p e s m args below meth c s₁ B hml hv
  obtain ⟨rfl, -⟩ := hv
  have cx : jv_cx p s m _ meth c cc_P_startsWith 3 R_Paths (some .boolean) ws_P_startsWith := ⟨B.exec, B.bytes, hml, findClass_of_methodNamed B.named, atoms_spec (ws := ws_P_startsWith) B.pre, B.returns, B.notSynchronized⟩
  have hl := lv_entry ([.int a0, .int a1]) (n := 3) (Nat.le_of_ble_eq_true rfl)
  rw [lg_entry_eq]
  generalize (lg_sl ([.int a0, .int a1]) ++ List.replicate (3 - (lg_sl ([.int a0, .int a1])).length) Slot.unset).toArray = ls at hl ⊢
  have hl : lv_has ls 3 [(0, .int a0), (1, .int a1)] := hl
  exact b_P_startsWith_0 (y0 := a0) (y1 := a1) cx (lv_sub hl [0, 1] rfl) hf
def f_Fu_letsPass_0 (y0 : Int32) : Option (Int32 × Int32) :=
  if y0 = 0 then (some ((0 : Int32), y0)) else (if y0 ≤ 0 then (some ((1 : Int32), y0)) else (some ((1 : Int32), y0 - (1 : Int32))))
set_option maxHeartbeats 4000000 in
set_option maxRecDepth 100000 in
theorem b_Fu_letsPass_0 {l : Launch} {dC : Nat → ClassId} {dI : Nat → Nat → Nat} {cI cA cL : ClassId} {q_fu : Nat} {p : Program} {e : Env} {s : State} {m : MethodId} {args : Array Value} {below : List Frame} {meth : Method} {c : Code} (cx : jv_cx p s m args meth c cc_Fu_letsPass 1 R_Fuse (some .boolean) ws_Fu_letsPass) (hK : va_K (dC, dI) vwCl (jv_ty cI cA cL) s) {A : Nat → Prop} (hA : ∀ q : Nat, s.heap.size ≤ q → A q) {r : Int32 × Int32} {y0 : Int32} {ls : Array Slot} (hl : lv_has ls 1 [(0, .ref q_fu)]) {H : Heap} {locs : List Loc} (hP : va_P (dC, dI) vwCl (w_fuse cI q_fu y0) H) (hD : va_D A (w_fuse cI q_fu y0)) (hS : va_S A s.heap H locs) (hf : f_Fu_letsPass_0 y0 = some r) : W p l e rm_Fu_letsPass s m args below meth c H locs 0 0 (MQ below (jv_Qi r.1 (dC, dI) (w_fuse cI q_fu r.2) A) args s 0 0 A) (F0 m 0 ls []) := by
  unfold f_Fu_letsPass_0 at hf
  obtain ⟨hx, hb, hml, hown, hts, hr, hlocks⟩ := id cx
  refine lv_aload_n hx hb d_Fu_letsPass_0 rfl (lv_at hl 0 rfl) ?_
  refine va_get (D := (dC, dI)) (ci := kFuse) (v := .int y0) (C := R_Fuse) (T := T_Fuse) (N := 1) hx hb hts (fun w h => List.mem_cons_of_mem _ (in_Fuse w h)) hown hK hP 0 rfl rfl 0 (by decide) (jv_w hts wa_20) (fun _ h9 => h9) rfl d_Fu_letsPass_1 ?_
  refine lv_if_ne (tgt := 9) hx hb d_Fu_letsPass_4 (by decide) (fun hc => ?_) (fun hc => ?_)
  · have hf := jv_if hf hc
    refine lv_aload_n hx hb d_Fu_letsPass_9 rfl (lv_at hl 0 rfl) ?_
    refine va_get (D := (dC, dI)) (ci := kFuse) (v := .int y0) (C := R_Fuse) (T := T_Fuse) (N := 1) hx hb hts (fun w h => List.mem_cons_of_mem _ (in_Fuse w h)) hown hK hP 0 rfl rfl 0 (by decide) (jv_w hts wa_20) (fun _ h9 => h9) rfl d_Fu_letsPass_10 ?_
    refine lv_if_le (tgt := 26) hx hb d_Fu_letsPass_13 (by decide) (fun hc => ?_) (fun hc => ?_)
    · have hf := jv_it hf hc
      refine lv_iconst (v := (1 : Int32)) hx hb d_Fu_letsPass_26 (by decide) ?_
      obtain rfl := Option.some.inj hf
      exact W.zret hx hb hr rfl (fun t ht hW => ⟨rfl, by rw [ht]; exact hP, hD, hS.F ht⟩) hS.2.2 d_Fu_letsPass_27
    · have hf := jv_if hf hc
      refine lv_aload_n hx hb d_Fu_letsPass_16 rfl (lv_at hl 0 rfl) ?_
      refine lv_dup hx hb d_Fu_letsPass_17 rfl ?_
      refine va_get (D := (dC, dI)) (ci := kFuse) (v := .int y0) (C := R_Fuse) (T := T_Fuse) (N := 1) hx hb hts (fun w h => List.mem_cons_of_mem _ (in_Fuse w h)) hown hK hP 0 rfl rfl 0 (by decide) (jv_w hts wa_20) (fun _ h9 => h9) rfl d_Fu_letsPass_18 ?_
      refine lv_iconst (v := (1 : Int32)) hx hb d_Fu_letsPass_21 (by decide) ?_
      refine lv_isub hx hb d_Fu_letsPass_22 ?_
      refine va_put (D := (dC, dI)) (ci := kFuse) (v := .int (y0 - (1 : Int32))) (ty := .int) (C := R_Fuse) (T := T_Fuse) (N := 1) hx hb hts (fun w h => List.mem_cons_of_mem _ (in_Fuse w h)) ty_Fuse tyok_Fuse nm_Fuse hown hK hP hD hS 0 rfl rfl 0 (by decide) (jv_w hts wa_20) (fun _ h9 => h9) rfl (by decide +kernel) rfl rfl (Nat.le_of_ble_eq_true rfl) d_Fu_letsPass_23 (fun H locs hP hD hS => ?_)
      have hP : va_P (dC, dI) vwCl (w_fuse cI q_fu (y0 - (1 : Int32))) H := hP
      have hD : va_D A (w_fuse cI q_fu (y0 - (1 : Int32))) := hD
      refine lv_iconst (v := (1 : Int32)) hx hb d_Fu_letsPass_26 (by decide) ?_
      obtain rfl := Option.some.inj hf
      exact W.zret hx hb hr rfl (fun t ht hW => ⟨rfl, by rw [ht]; exact hP, hD, hS.F ht⟩) hS.2.2 d_Fu_letsPass_27
  · have hf := jv_it hf hc
    refine lv_iconst (v := (0 : Int32)) hx hb d_Fu_letsPass_7 (by decide) ?_
    obtain rfl := Option.some.inj hf
    exact W.zret hx hb hr rfl (fun t ht hW => ⟨rfl, by rw [ht]; exact hP, hD, hS.F ht⟩) hS.2.2 d_Fu_letsPass_8
def f_Fu_letsPass (vat : Int32) : Option (Int32 × Int32) := f_Fu_letsPass_0 vat
set_option maxHeartbeats 4000000 in
set_option maxRecDepth 100000 in
theorem c_Fu_letsPass (l : Launch) (dC : Nat → ClassId) (dI : Nat → Nat → Nat) (cI cA cL : ClassId) (q_fu : Nat) (vat : Int32) (sz : Nat) (r : Int32 × Int32) (hf : f_Fu_letsPass vat = some r) : Met l y_Fu_letsPass ws_Fu_letsPass rm_Fu_letsPass (jv_Pw [.ref q_fu] (dC, dI) (jv_ty cI cA cL) (w_fuse cI q_fu vat) sz) (jv_Qi r.1 (dC, dI) (w_fuse cI q_fu r.2) (va_A (w_fuse cI q_fu vat) sz)) 0 0 (va_A (w_fuse cI q_fu vat) sz) := by
  refine Met.ofW (cc := cc_Fu_letsPass) (maxL := 1) (ret := (some .boolean)) (by decide) rfl ?_
  intro p e s m args below meth c s₁ B hml hv
  obtain ⟨rfl, hsz, hP, hK, hD0⟩ := hv
  have cx : jv_cx p s m _ meth c cc_Fu_letsPass 1 R_Fuse (some .boolean) ws_Fu_letsPass := ⟨B.exec, B.bytes, hml, findClass_of_methodNamed B.named, atoms_spec (ws := ws_Fu_letsPass) B.pre, B.returns, B.notSynchronized⟩
  subst hsz
  have hD := hD0.self (sz := s.heap.size)
  generalize hAe : va_A (w_fuse cI q_fu vat) s.heap.size = A at hD ⊢
  have hA : ∀ q : Nat, s.heap.size ≤ q → A q := fun q h => by rw [← hAe]; exact Or.inr h
  have hS : va_S A s.heap s.heap [] := va_S.rf
  have hl := lv_entry ([.ref q_fu]) (n := 1) (Nat.le_of_ble_eq_true rfl)
  rw [lg_entry_eq]
  generalize (lg_sl ([.ref q_fu]) ++ List.replicate (1 - (lg_sl ([.ref q_fu])).length) Slot.unset).toArray = ls at hl ⊢
  have hl : lv_has ls 1 [(0, .ref q_fu)] := hl
  exact b_Fu_letsPass_0 (y0 := vat) cx hK hA (lv_sub hl [0] rfl) hP hD hS hf
def f_D_get_0 (vD : Nat → Int32) (y0 : Int32) (y1 : Int32) : Option (Int32) :=
  (jv_ga vD 232 ((y0 * (8 : Int32)) + y1)).bind fun x1 => some x1
set_option maxHeartbeats 4000000 in
set_option maxRecDepth 100000 in
theorem b_D_get_0 {l : Launch} {dC : Nat → ClassId} {dI : Nat → Nat → Nat} {cI cA cL : ClassId} {q_di q_pl q_dr q_jo : Nat} {vjn : Int32} {vmk : Int32} {vwr : Int32} {vP : Nat → Int32} {vD : Nat → Int32} {vJ : Nat → Int32} {p : Program} {e : Env} {s : State} {m : MethodId} {args : Array Value} {below : List Frame} {meth : Method} {c : Code} (cx : jv_cx p s m args meth c cc_D_get 3 R_Disk (some .int) ws_D_get) (hK : va_K (dC, dI) vwCl (jv_ty cI cA cL) s) (hP : va_P (dC, dI) vwCl (w_disk cI q_di q_pl q_dr q_jo vjn vmk vwr vP vD vJ) s.heap) {r : Int32} {y0 : Int32} {y1 : Int32} {ls : Array Slot} (hl : lv_has ls 3 [(0, .ref q_di), (1, .int y0), (2, .int y1)]) (hf : f_D_get_0 vD y0 y1 = some r) : W p l e rm_D_get s m args below meth c s.heap [] 0 0 (MQ below (QcRead r) args s 0 0 (fun _ => False)) (F0 m 0 ls []) := by
  unfold f_D_get_0 at hf
  obtain ⟨hx, hb, hml, hown, hts, hr, hlocks⟩ := id cx
  refine lv_aload_n hx hb d_D_get_0 rfl (lv_at hl 0 rfl) ?_
  refine va_get (D := (dC, dI)) (ci := kDisk) (v := .ref q_dr) (C := R_Disk) (T := T_Disk) (N := 6) hx hb hts (fun w h => List.mem_cons_of_mem _ (in_Disk w h)) hown hK hP 0 rfl rfl 1 (by decide) (jv_w hts wa_22) (fun _ h9 => h9) rfl d_D_get_1 ?_
  refine lv_iload_n hx hb d_D_get_4 rfl (lv_at hl 1 rfl) ?_
  refine lv_bipush (v := (8 : Int32)) hx hb d_D_get_5 (by decide) ?_
  refine lv_imul hx hb d_D_get_7 ?_
  refine lv_iload_n hx hb d_D_get_8 rfl (lv_at hl 2 rfl) ?_
  refine lv_iadd hx hb d_D_get_9 ?_
  obtain ⟨x1, g2, hf⟩ := jv_ob hf
  refine jv_iald hx hb hK hP 2 0 rfl rfl g2 d_D_get_10 ?_
  obtain rfl := Option.some.inj hf
  exact W.iret hx hb hr (fun t ht hW => ⟨rfl, ht⟩) (fun q h => by cases h) d_D_get_11
def f_D_get (vD : Nat → Int32) (a0 : Int32) (a1 : Int32) : Option (Int32) := f_D_get_0 vD a0 a1
set_option maxHeartbeats 4000000 in
set_option maxRecDepth 100000 in
theorem c_D_get (l : Launch) (dC : Nat → ClassId) (dI : Nat → Nat → Nat) (cI cA cL : ClassId) (q_di q_pl q_dr q_jo : Nat) (vjn : Int32) (vmk : Int32) (vwr : Int32) (vP : Nat → Int32) (vD : Nat → Int32) (vJ : Nat → Int32) (a0 : Int32) (a1 : Int32) (r : Int32) (hf : f_D_get vD a0 a1 = some r) : Met l y_D_get ws_D_get rm_D_get (jv_Pr [.ref q_di, .int a0, .int a1] (dC, dI) (jv_ty cI cA cL) (w_disk cI q_di q_pl q_dr q_jo vjn vmk vwr vP vD vJ)) (QcRead r) 0 0 (fun _ => False) := by
  refine Met.ofW (cc := cc_D_get) (maxL := 3) (ret := (some .int)) (by decide) rfl ?_
  intro p e s m args below meth c s₁ B hml hv
  obtain ⟨rfl, hP, hK⟩ := hv
  have cx : jv_cx p s m _ meth c cc_D_get 3 R_Disk (some .int) ws_D_get := ⟨B.exec, B.bytes, hml, findClass_of_methodNamed B.named, atoms_spec (ws := ws_D_get) B.pre, B.returns, B.notSynchronized⟩
  have hl := lv_entry ([.ref q_di, .int a0, .int a1]) (n := 3) (Nat.le_of_ble_eq_true rfl)
  rw [lg_entry_eq]
  generalize (lg_sl ([.ref q_di, .int a0, .int a1]) ++ List.replicate (3 - (lg_sl ([.ref q_di, .int a0, .int a1])).length) Slot.unset).toArray = ls at hl ⊢
  have hl : lv_has ls 3 [(0, .ref q_di), (1, .int a0), (2, .int a1)] := hl
  exact b_D_get_0 (y0 := a0) (y1 := a1) cx hK hP (lv_sub hl [0, 1, 2] rfl) hf
def f_D_inodeWord_0 (vD : Nat → Int32) (y0 : Int32) (y1 : Int32) : Option (Int32) :=
  (jv_ga vD 232 ((((1 : Int32) + y0) * (8 : Int32)) + y1)).bind fun x1 => some x1
set_option maxHeartbeats 4000000 in
set_option maxRecDepth 100000 in
theorem b_D_inodeWord_0 {l : Launch} {dC : Nat → ClassId} {dI : Nat → Nat → Nat} {cI cA cL : ClassId} {q_di q_pl q_dr q_jo : Nat} {vjn : Int32} {vmk : Int32} {vwr : Int32} {vP : Nat → Int32} {vD : Nat → Int32} {vJ : Nat → Int32} {p : Program} {e : Env} {s : State} {m : MethodId} {args : Array Value} {below : List Frame} {meth : Method} {c : Code} (cx : jv_cx p s m args meth c cc_D_inodeWord 3 R_Disk (some .int) ws_D_inodeWord) (hK : va_K (dC, dI) vwCl (jv_ty cI cA cL) s) (hP : va_P (dC, dI) vwCl (w_disk cI q_di q_pl q_dr q_jo vjn vmk vwr vP vD vJ) s.heap) {r : Int32} {y0 : Int32} {y1 : Int32} {ls : Array Slot} (hl : lv_has ls 3 [(0, .ref q_di), (1, .int y0), (2, .int y1)]) (hf : f_D_inodeWord_0 vD y0 y1 = some r) : W p l e rm_D_inodeWord s m args below meth c s.heap [] 0 0 (MQ below (QcRead r) args s 0 0 (fun _ => False)) (F0 m 0 ls []) := by
  unfold f_D_inodeWord_0 at hf
  obtain ⟨hx, hb, hml, hown, hts, hr, hlocks⟩ := id cx
  refine lv_aload_n hx hb d_D_inodeWord_0 rfl (lv_at hl 0 rfl) ?_
  refine va_get (D := (dC, dI)) (ci := kDisk) (v := .ref q_dr) (C := R_Disk) (T := T_Disk) (N := 6) hx hb hts (fun w h => List.mem_cons_of_mem _ (in_Disk w h)) hown hK hP 0 rfl rfl 1 (by decide) (jv_w hts wa_22) (fun _ h9 => h9) rfl d_D_inodeWord_1 ?_
  refine lv_iconst (v := (1 : Int32)) hx hb d_D_inodeWord_4 (by decide) ?_
  refine lv_iload_n hx hb d_D_inodeWord_5 rfl (lv_at hl 1 rfl) ?_
  refine lv_iadd hx hb d_D_inodeWord_6 ?_
  refine lv_bipush (v := (8 : Int32)) hx hb d_D_inodeWord_7 (by decide) ?_
  refine lv_imul hx hb d_D_inodeWord_9 ?_
  refine lv_iload_n hx hb d_D_inodeWord_10 rfl (lv_at hl 2 rfl) ?_
  refine lv_iadd hx hb d_D_inodeWord_11 ?_
  obtain ⟨x1, g2, hf⟩ := jv_ob hf
  refine jv_iald hx hb hK hP 2 0 rfl rfl g2 d_D_inodeWord_12 ?_
  obtain rfl := Option.some.inj hf
  exact W.iret hx hb hr (fun t ht hW => ⟨rfl, ht⟩) (fun q h => by cases h) d_D_inodeWord_13
def f_D_inodeWord (vD : Nat → Int32) (a0 : Int32) (a1 : Int32) : Option (Int32) := f_D_inodeWord_0 vD a0 a1
set_option maxHeartbeats 4000000 in
set_option maxRecDepth 100000 in
theorem c_D_inodeWord (l : Launch) (dC : Nat → ClassId) (dI : Nat → Nat → Nat) (cI cA cL : ClassId) (q_di q_pl q_dr q_jo : Nat) (vjn : Int32) (vmk : Int32) (vwr : Int32) (vP : Nat → Int32) (vD : Nat → Int32) (vJ : Nat → Int32) (a0 : Int32) (a1 : Int32) (r : Int32) (hf : f_D_inodeWord vD a0 a1 = some r) : Met l y_D_inodeWord ws_D_inodeWord rm_D_inodeWord (jv_Pr [.ref q_di, .int a0, .int a1] (dC, dI) (jv_ty cI cA cL) (w_disk cI q_di q_pl q_dr q_jo vjn vmk vwr vP vD vJ)) (QcRead r) 0 0 (fun _ => False) := by
  refine Met.ofW (cc := cc_D_inodeWord) (maxL := 3) (ret := (some .int)) (by decide) rfl ?_
  intro p e s m args below meth c s₁ B hml hv
  obtain ⟨rfl, hP, hK⟩ := hv
  have cx : jv_cx p s m _ meth c cc_D_inodeWord 3 R_Disk (some .int) ws_D_inodeWord := ⟨B.exec, B.bytes, hml, findClass_of_methodNamed B.named, atoms_spec (ws := ws_D_inodeWord) B.pre, B.returns, B.notSynchronized⟩
  have hl := lv_entry ([.ref q_di, .int a0, .int a1]) (n := 3) (Nat.le_of_ble_eq_true rfl)
  rw [lg_entry_eq]
  generalize (lg_sl ([.ref q_di, .int a0, .int a1]) ++ List.replicate (3 - (lg_sl ([.ref q_di, .int a0, .int a1])).length) Slot.unset).toArray = ls at hl ⊢
  have hl : lv_has ls 3 [(0, .ref q_di), (1, .int a0), (2, .int a1)] := hl
  exact b_D_inodeWord_0 (y0 := a0) (y1 := a1) cx hK hP (lv_sub hl [0, 1, 2] rfl) hf
def f_D_put_0 (y0 : Int32) (y1 : Int32) (y2 : Int32) (y3 : Nat → Int32) : Option (Nat → Int32) :=
  (jv_sa y3 232 ((y0 * (8 : Int32)) + y1) y2).bind fun F1 => some F1
set_option maxHeartbeats 4000000 in
set_option maxRecDepth 100000 in
theorem b_D_put_0 {l : Launch} {dC : Nat → ClassId} {dI : Nat → Nat → Nat} {cI cA cL : ClassId} {q_di q_pl q_dr q_jo : Nat} {vjn : Int32} {vmk : Int32} {vwr : Int32} {vP : Nat → Int32} {vJ : Nat → Int32} {p : Program} {e : Env} {s : State} {m : MethodId} {args : Array Value} {below : List Frame} {meth : Method} {c : Code} (cx : jv_cx p s m args meth c cc_D_put 4 R_Disk none ws_D_put) (hK : va_K (dC, dI) vwCl (jv_ty cI cA cL) s) {A : Nat → Prop} (hA : ∀ q : Nat, s.heap.size ≤ q → A q) {r : Nat → Int32} {y0 : Int32} {y1 : Int32} {y2 : Int32} {y3 : Nat → Int32} {ls : Array Slot} (hl : lv_has ls 4 [(0, .ref q_di), (1, .int y0), (2, .int y1), (3, .int y2)]) {H : Heap} {locs : List Loc} (hP : va_P (dC, dI) vwCl (w_disk cI q_di q_pl q_dr q_jo vjn vmk vwr vP y3 vJ) H) (hD : va_D A (w_disk cI q_di q_pl q_dr q_jo vjn vmk vwr vP y3 vJ)) (hS : va_S A s.heap H locs) (hf : f_D_put_0 y0 y1 y2 y3 = some r) : W p l e rm_D_put s m args below meth c H locs 0 0 (MQ below (jv_Qv (dC, dI) (w_disk cI q_di q_pl q_dr q_jo vjn vmk vwr vP r vJ) A) args s 0 0 A) (F0 m 0 ls []) := by
  unfold f_D_put_0 at hf
  obtain ⟨hx, hb, hml, hown, hts, hr, hlocks⟩ := id cx
  refine lv_aload_n hx hb d_D_put_0 rfl (lv_at hl 0 rfl) ?_
  refine va_get (D := (dC, dI)) (ci := kDisk) (v := .ref q_dr) (C := R_Disk) (T := T_Disk) (N := 6) hx hb hts (fun w h => List.mem_cons_of_mem _ (in_Disk w h)) hown hK hP 0 rfl rfl 1 (by decide) (jv_w hts wa_22) (fun _ h9 => h9) rfl d_D_put_1 ?_
  refine lv_iload_n hx hb d_D_put_4 rfl (lv_at hl 1 rfl) ?_
  refine lv_bipush (v := (8 : Int32)) hx hb d_D_put_5 (by decide) ?_
  refine lv_imul hx hb d_D_put_7 ?_
  refine lv_iload_n hx hb d_D_put_8 rfl (lv_at hl 2 rfl) ?_
  refine lv_iadd hx hb d_D_put_9 ?_
  refine lv_iload_n hx hb d_D_put_10 rfl (lv_at hl 3 rfl) ?_
  obtain ⟨F1, g2, hf⟩ := jv_ob hf
  refine jv_iast hx hb hK hP hD hS 2 0 rfl rfl g2 d_D_put_11 (fun H locs hP hD hS => ?_)
  have hP : va_P (dC, dI) vwCl (w_disk cI q_di q_pl q_dr q_jo vjn vmk vwr vP F1 vJ) H := hP
  have hD : va_D A (w_disk cI q_di q_pl q_dr q_jo vjn vmk vwr vP F1 vJ) := hD
  obtain rfl := Option.some.inj hf
  exact W.vret hx hb hr (fun t ht hW => ⟨rfl, by rw [ht]; exact hP, hD, hS.F ht⟩) hS.2.2 d_D_put_12
def f_D_put (a0 : Int32) (a1 : Int32) (a2 : Int32) (vD : Nat → Int32) : Option (Nat → Int32) := f_D_put_0 a0 a1 a2 vD
set_option maxHeartbeats 4000000 in
set_option maxRecDepth 100000 in
theorem c_D_put (l : Launch) (dC : Nat → ClassId) (dI : Nat → Nat → Nat) (cI cA cL : ClassId) (q_di q_pl q_dr q_jo : Nat) (vjn : Int32) (vmk : Int32) (vwr : Int32) (vP : Nat → Int32) (vD : Nat → Int32) (vJ : Nat → Int32) (a0 : Int32) (a1 : Int32) (a2 : Int32) (sz : Nat) (r : Nat → Int32) (hf : f_D_put a0 a1 a2 vD = some r) : Met l y_D_put ws_D_put rm_D_put (jv_Pw [.ref q_di, .int a0, .int a1, .int a2] (dC, dI) (jv_ty cI cA cL) (w_disk cI q_di q_pl q_dr q_jo vjn vmk vwr vP vD vJ) sz) (jv_Qv (dC, dI) (w_disk cI q_di q_pl q_dr q_jo vjn vmk vwr vP r vJ) (va_A (w_disk cI q_di q_pl q_dr q_jo vjn vmk vwr vP vD vJ) sz)) 0 0 (va_A (w_disk cI q_di q_pl q_dr q_jo vjn vmk vwr vP vD vJ) sz) := by
  refine Met.ofW (cc := cc_D_put) (maxL := 4) (ret := none) (by decide) rfl ?_
  intro p e s m args below meth c s₁ B hml hv
  obtain ⟨rfl, hsz, hP, hK, hD0⟩ := hv
  have cx : jv_cx p s m _ meth c cc_D_put 4 R_Disk none ws_D_put := ⟨B.exec, B.bytes, hml, findClass_of_methodNamed B.named, atoms_spec (ws := ws_D_put) B.pre, B.returns, B.notSynchronized⟩
  subst hsz
  have hD := hD0.self (sz := s.heap.size)
  generalize hAe : va_A (w_disk cI q_di q_pl q_dr q_jo vjn vmk vwr vP vD vJ) s.heap.size = A at hD ⊢
  have hA : ∀ q : Nat, s.heap.size ≤ q → A q := fun q h => by rw [← hAe]; exact Or.inr h
  have hS : va_S A s.heap s.heap [] := va_S.rf
  have hl := lv_entry ([.ref q_di, .int a0, .int a1, .int a2]) (n := 4) (Nat.le_of_ble_eq_true rfl)
  rw [lg_entry_eq]
  generalize (lg_sl ([.ref q_di, .int a0, .int a1, .int a2]) ++ List.replicate (4 - (lg_sl ([.ref q_di, .int a0, .int a1, .int a2])).length) Slot.unset).toArray = ls at hl ⊢
  have hl : lv_has ls 4 [(0, .ref q_di), (1, .int a0), (2, .int a1), (3, .int a2)] := hl
  exact b_D_put_0 (y0 := a0) (y1 := a1) (y2 := a2) (y3 := vD) cx hK hA (lv_sub hl [0, 1, 2, 3] rfl) hP hD hS hf
def f_D_putInodeWord_0 (y0 : Int32) (y1 : Int32) (y2 : Int32) (y3 : Nat → Int32) : Option (Nat → Int32) :=
  (jv_sa y3 232 ((((1 : Int32) + y0) * (8 : Int32)) + y1) y2).bind fun F1 => some F1
set_option maxHeartbeats 4000000 in
set_option maxRecDepth 100000 in
theorem b_D_putInodeWord_0 {l : Launch} {dC : Nat → ClassId} {dI : Nat → Nat → Nat} {cI cA cL : ClassId} {q_di q_pl q_dr q_jo : Nat} {vjn : Int32} {vmk : Int32} {vwr : Int32} {vP : Nat → Int32} {vJ : Nat → Int32} {p : Program} {e : Env} {s : State} {m : MethodId} {args : Array Value} {below : List Frame} {meth : Method} {c : Code} (cx : jv_cx p s m args meth c cc_D_putInodeWord 4 R_Disk none ws_D_putInodeWord) (hK : va_K (dC, dI) vwCl (jv_ty cI cA cL) s) {A : Nat → Prop} (hA : ∀ q : Nat, s.heap.size ≤ q → A q) {r : Nat → Int32} {y0 : Int32} {y1 : Int32} {y2 : Int32} {y3 : Nat → Int32} {ls : Array Slot} (hl : lv_has ls 4 [(0, .ref q_di), (1, .int y0), (2, .int y1), (3, .int y2)]) {H : Heap} {locs : List Loc} (hP : va_P (dC, dI) vwCl (w_disk cI q_di q_pl q_dr q_jo vjn vmk vwr vP y3 vJ) H) (hD : va_D A (w_disk cI q_di q_pl q_dr q_jo vjn vmk vwr vP y3 vJ)) (hS : va_S A s.heap H locs) (hf : f_D_putInodeWord_0 y0 y1 y2 y3 = some r) : W p l e rm_D_putInodeWord s m args below meth c H locs 0 0 (MQ below (jv_Qv (dC, dI) (w_disk cI q_di q_pl q_dr q_jo vjn vmk vwr vP r vJ) A) args s 0 0 A) (F0 m 0 ls []) := by
  unfold f_D_putInodeWord_0 at hf
  obtain ⟨hx, hb, hml, hown, hts, hr, hlocks⟩ := id cx
  refine lv_aload_n hx hb d_D_putInodeWord_0 rfl (lv_at hl 0 rfl) ?_
  refine va_get (D := (dC, dI)) (ci := kDisk) (v := .ref q_dr) (C := R_Disk) (T := T_Disk) (N := 6) hx hb hts (fun w h => List.mem_cons_of_mem _ (in_Disk w h)) hown hK hP 0 rfl rfl 1 (by decide) (jv_w hts wa_22) (fun _ h9 => h9) rfl d_D_putInodeWord_1 ?_
  refine lv_iconst (v := (1 : Int32)) hx hb d_D_putInodeWord_4 (by decide) ?_
  refine lv_iload_n hx hb d_D_putInodeWord_5 rfl (lv_at hl 1 rfl) ?_
  refine lv_iadd hx hb d_D_putInodeWord_6 ?_
  refine lv_bipush (v := (8 : Int32)) hx hb d_D_putInodeWord_7 (by decide) ?_
  refine lv_imul hx hb d_D_putInodeWord_9 ?_
  refine lv_iload_n hx hb d_D_putInodeWord_10 rfl (lv_at hl 2 rfl) ?_
  refine lv_iadd hx hb d_D_putInodeWord_11 ?_
  refine lv_iload_n hx hb d_D_putInodeWord_12 rfl (lv_at hl 3 rfl) ?_
  obtain ⟨F1, g2, hf⟩ := jv_ob hf
  refine jv_iast hx hb hK hP hD hS 2 0 rfl rfl g2 d_D_putInodeWord_13 (fun H locs hP hD hS => ?_)
  have hP : va_P (dC, dI) vwCl (w_disk cI q_di q_pl q_dr q_jo vjn vmk vwr vP F1 vJ) H := hP
  have hD : va_D A (w_disk cI q_di q_pl q_dr q_jo vjn vmk vwr vP F1 vJ) := hD
  obtain rfl := Option.some.inj hf
  exact W.vret hx hb hr (fun t ht hW => ⟨rfl, by rw [ht]; exact hP, hD, hS.F ht⟩) hS.2.2 d_D_putInodeWord_14
def f_D_putInodeWord (a0 : Int32) (a1 : Int32) (a2 : Int32) (vD : Nat → Int32) : Option (Nat → Int32) := f_D_putInodeWord_0 a0 a1 a2 vD
set_option maxHeartbeats 4000000 in
set_option maxRecDepth 100000 in
theorem c_D_putInodeWord (l : Launch) (dC : Nat → ClassId) (dI : Nat → Nat → Nat) (cI cA cL : ClassId) (q_di q_pl q_dr q_jo : Nat) (vjn : Int32) (vmk : Int32) (vwr : Int32) (vP : Nat → Int32) (vD : Nat → Int32) (vJ : Nat → Int32) (a0 : Int32) (a1 : Int32) (a2 : Int32) (sz : Nat) (r : Nat → Int32) (hf : f_D_putInodeWord a0 a1 a2 vD = some r) : Met l y_D_putInodeWord ws_D_putInodeWord rm_D_putInodeWord (jv_Pw [.ref q_di, .int a0, .int a1, .int a2] (dC, dI) (jv_ty cI cA cL) (w_disk cI q_di q_pl q_dr q_jo vjn vmk vwr vP vD vJ) sz) (jv_Qv (dC, dI) (w_disk cI q_di q_pl q_dr q_jo vjn vmk vwr vP r vJ) (va_A (w_disk cI q_di q_pl q_dr q_jo vjn vmk vwr vP vD vJ) sz)) 0 0 (va_A (w_disk cI q_di q_pl q_dr q_jo vjn vmk vwr vP vD vJ) sz) := by
  refine Met.ofW (cc := cc_D_putInodeWord) (maxL := 4) (ret := none) (by decide) rfl ?_
  intro p e s m args below meth c s₁ B hml hv
  obtain ⟨rfl, hsz, hP, hK, hD0⟩ := hv
  have cx : jv_cx p s m _ meth c cc_D_putInodeWord 4 R_Disk none ws_D_putInodeWord := ⟨B.exec, B.bytes, hml, findClass_of_methodNamed B.named, atoms_spec (ws := ws_D_putInodeWord) B.pre, B.returns, B.notSynchronized⟩
  subst hsz
  have hD := hD0.self (sz := s.heap.size)
  generalize hAe : va_A (w_disk cI q_di q_pl q_dr q_jo vjn vmk vwr vP vD vJ) s.heap.size = A at hD ⊢
  have hA : ∀ q : Nat, s.heap.size ≤ q → A q := fun q h => by rw [← hAe]; exact Or.inr h
  have hS : va_S A s.heap s.heap [] := va_S.rf
  have hl := lv_entry ([.ref q_di, .int a0, .int a1, .int a2]) (n := 4) (Nat.le_of_ble_eq_true rfl)
  rw [lg_entry_eq]
  generalize (lg_sl ([.ref q_di, .int a0, .int a1, .int a2]) ++ List.replicate (4 - (lg_sl ([.ref q_di, .int a0, .int a1, .int a2])).length) Slot.unset).toArray = ls at hl ⊢
  have hl : lv_has ls 4 [(0, .ref q_di), (1, .int a0), (2, .int a1), (3, .int a2)] := hl
  exact b_D_putInodeWord_0 (y0 := a0) (y1 := a1) (y2 := a2) (y3 := vD) cx hK hA (lv_sub hl [0, 1, 2, 3] rfl) hP hD hS hf
def f_D_zeroFrom_2 (y0 : Int32) (k2 : (Int32 × (Nat → Int32)) → Option (Nat → Int32)) (a : Int32 × (Nat → Int32)) : Option (Nat → Int32) :=
  if (8 : Int32) ≤ a.1 then (some a.2) else ((jv_sa a.2 232 ((y0 * (8 : Int32)) + a.1) (0 : Int32)).bind fun F1 => k2 (a.1 + (1 : Int32), F1))
set_option maxHeartbeats 4000000 in
set_option maxRecDepth 100000 in
theorem b_D_zeroFrom_2 {l : Launch} {dC : Nat → ClassId} {dI : Nat → Nat → Nat} {cI cA cL : ClassId} {q_di q_pl q_dr q_jo : Nat} {vjn : Int32} {vmk : Int32} {vwr : Int32} {vP : Nat → Int32} {vJ : Nat → Int32} {p : Program} {e : Env} {s : State} {m : MethodId} {args : Array Value} {below : List Frame} {meth : Method} {c : Code} (cx : jv_cx p s m args meth c cc_D_zeroFrom 4 R_Disk none ws_D_zeroFrom) (hK : va_K (dC, dI) vwCl (jv_ty cI cA cL) s) {A : Nat → Prop} (hA : ∀ q : Nat, s.heap.size ≤ q → A q) {r : Nat → Int32} {y0 : Int32} {k2 : (Int32 × (Nat → Int32)) → Option (Nat → Int32)} (hk2 : ∀ (a : Int32 × (Nat → Int32)) (ls : Array Slot) (H : Heap) (locs : List Loc), lv_has ls 4 [(0, .ref q_di), (1, .int y0), (3, .int a.1)] → va_P (dC, dI) vwCl (w_disk cI q_di q_pl q_dr q_jo vjn vmk vwr vP a.2 vJ) H → va_D A (w_disk cI q_di q_pl q_dr q_jo vjn vmk vwr vP a.2 vJ) → va_S A s.heap H locs → k2 a = some r → W p l e rm_D_zeroFrom s m args below meth c H locs 0 0 (MQ below (jv_Qv (dC, dI) (w_disk cI q_di q_pl q_dr q_jo vjn vmk vwr vP r vJ) A) args s 0 0 A) (F0 m 2 ls [])) {a : Int32 × (Nat → Int32)} {ls : Array Slot} (hl : lv_has ls 4 [(0, .ref q_di), (1, .int y0), (3, .int a.1)]) {H : Heap} {locs : List Loc} (hP : va_P (dC, dI) vwCl (w_disk cI q_di q_pl q_dr q_jo vjn vmk vwr vP a.2 vJ) H) (hD : va_D A (w_disk cI q_di q_pl q_dr q_jo vjn vmk vwr vP a.2 vJ)) (hS : va_S A s.heap H locs) (hf : f_D_zeroFrom_2 y0 k2 a = some r) : W p l e rm_D_zeroFrom s m args below meth c H locs 0 0 (MQ below (jv_Qv (dC, dI) (w_disk cI q_di q_pl q_dr q_jo vjn vmk vwr vP r vJ) A) args s 0 0 A) (F0 m 2 ls []) := by
  unfold f_D_zeroFrom_2 at hf
  obtain ⟨hx, hb, hml, hown, hts, hr, hlocks⟩ := id cx
  refine lv_iload_n hx hb d_D_zeroFrom_2 rfl (lv_at hl 2 rfl) ?_
  refine lv_bipush (v := (8 : Int32)) hx hb d_D_zeroFrom_3 (by decide) ?_
  refine lv_icmp_ge (tgt := 26) hx hb d_D_zeroFrom_5 (by decide) (fun hc => ?_) (fun hc => ?_)
  · have hf := jv_it hf hc
    obtain rfl := Option.some.inj hf
    exact W.vret hx hb hr (fun t ht hW => ⟨rfl, by rw [ht]; exact hP, hD, hS.F ht⟩) hS.2.2 d_D_zeroFrom_26
  · have hf := jv_if hf hc
    refine lv_aload_n hx hb d_D_zeroFrom_8 rfl (lv_at hl 0 rfl) ?_
    refine va_get (D := (dC, dI)) (ci := kDisk) (v := .ref q_dr) (C := R_Disk) (T := T_Disk) (N := 6) hx hb hts (fun w h => List.mem_cons_of_mem _ (in_Disk w h)) hown hK hP 0 rfl rfl 1 (by decide) (jv_w hts wa_22) (fun _ h9 => h9) rfl d_D_zeroFrom_9 ?_
    refine lv_iload_n hx hb d_D_zeroFrom_12 rfl (lv_at hl 1 rfl) ?_
    refine lv_bipush (v := (8 : Int32)) hx hb d_D_zeroFrom_13 (by decide) ?_
    refine lv_imul hx hb d_D_zeroFrom_15 ?_
    refine lv_iload_n hx hb d_D_zeroFrom_16 rfl (lv_at hl 2 rfl) ?_
    refine lv_iadd hx hb d_D_zeroFrom_17 ?_
    refine lv_iconst (v := (0 : Int32)) hx hb d_D_zeroFrom_18 (by decide) ?_
    obtain ⟨F1, g2, hf⟩ := jv_ob hf
    refine jv_iast hx hb hK hP hD hS 2 0 rfl rfl g2 d_D_zeroFrom_19 (fun H locs hP hD hS => ?_)
    have hP : va_P (dC, dI) vwCl (w_disk cI q_di q_pl q_dr q_jo vjn vmk vwr vP F1 vJ) H := hP
    have hD : va_D A (w_disk cI q_di q_pl q_dr q_jo vjn vmk vwr vP F1 vJ) := hD
    refine lv_iinc (k := 2) (v := a.1 + (1 : Int32)) (lv' := [(3, .int (a.1 + (1 : Int32))), (0, .ref q_di), (1, .int y0)]) hx hb d_D_zeroFrom_20 hl rfl rfl (by decide) rfl (fun ls hl => ?_)
    refine lv_goto (tgt := 2) hx hb d_D_zeroFrom_23 (by decide) ?_
    exact hk2 (a.1 + (1 : Int32), F1) _ _ _ (lv_sub hl [1, 2, 0] rfl) hP hD hS hf
set_option maxHeartbeats 4000000 in
set_option maxRecDepth 100000 in
theorem l_D_zeroFrom_2 {l : Launch} {dC : Nat → ClassId} {dI : Nat → Nat → Nat} {cI cA cL : ClassId} {q_di q_pl q_dr q_jo : Nat} {vjn : Int32} {vmk : Int32} {vwr : Int32} {vP : Nat → Int32} {vJ : Nat → Int32} {p : Program} {e : Env} {s : State} {m : MethodId} {args : Array Value} {below : List Frame} {meth : Method} {c : Code} (cx : jv_cx p s m args meth c cc_D_zeroFrom 4 R_Disk none ws_D_zeroFrom) (hK : va_K (dC, dI) vwCl (jv_ty cI cA cL) s) {A : Nat → Prop} (hA : ∀ q : Nat, s.heap.size ≤ q → A q) {r : Nat → Int32} {y0 : Int32} : ∀ n : Nat, ∀ (a : Int32 × (Nat → Int32)) (ls : Array Slot) (H : Heap) (locs : List Loc), lv_has ls 4 [(0, .ref q_di), (1, .int y0), (3, .int a.1)] → va_P (dC, dI) vwCl (w_disk cI q_di q_pl q_dr q_jo vjn vmk vwr vP a.2 vJ) H → va_D A (w_disk cI q_di q_pl q_dr q_jo vjn vmk vwr vP a.2 vJ) → va_S A s.heap H locs → jv_fx (f_D_zeroFrom_2 y0) n a = some r → W p l e rm_D_zeroFrom s m args below meth c H locs 0 0 (MQ below (jv_Qv (dC, dI) (w_disk cI q_di q_pl q_dr q_jo vjn vmk vwr vP r vJ) A) args s 0 0 A) (F0 m 2 ls []) := by
  intro n
  induction n with
  | zero => intro a ls H locs hl hP hD hS hf; exact jv_no hf
  | succ n ih => intro a ls H locs hl hP hD hS hf; exact b_D_zeroFrom_2 cx hK hA ih hl hP hD hS hf
def f_D_zeroFrom_0 (y0 : Int32) (y1 : Int32) (y2 : Nat → Int32) : Option (Nat → Int32) :=
  jv_fx (f_D_zeroFrom_2 y0) 300 (y1, y2)
set_option maxHeartbeats 4000000 in
set_option maxRecDepth 100000 in
theorem b_D_zeroFrom_0 {l : Launch} {dC : Nat → ClassId} {dI : Nat → Nat → Nat} {cI cA cL : ClassId} {q_di q_pl q_dr q_jo : Nat} {vjn : Int32} {vmk : Int32} {vwr : Int32} {vP : Nat → Int32} {vJ : Nat → Int32} {p : Program} {e : Env} {s : State} {m : MethodId} {args : Array Value} {below : List Frame} {meth : Method} {c : Code} (cx : jv_cx p s m args meth c cc_D_zeroFrom 4 R_Disk none ws_D_zeroFrom) (hK : va_K (dC, dI) vwCl (jv_ty cI cA cL) s) {A : Nat → Prop} (hA : ∀ q : Nat, s.heap.size ≤ q → A q) {r : Nat → Int32} {y0 : Int32} {y1 : Int32} {y2 : Nat → Int32} {ls : Array Slot} (hl : lv_has ls 4 [(0, .ref q_di), (1, .int y0), (2, .int y1)]) {H : Heap} {locs : List Loc} (hP : va_P (dC, dI) vwCl (w_disk cI q_di q_pl q_dr q_jo vjn vmk vwr vP y2 vJ) H) (hD : va_D A (w_disk cI q_di q_pl q_dr q_jo vjn vmk vwr vP y2 vJ)) (hS : va_S A s.heap H locs) (hf : f_D_zeroFrom_0 y0 y1 y2 = some r) : W p l e rm_D_zeroFrom s m args below meth c H locs 0 0 (MQ below (jv_Qv (dC, dI) (w_disk cI q_di q_pl q_dr q_jo vjn vmk vwr vP r vJ) A) args s 0 0 A) (F0 m 0 ls []) := by
  unfold f_D_zeroFrom_0 at hf
  obtain ⟨hx, hb, hml, hown, hts, hr, hlocks⟩ := id cx
  refine lv_iload_n hx hb d_D_zeroFrom_0 rfl (lv_at hl 2 rfl) ?_
  refine lv_istore_n (lv' := [(3, .int y1), (0, .ref q_di), (1, .int y0), (2, .int y1)]) hx hb d_D_zeroFrom_1 rfl hl (by decide) rfl (fun ls hl => ?_)
  exact l_D_zeroFrom_2 (y0 := y0) cx hK hA 300 (y1, y2) _ _ _ (lv_sub hl [1, 2, 0] rfl) hP hD hS hf
def f_D_zeroFrom (a0 : Int32) (a1 : Int32) (vD : Nat → Int32) : Option (Nat → Int32) := f_D_zeroFrom_0 a0 a1 vD
set_option maxHeartbeats 4000000 in
set_option maxRecDepth 100000 in
theorem c_D_zeroFrom (l : Launch) (dC : Nat → ClassId) (dI : Nat → Nat → Nat) (cI cA cL : ClassId) (q_di q_pl q_dr q_jo : Nat) (vjn : Int32) (vmk : Int32) (vwr : Int32) (vP : Nat → Int32) (vD : Nat → Int32) (vJ : Nat → Int32) (a0 : Int32) (a1 : Int32) (sz : Nat) (r : Nat → Int32) (hf : f_D_zeroFrom a0 a1 vD = some r) : Met l y_D_zeroFrom ws_D_zeroFrom rm_D_zeroFrom (jv_Pw [.ref q_di, .int a0, .int a1] (dC, dI) (jv_ty cI cA cL) (w_disk cI q_di q_pl q_dr q_jo vjn vmk vwr vP vD vJ) sz) (jv_Qv (dC, dI) (w_disk cI q_di q_pl q_dr q_jo vjn vmk vwr vP r vJ) (va_A (w_disk cI q_di q_pl q_dr q_jo vjn vmk vwr vP vD vJ) sz)) 0 0 (va_A (w_disk cI q_di q_pl q_dr q_jo vjn vmk vwr vP vD vJ) sz) := by
  refine Met.ofW (cc := cc_D_zeroFrom) (maxL := 4) (ret := none) (by decide) rfl ?_
  intro p e s m args below meth c s₁ B hml hv
  obtain ⟨rfl, hsz, hP, hK, hD0⟩ := hv
  have cx : jv_cx p s m _ meth c cc_D_zeroFrom 4 R_Disk none ws_D_zeroFrom := ⟨B.exec, B.bytes, hml, findClass_of_methodNamed B.named, atoms_spec (ws := ws_D_zeroFrom) B.pre, B.returns, B.notSynchronized⟩
  subst hsz
  have hD := hD0.self (sz := s.heap.size)
  generalize hAe : va_A (w_disk cI q_di q_pl q_dr q_jo vjn vmk vwr vP vD vJ) s.heap.size = A at hD ⊢
  have hA : ∀ q : Nat, s.heap.size ≤ q → A q := fun q h => by rw [← hAe]; exact Or.inr h
  have hS : va_S A s.heap s.heap [] := va_S.rf
  have hl := lv_entry ([.ref q_di, .int a0, .int a1]) (n := 4) (Nat.le_of_ble_eq_true rfl)
  rw [lg_entry_eq]
  generalize (lg_sl ([.ref q_di, .int a0, .int a1]) ++ List.replicate (4 - (lg_sl ([.ref q_di, .int a0, .int a1])).length) Slot.unset).toArray = ls at hl ⊢
  have hl : lv_has ls 4 [(0, .ref q_di), (1, .int a0), (2, .int a1)] := hl
  exact b_D_zeroFrom_0 (y0 := a0) (y1 := a1) (y2 := vD) cx hK hA (lv_sub hl [0, 1, 2] rfl) hP hD hS hf
end
