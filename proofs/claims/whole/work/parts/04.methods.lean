abbrev cc_L_isLabel : ByteArray := prog_6_method_2_code
def y_L_isLabel : MethodName := ⟨R_Labels, "isLabel", "(I)Z"⟩
abbrev ws_L_isLabel : List Cond := .code y_L_isLabel cc_L_isLabel 1 (some .boolean) :: jv_LT
abbrev rm_L_isLabel : Room := { frames := 0, cells := 0, slots := 0, locals := 0 }
theorem yd_L_isLabel : y_L_isLabel.cls ≠ "java/lang/invoke/MethodHandle" ∧ y_L_isLabel.cls ≠ "java/lang/invoke/VarHandle" ∧ (parseMethodDescriptor y_L_isLabel.desc).map (fun d => d.parameters.length) = some 1 := ⟨by decide +kernel, by decide +kernel, by decide +kernel⟩
abbrev cc_L_isSecrecyWithin : ByteArray := prog_6_method_5_code
def y_L_isSecrecyWithin : MethodName := ⟨R_Labels, "isSecrecyWithin", "(II)Z"⟩
abbrev ws_L_isSecrecyWithin : List Cond := .code y_L_isSecrecyWithin cc_L_isSecrecyWithin 2 (some .boolean) :: jv_LT
abbrev rm_L_isSecrecyWithin : Room := { frames := 0, cells := 0, slots := 0, locals := 0 }
theorem yd_L_isSecrecyWithin : y_L_isSecrecyWithin.cls ≠ "java/lang/invoke/MethodHandle" ∧ y_L_isSecrecyWithin.cls ≠ "java/lang/invoke/VarHandle" ∧ (parseMethodDescriptor y_L_isSecrecyWithin.desc).map (fun d => d.parameters.length) = some 2 := ⟨by decide +kernel, by decide +kernel, by decide +kernel⟩
abbrev cc_L_isIntegrityWithin : ByteArray := prog_6_method_6_code
def y_L_isIntegrityWithin : MethodName := ⟨R_Labels, "isIntegrityWithin", "(II)Z"⟩
abbrev ws_L_isIntegrityWithin : List Cond := .code y_L_isIntegrityWithin cc_L_isIntegrityWithin 2 (some .boolean) :: jv_LT
abbrev rm_L_isIntegrityWithin : Room := { frames := 0, cells := 0, slots := 0, locals := 0 }
theorem yd_L_isIntegrityWithin : y_L_isIntegrityWithin.cls ≠ "java/lang/invoke/MethodHandle" ∧ y_L_isIntegrityWithin.cls ≠ "java/lang/invoke/VarHandle" ∧ (parseMethodDescriptor y_L_isIntegrityWithin.desc).map (fun d => d.parameters.length) = some 2 := ⟨by decide +kernel, by decide +kernel, by decide +kernel⟩
abbrev cc_L_mayFlow : ByteArray := prog_6_method_3_code
def y_L_mayFlow : MethodName := ⟨R_Labels, "mayFlow", "(II)Z"⟩
abbrev ws_L_mayFlow : List Cond := .code y_L_mayFlow cc_L_mayFlow 2 (some .boolean) :: jv_LT
abbrev rm_L_mayFlow : Room := { frames := 1, cells := 0, slots := 0, locals := 21 }
theorem yd_L_mayFlow : y_L_mayFlow.cls ≠ "java/lang/invoke/MethodHandle" ∧ y_L_mayFlow.cls ≠ "java/lang/invoke/VarHandle" ∧ (parseMethodDescriptor y_L_mayFlow.desc).map (fun d => d.parameters.length) = some 2 := ⟨by decide +kernel, by decide +kernel, by decide +kernel⟩
abbrev cc_L_isWithin : ByteArray := prog_6_method_4_code
def y_L_isWithin : MethodName := ⟨R_Labels, "isWithin", "(II)Z"⟩
abbrev ws_L_isWithin : List Cond := .code y_L_isWithin cc_L_isWithin 2 (some .boolean) :: jv_LT
abbrev rm_L_isWithin : Room := { frames := 1, cells := 0, slots := 0, locals := 21 }
theorem yd_L_isWithin : y_L_isWithin.cls ≠ "java/lang/invoke/MethodHandle" ∧ y_L_isWithin.cls ≠ "java/lang/invoke/VarHandle" ∧ (parseMethodDescriptor y_L_isWithin.desc).map (fun d => d.parameters.length) = some 2 := ⟨by decide +kernel, by decide +kernel, by decide +kernel⟩
abbrev cc_P_lastName : ByteArray := prog_7_method_5_code
def y_P_lastName : MethodName := ⟨R_Paths, "lastName", "(I)I"⟩
abbrev ws_P_lastName : List Cond := .code y_P_lastName cc_P_lastName 1 (some .int) :: jv_LT
abbrev rm_P_lastName : Room := { frames := 0, cells := 0, slots := 0, locals := 0 }
theorem yd_P_lastName : y_P_lastName.cls ≠ "java/lang/invoke/MethodHandle" ∧ y_P_lastName.cls ≠ "java/lang/invoke/VarHandle" ∧ (parseMethodDescriptor y_P_lastName.desc).map (fun d => d.parameters.length) = some 1 := ⟨by decide +kernel, by decide +kernel, by decide +kernel⟩
abbrev cc_P_parentOf : ByteArray := prog_7_method_4_code
def y_P_parentOf : MethodName := ⟨R_Paths, "parentOf", "(I)I"⟩
abbrev ws_P_parentOf : List Cond := .code y_P_parentOf cc_P_parentOf 1 (some .int) :: jv_LT
abbrev rm_P_parentOf : Room := { frames := 0, cells := 0, slots := 0, locals := 0 }
theorem yd_P_parentOf : y_P_parentOf.cls ≠ "java/lang/invoke/MethodHandle" ∧ y_P_parentOf.cls ≠ "java/lang/invoke/VarHandle" ∧ (parseMethodDescriptor y_P_parentOf.desc).map (fun d => d.parameters.length) = some 1 := ⟨by decide +kernel, by decide +kernel, by decide +kernel⟩
abbrev cc_P_without : ByteArray := prog_7_method_7_code
def y_P_without : MethodName := ⟨R_Paths, "without", "(II)I"⟩
abbrev ws_P_without : List Cond := .code y_P_without cc_P_without 2 (some .int) :: jv_LT
abbrev rm_P_without : Room := { frames := 0, cells := 0, slots := 0, locals := 0 }
theorem yd_P_without : y_P_without.cls ≠ "java/lang/invoke/MethodHandle" ∧ y_P_without.cls ≠ "java/lang/invoke/VarHandle" ∧ (parseMethodDescriptor y_P_without.desc).map (fun d => d.parameters.length) = some 2 := ⟨by decide +kernel, by decide +kernel, by decide +kernel⟩
abbrev cc_P_isPath : ByteArray := prog_7_method_2_code
def y_P_isPath : MethodName := ⟨R_Paths, "isPath", "(I)Z"⟩
abbrev ws_P_isPath : List Cond := .code y_P_isPath cc_P_isPath 4 (some .boolean) :: jv_LT
abbrev rm_P_isPath : Room := { frames := 1, cells := 0, slots := 0, locals := 20 }
theorem yd_P_isPath : y_P_isPath.cls ≠ "java/lang/invoke/MethodHandle" ∧ y_P_isPath.cls ≠ "java/lang/invoke/VarHandle" ∧ (parseMethodDescriptor y_P_isPath.desc).map (fun d => d.parameters.length) = some 1 := ⟨by decide +kernel, by decide +kernel, by decide +kernel⟩
abbrev cc_P_isBelowRoot : ByteArray := prog_7_method_3_code
def y_P_isBelowRoot : MethodName := ⟨R_Paths, "isBelowRoot", "(I)Z"⟩
abbrev ws_P_isBelowRoot : List Cond := .code y_P_isBelowRoot cc_P_isBelowRoot 1 (some .boolean) :: jv_LT
abbrev rm_P_isBelowRoot : Room := { frames := 2, cells := 0, slots := 0, locals := 43 }
theorem yd_P_isBelowRoot : y_P_isBelowRoot.cls ≠ "java/lang/invoke/MethodHandle" ∧ y_P_isBelowRoot.cls ≠ "java/lang/invoke/VarHandle" ∧ (parseMethodDescriptor y_P_isBelowRoot.desc).map (fun d => d.parameters.length) = some 1 := ⟨by decide +kernel, by decide +kernel, by decide +kernel⟩
abbrev cc_P_lengthOf : ByteArray := prog_7_method_6_code
def y_P_lengthOf : MethodName := ⟨R_Paths, "lengthOf", "(I)I"⟩
abbrev ws_P_lengthOf : List Cond := .code y_P_lengthOf cc_P_lengthOf 3 (some .int) :: jv_LT
abbrev rm_P_lengthOf : Room := { frames := 1, cells := 0, slots := 0, locals := 21 }
theorem yd_P_lengthOf : y_P_lengthOf.cls ≠ "java/lang/invoke/MethodHandle" ∧ y_P_lengthOf.cls ≠ "java/lang/invoke/VarHandle" ∧ (parseMethodDescriptor y_P_lengthOf.desc).map (fun d => d.parameters.length) = some 1 := ⟨by decide +kernel, by decide +kernel, by decide +kernel⟩
abbrev cc_P_startsWith : ByteArray := prog_7_method_8_code
def y_P_startsWith : MethodName := ⟨R_Paths, "startsWith", "(II)Z"⟩
abbrev ws_P_startsWith : List Cond := .code y_P_startsWith cc_P_startsWith 3 (some .boolean) :: jv_LT
abbrev rm_P_startsWith : Room := { frames := 1, cells := 0, slots := 0, locals := 21 }
theorem yd_P_startsWith : y_P_startsWith.cls ≠ "java/lang/invoke/MethodHandle" ∧ y_P_startsWith.cls ≠ "java/lang/invoke/VarHandle" ∧ (parseMethodDescriptor y_P_startsWith.desc).map (fun d => d.parameters.length) = some 2 := ⟨by decide +kernel, by decide +kernel, by decide +kernel⟩
abbrev cc_Fu_letsPass : ByteArray := prog_5_method_2_code
def y_Fu_letsPass : MethodName := ⟨R_Fuse, "letsPass", "()Z"⟩
abbrev ws_Fu_letsPass : List Cond := .code y_Fu_letsPass cc_Fu_letsPass 1 (some .boolean) :: jv_LT
abbrev rm_Fu_letsPass : Room := { frames := 0, cells := 0, slots := 0, locals := 0 }
theorem yd_Fu_letsPass : y_Fu_letsPass.cls ≠ "java/lang/invoke/MethodHandle" ∧ y_Fu_letsPass.cls ≠ "java/lang/invoke/VarHandle" ∧ (parseMethodDescriptor y_Fu_letsPass.desc).map (fun d => d.parameters.length) = some 0 := ⟨by decide +kernel, by decide +kernel, by decide +kernel⟩
abbrev cc_D_wordInPlace : ByteArray := prog_4_method_2_code
def y_D_wordInPlace : MethodName := ⟨R_Disk, "wordInPlace", "(II)I"⟩
abbrev ws_D_wordInPlace : List Cond := .code y_D_wordInPlace cc_D_wordInPlace 3 (some .int) :: jv_LT
abbrev rm_D_wordInPlace : Room := { frames := 0, cells := 0, slots := 0, locals := 0 }
theorem yd_D_wordInPlace : y_D_wordInPlace.cls ≠ "java/lang/invoke/MethodHandle" ∧ y_D_wordInPlace.cls ≠ "java/lang/invoke/VarHandle" ∧ (parseMethodDescriptor y_D_wordInPlace.desc).map (fun d => d.parameters.length) = some 2 := ⟨by decide +kernel, by decide +kernel, by decide +kernel⟩
abbrev cc_D_get : ByteArray := prog_4_method_3_code
def y_D_get : MethodName := ⟨R_Disk, "get", "(II)I"⟩
abbrev ws_D_get : List Cond := .code y_D_get cc_D_get 3 (some .int) :: jv_LT
abbrev rm_D_get : Room := { frames := 0, cells := 0, slots := 0, locals := 0 }
theorem yd_D_get : y_D_get.cls ≠ "java/lang/invoke/MethodHandle" ∧ y_D_get.cls ≠ "java/lang/invoke/VarHandle" ∧ (parseMethodDescriptor y_D_get.desc).map (fun d => d.parameters.length) = some 2 := ⟨by decide +kernel, by decide +kernel, by decide +kernel⟩
abbrev cc_D_inodeWord : ByteArray := prog_4_method_5_code
def y_D_inodeWord : MethodName := ⟨R_Disk, "inodeWord", "(II)I"⟩
abbrev ws_D_inodeWord : List Cond := .code y_D_inodeWord cc_D_inodeWord 3 (some .int) :: jv_LT
abbrev rm_D_inodeWord : Room := { frames := 0, cells := 0, slots := 0, locals := 0 }
theorem yd_D_inodeWord : y_D_inodeWord.cls ≠ "java/lang/invoke/MethodHandle" ∧ y_D_inodeWord.cls ≠ "java/lang/invoke/VarHandle" ∧ (parseMethodDescriptor y_D_inodeWord.desc).map (fun d => d.parameters.length) = some 2 := ⟨by decide +kernel, by decide +kernel, by decide +kernel⟩
abbrev cc_D_put : ByteArray := prog_4_method_4_code
def y_D_put : MethodName := ⟨R_Disk, "put", "(III)V"⟩
abbrev ws_D_put : List Cond := .code y_D_put cc_D_put 4 none :: jv_LT
abbrev rm_D_put : Room := { frames := 0, cells := 0, slots := 0, locals := 0 }
theorem yd_D_put : y_D_put.cls ≠ "java/lang/invoke/MethodHandle" ∧ y_D_put.cls ≠ "java/lang/invoke/VarHandle" ∧ (parseMethodDescriptor y_D_put.desc).map (fun d => d.parameters.length) = some 3 := ⟨by decide +kernel, by decide +kernel, by decide +kernel⟩
abbrev cc_D_putInodeWord : ByteArray := prog_4_method_6_code
def y_D_putInodeWord : MethodName := ⟨R_Disk, "putInodeWord", "(III)V"⟩
abbrev ws_D_putInodeWord : List Cond := .code y_D_putInodeWord cc_D_putInodeWord 4 none :: jv_LT
abbrev rm_D_putInodeWord : Room := { frames := 0, cells := 0, slots := 0, locals := 0 }
theorem yd_D_putInodeWord : y_D_putInodeWord.cls ≠ "java/lang/invoke/MethodHandle" ∧ y_D_putInodeWord.cls ≠ "java/lang/invoke/VarHandle" ∧ (parseMethodDescriptor y_D_putInodeWord.desc).map (fun d => d.parameters.length) = some 3 := ⟨by decide +kernel, by decide +kernel, by decide +kernel⟩
abbrev cc_D_zeroFrom : ByteArray := prog_4_method_7_code
def y_D_zeroFrom : MethodName := ⟨R_Disk, "zeroFrom", "(II)V"⟩
abbrev ws_D_zeroFrom : List Cond := .code y_D_zeroFrom cc_D_zeroFrom 4 none :: jv_LT
abbrev rm_D_zeroFrom : Room := { frames := 0, cells := 0, slots := 0, locals := 0 }
theorem yd_D_zeroFrom : y_D_zeroFrom.cls ≠ "java/lang/invoke/MethodHandle" ∧ y_D_zeroFrom.cls ≠ "java/lang/invoke/VarHandle" ∧ (parseMethodDescriptor y_D_zeroFrom.desc).map (fun d => d.parameters.length) = some 2 := ⟨by decide +kernel, by decide +kernel, by decide +kernel⟩
abbrev cc_D_isIn : ByteArray := prog_4_method_16_code
def y_D_isIn : MethodName := ⟨R_Disk, "isIn", "(II)Z"⟩
abbrev ws_D_isIn : List Cond := .code y_D_isIn cc_D_isIn 2 (some .boolean) :: jv_LT
abbrev rm_D_isIn : Room := { frames := 0, cells := 0, slots := 0, locals := 0 }
theorem yd_D_isIn : y_D_isIn.cls ≠ "java/lang/invoke/MethodHandle" ∧ y_D_isIn.cls ≠ "java/lang/invoke/VarHandle" ∧ (parseMethodDescriptor y_D_isIn.desc).map (fun d => d.parameters.length) = some 2 := ⟨by decide +kernel, by decide +kernel, by decide +kernel⟩
abbrev cc_D_changedBlocks : ByteArray := prog_4_method_11_code
def y_D_changedBlocks : MethodName := ⟨R_Disk, "changedBlocks", "()I"⟩
abbrev ws_D_changedBlocks : List Cond := .code y_D_changedBlocks cc_D_changedBlocks 3 (some .int) :: jv_LT
abbrev rm_D_changedBlocks : Room := { frames := 0, cells := 0, slots := 0, locals := 0 }
theorem yd_D_changedBlocks : y_D_changedBlocks.cls ≠ "java/lang/invoke/MethodHandle" ∧ y_D_changedBlocks.cls ≠ "java/lang/invoke/VarHandle" ∧ (parseMethodDescriptor y_D_changedBlocks.desc).map (fun d => d.parameters.length) = some 0 := ⟨by decide +kernel, by decide +kernel, by decide +kernel⟩
abbrev cc_D_copyBlock : ByteArray := prog_4_method_17_code
def y_D_copyBlock : MethodName := ⟨R_Disk, "copyBlock", "([I[II)V"⟩
abbrev ws_D_copyBlock : List Cond := .code y_D_copyBlock cc_D_copyBlock 3 none :: jv_LT
abbrev rm_D_copyBlock : Room := { frames := 1, cells := 0, slots := 0, locals := 18 }
theorem yd_D_copyBlock : y_D_copyBlock.cls ≠ "java/lang/invoke/MethodHandle" ∧ y_D_copyBlock.cls ≠ "java/lang/invoke/VarHandle" ∧ (parseMethodDescriptor y_D_copyBlock.desc).map (fun d => d.parameters.length) = some 3 := ⟨by decide +kernel, by decide +kernel, by decide +kernel⟩
abbrev cc_D_dropDraft : ByteArray := prog_4_method_8_code
def y_D_dropDraft : MethodName := ⟨R_Disk, "dropDraft", "()V"⟩
abbrev ws_D_dropDraft : List Cond := .code y_D_dropDraft cc_D_dropDraft 1 none :: jv_LT
abbrev rm_D_dropDraft : Room := { frames := 1, cells := 0, slots := 0, locals := 18 }
theorem yd_D_dropDraft : y_D_dropDraft.cls ≠ "java/lang/invoke/MethodHandle" ∧ y_D_dropDraft.cls ≠ "java/lang/invoke/VarHandle" ∧ (parseMethodDescriptor y_D_dropDraft.desc).map (fun d => d.parameters.length) = some 0 := ⟨by decide +kernel, by decide +kernel, by decide +kernel⟩
abbrev cc_D_recover : ByteArray := prog_4_method_10_code
def y_D_recover : MethodName := ⟨R_Disk, "recover", "()V"⟩
abbrev ws_D_recover : List Cond := .code y_D_recover cc_D_recover 2 none :: jv_LT
abbrev rm_D_recover : Room := { frames := 2, cells := 0, slots := 0, locals := 40 }
theorem yd_D_recover : y_D_recover.cls ≠ "java/lang/invoke/MethodHandle" ∧ y_D_recover.cls ≠ "java/lang/invoke/VarHandle" ∧ (parseMethodDescriptor y_D_recover.desc).map (fun d => d.parameters.length) = some 0 := ⟨by decide +kernel, by decide +kernel, by decide +kernel⟩
abbrev cc_D_countWrite : ByteArray := prog_4_method_15_code
def y_D_countWrite : MethodName := ⟨R_Disk, "countWrite", "(LLabelVault$Fuse;)Z"⟩
abbrev ws_D_countWrite : List Cond := .code y_D_countWrite cc_D_countWrite 2 (some .boolean) :: jv_LT
abbrev rm_D_countWrite : Room := { frames := 1, cells := 0, slots := 0, locals := 20 }
theorem yd_D_countWrite : y_D_countWrite.cls ≠ "java/lang/invoke/MethodHandle" ∧ y_D_countWrite.cls ≠ "java/lang/invoke/VarHandle" ∧ (parseMethodDescriptor y_D_countWrite.desc).map (fun d => d.parameters.length) = some 1 := ⟨by decide +kernel, by decide +kernel, by decide +kernel⟩
abbrev cc_D_setMark : ByteArray := prog_4_method_14_code
def y_D_setMark : MethodName := ⟨R_Disk, "setMark", "(ZLLabelVault$Fuse;)Z"⟩
abbrev ws_D_setMark : List Cond := .code y_D_setMark cc_D_setMark 3 (some .boolean) :: jv_LT
abbrev rm_D_setMark : Room := { frames := 2, cells := 0, slots := 0, locals := 41 }
theorem yd_D_setMark : y_D_setMark.cls ≠ "java/lang/invoke/MethodHandle" ∧ y_D_setMark.cls ≠ "java/lang/invoke/VarHandle" ∧ (parseMethodDescriptor y_D_setMark.desc).map (fun d => d.parameters.length) = some 2 := ⟨by decide +kernel, by decide +kernel, by decide +kernel⟩
abbrev cc_D_fillJournal : ByteArray := prog_4_method_12_code
def y_D_fillJournal : MethodName := ⟨R_Disk, "fillJournal", "(ILLabelVault$Fuse;)Z"⟩
abbrev ws_D_fillJournal : List Cond := .code y_D_fillJournal cc_D_fillJournal 4 (some .boolean) :: jv_LT
abbrev rm_D_fillJournal : Room := { frames := 2, cells := 0, slots := 0, locals := 41 }
theorem yd_D_fillJournal : y_D_fillJournal.cls ≠ "java/lang/invoke/MethodHandle" ∧ y_D_fillJournal.cls ≠ "java/lang/invoke/VarHandle" ∧ (parseMethodDescriptor y_D_fillJournal.desc).map (fun d => d.parameters.length) = some 2 := ⟨by decide +kernel, by decide +kernel, by decide +kernel⟩
abbrev cc_D_fillPlaces : ByteArray := prog_4_method_13_code
def y_D_fillPlaces : MethodName := ⟨R_Disk, "fillPlaces", "(LLabelVault$Fuse;)Z"⟩
abbrev ws_D_fillPlaces : List Cond := .code y_D_fillPlaces cc_D_fillPlaces 3 (some .boolean) :: jv_LT
abbrev rm_D_fillPlaces : Room := { frames := 2, cells := 0, slots := 0, locals := 41 }
theorem yd_D_fillPlaces : y_D_fillPlaces.cls ≠ "java/lang/invoke/MethodHandle" ∧ y_D_fillPlaces.cls ≠ "java/lang/invoke/VarHandle" ∧ (parseMethodDescriptor y_D_fillPlaces.desc).map (fun d => d.parameters.length) = some 1 := ⟨by decide +kernel, by decide +kernel, by decide +kernel⟩
abbrev cc_D_commit : ByteArray := prog_4_method_9_code
def y_D_commit : MethodName := ⟨R_Disk, "commit", "(LLabelVault$Fuse;)Z"⟩
abbrev ws_D_commit : List Cond := .code y_D_commit cc_D_commit 3 (some .boolean) :: jv_LT
abbrev rm_D_commit : Room := { frames := 3, cells := 0, slots := 0, locals := 64 }
theorem yd_D_commit : y_D_commit.cls ≠ "java/lang/invoke/MethodHandle" ∧ y_D_commit.cls ≠ "java/lang/invoke/VarHandle" ∧ (parseMethodDescriptor y_D_commit.desc).map (fun d => d.parameters.length) = some 1 := ⟨by decide +kernel, by decide +kernel, by decide +kernel⟩
abbrev cc_T_kindOf : ByteArray := prog_8_method_2_code
def y_T_kindOf : MethodName := ⟨R_Tree, "kindOf", "(I)I"⟩
abbrev ws_T_kindOf : List Cond := .code y_T_kindOf cc_T_kindOf 2 (some .int) :: jv_LT
abbrev rm_T_kindOf : Room := { frames := 1, cells := 0, slots := 0, locals := 22 }
theorem yd_T_kindOf : y_T_kindOf.cls ≠ "java/lang/invoke/MethodHandle" ∧ y_T_kindOf.cls ≠ "java/lang/invoke/VarHandle" ∧ (parseMethodDescriptor y_T_kindOf.desc).map (fun d => d.parameters.length) = some 1 := ⟨by decide +kernel, by decide +kernel, by decide +kernel⟩
abbrev cc_T_parentOf : ByteArray := prog_8_method_3_code
def y_T_parentOf : MethodName := ⟨R_Tree, "parentOf", "(I)I"⟩
abbrev ws_T_parentOf : List Cond := .code y_T_parentOf cc_T_parentOf 2 (some .int) :: jv_LT
abbrev rm_T_parentOf : Room := { frames := 1, cells := 0, slots := 0, locals := 22 }
theorem yd_T_parentOf : y_T_parentOf.cls ≠ "java/lang/invoke/MethodHandle" ∧ y_T_parentOf.cls ≠ "java/lang/invoke/VarHandle" ∧ (parseMethodDescriptor y_T_parentOf.desc).map (fun d => d.parameters.length) = some 1 := ⟨by decide +kernel, by decide +kernel, by decide +kernel⟩
abbrev cc_T_nameOf : ByteArray := prog_8_method_4_code
def y_T_nameOf : MethodName := ⟨R_Tree, "nameOf", "(I)I"⟩
abbrev ws_T_nameOf : List Cond := .code y_T_nameOf cc_T_nameOf 2 (some .int) :: jv_LT
abbrev rm_T_nameOf : Room := { frames := 1, cells := 0, slots := 0, locals := 22 }
theorem yd_T_nameOf : y_T_nameOf.cls ≠ "java/lang/invoke/MethodHandle" ∧ y_T_nameOf.cls ≠ "java/lang/invoke/VarHandle" ∧ (parseMethodDescriptor y_T_nameOf.desc).map (fun d => d.parameters.length) = some 1 := ⟨by decide +kernel, by decide +kernel, by decide +kernel⟩
abbrev cc_T_childNamed : ByteArray := prog_8_method_15_code
def y_T_childNamed : MethodName := ⟨R_Tree, "childNamed", "(II)I"⟩
abbrev ws_T_childNamed : List Cond := .code y_T_childNamed cc_T_childNamed 4 (some .int) :: jv_LT
abbrev rm_T_childNamed : Room := { frames := 1, cells := 0, slots := 0, locals := 22 }
theorem yd_T_childNamed : y_T_childNamed.cls ≠ "java/lang/invoke/MethodHandle" ∧ y_T_childNamed.cls ≠ "java/lang/invoke/VarHandle" ∧ (parseMethodDescriptor y_T_childNamed.desc).map (fun d => d.parameters.length) = some 2 := ⟨by decide +kernel, by decide +kernel, by decide +kernel⟩
abbrev cc_T_find : ByteArray := prog_8_method_5_code
def y_T_find : MethodName := ⟨R_Tree, "find", "(I)I"⟩
abbrev ws_T_find : List Cond := .code y_T_find cc_T_find 4 (some .int) :: jv_LT
abbrev rm_T_find : Room := { frames := 2, cells := 0, slots := 0, locals := 45 }
theorem yd_T_find : y_T_find.cls ≠ "java/lang/invoke/MethodHandle" ∧ y_T_find.cls ≠ "java/lang/invoke/VarHandle" ∧ (parseMethodDescriptor y_T_find.desc).map (fun d => d.parameters.length) = some 1 := ⟨by decide +kernel, by decide +kernel, by decide +kernel⟩
abbrev cc_T_kindAt : ByteArray := prog_8_method_6_code
def y_T_kindAt : MethodName := ⟨R_Tree, "kindAt", "(I)I"⟩
abbrev ws_T_kindAt : List Cond := .code y_T_kindAt cc_T_kindAt 3 (some .int) :: jv_LT
abbrev rm_T_kindAt : Room := { frames := 3, cells := 0, slots := 0, locals := 68 }
theorem yd_T_kindAt : y_T_kindAt.cls ≠ "java/lang/invoke/MethodHandle" ∧ y_T_kindAt.cls ≠ "java/lang/invoke/VarHandle" ∧ (parseMethodDescriptor y_T_kindAt.desc).map (fun d => d.parameters.length) = some 1 := ⟨by decide +kernel, by decide +kernel, by decide +kernel⟩
abbrev cc_T_hasFileAbove : ByteArray := prog_8_method_7_code
def y_T_hasFileAbove : MethodName := ⟨R_Tree, "hasFileAbove", "(I)Z"⟩
abbrev ws_T_hasFileAbove : List Cond := .code y_T_hasFileAbove cc_T_hasFileAbove 3 (some .boolean) :: jv_LT
abbrev rm_T_hasFileAbove : Room := { frames := 4, cells := 0, slots := 0, locals := 90 }
theorem yd_T_hasFileAbove : y_T_hasFileAbove.cls ≠ "java/lang/invoke/MethodHandle" ∧ y_T_hasFileAbove.cls ≠ "java/lang/invoke/VarHandle" ∧ (parseMethodDescriptor y_T_hasFileAbove.desc).map (fun d => d.parameters.length) = some 1 := ⟨by decide +kernel, by decide +kernel, by decide +kernel⟩
abbrev cc_T_namesAt : ByteArray := prog_8_method_11_code
def y_T_namesAt : MethodName := ⟨R_Tree, "namesAt", "(I)I"⟩
abbrev ws_T_namesAt : List Cond := .code y_T_namesAt cc_T_namesAt 5 (some .int) :: jv_LT
abbrev rm_T_namesAt : Room := { frames := 3, cells := 0, slots := 0, locals := 68 }
theorem yd_T_namesAt : y_T_namesAt.cls ≠ "java/lang/invoke/MethodHandle" ∧ y_T_namesAt.cls ≠ "java/lang/invoke/VarHandle" ∧ (parseMethodDescriptor y_T_namesAt.desc).map (fun d => d.parameters.length) = some 1 := ⟨by decide +kernel, by decide +kernel, by decide +kernel⟩
abbrev cc_T_childrenOf : ByteArray := prog_8_method_12_code
def y_T_childrenOf : MethodName := ⟨R_Tree, "childrenOf", "(I)I"⟩
abbrev ws_T_childrenOf : List Cond := .code y_T_childrenOf cc_T_childrenOf 4 (some .int) :: jv_LT
abbrev rm_T_childrenOf : Room := { frames := 2, cells := 0, slots := 0, locals := 43 }
theorem yd_T_childrenOf : y_T_childrenOf.cls ≠ "java/lang/invoke/MethodHandle" ∧ y_T_childrenOf.cls ≠ "java/lang/invoke/VarHandle" ∧ (parseMethodDescriptor y_T_childrenOf.desc).map (fun d => d.parameters.length) = some 1 := ⟨by decide +kernel, by decide +kernel, by decide +kernel⟩
abbrev cc_T_heightOf : ByteArray := prog_8_method_13_code
def y_T_heightOf : MethodName := ⟨R_Tree, "heightOf", "(I)I"⟩
abbrev ws_T_heightOf : List Cond := .code y_T_heightOf cc_T_heightOf 5 (some .int) :: jv_LT
abbrev rm_T_heightOf : Room := { frames := 3, cells := 0, slots := 0, locals := 66 }
theorem yd_T_heightOf : y_T_heightOf.cls ≠ "java/lang/invoke/MethodHandle" ∧ y_T_heightOf.cls ≠ "java/lang/invoke/VarHandle" ∧ (parseMethodDescriptor y_T_heightOf.desc).map (fun d => d.parameters.length) = some 1 := ⟨by decide +kernel, by decide +kernel, by decide +kernel⟩
abbrev cc_T_countFree : ByteArray := prog_8_method_14_code
def y_T_countFree : MethodName := ⟨R_Tree, "countFree", "()I"⟩
abbrev ws_T_countFree : List Cond := .code y_T_countFree cc_T_countFree 3 (some .int) :: jv_LT
abbrev rm_T_countFree : Room := { frames := 2, cells := 0, slots := 0, locals := 43 }
theorem yd_T_countFree : y_T_countFree.cls ≠ "java/lang/invoke/MethodHandle" ∧ y_T_countFree.cls ≠ "java/lang/invoke/VarHandle" ∧ (parseMethodDescriptor y_T_countFree.desc).map (fun d => d.parameters.length) = some 0 := ⟨by decide +kernel, by decide +kernel, by decide +kernel⟩
abbrev cc_T_hang : ByteArray := prog_8_method_9_code
def y_T_hang : MethodName := ⟨R_Tree, "hang", "(III)V"⟩
abbrev ws_T_hang : List Cond := .code y_T_hang cc_T_hang 4 none :: jv_LT
abbrev rm_T_hang : Room := { frames := 1, cells := 0, slots := 0, locals := 23 }
theorem yd_T_hang : y_T_hang.cls ≠ "java/lang/invoke/MethodHandle" ∧ y_T_hang.cls ≠ "java/lang/invoke/VarHandle" ∧ (parseMethodDescriptor y_T_hang.desc).map (fun d => d.parameters.length) = some 3 := ⟨by decide +kernel, by decide +kernel, by decide +kernel⟩
abbrev cc_T_erase : ByteArray := prog_8_method_10_code
def y_T_erase : MethodName := ⟨R_Tree, "erase", "(I)V"⟩
abbrev ws_T_erase : List Cond := .code y_T_erase cc_T_erase 2 none :: jv_LT
abbrev rm_T_erase : Room := { frames := 1, cells := 0, slots := 0, locals := 23 }
theorem yd_T_erase : y_T_erase.cls ≠ "java/lang/invoke/MethodHandle" ∧ y_T_erase.cls ≠ "java/lang/invoke/VarHandle" ∧ (parseMethodDescriptor y_T_erase.desc).map (fun d => d.parameters.length) = some 1 := ⟨by decide +kernel, by decide +kernel, by decide +kernel⟩
abbrev cc_T_take : ByteArray := prog_8_method_16_code
def y_T_take : MethodName := ⟨R_Tree, "take", "(III)I"⟩
abbrev ws_T_take : List Cond := .code y_T_take cc_T_take 5 (some .int) :: jv_LT
abbrev rm_T_take : Room := { frames := 2, cells := 0, slots := 0, locals := 46 }
theorem yd_T_take : y_T_take.cls ≠ "java/lang/invoke/MethodHandle" ∧ y_T_take.cls ≠ "java/lang/invoke/VarHandle" ∧ (parseMethodDescriptor y_T_take.desc).map (fun d => d.parameters.length) = some 3 := ⟨by decide +kernel, by decide +kernel, by decide +kernel⟩
abbrev cc_T_create : ByteArray := prog_8_method_8_code
def y_T_create : MethodName := ⟨R_Tree, "create", "(II)I"⟩
abbrev ws_T_create : List Cond := .code y_T_create cc_T_create 7 (some .int) :: jv_LT
abbrev rm_T_create : Room := { frames := 3, cells := 0, slots := 0, locals := 70 }
theorem yd_T_create : y_T_create.cls ≠ "java/lang/invoke/MethodHandle" ∧ y_T_create.cls ≠ "java/lang/invoke/VarHandle" ∧ (parseMethodDescriptor y_T_create.desc).map (fun d => d.parameters.length) = some 2 := ⟨by decide +kernel, by decide +kernel, by decide +kernel⟩
abbrev cc_C_blockBehind : ByteArray := prog_3_method_8_code
def y_C_blockBehind : MethodName := ⟨R_Cont, "blockBehind", "(I)I"⟩
abbrev ws_C_blockBehind : List Cond := .code y_C_blockBehind cc_C_blockBehind 1 (some .int) :: jv_LT
abbrev rm_C_blockBehind : Room := { frames := 0, cells := 0, slots := 0, locals := 0 }
theorem yd_C_blockBehind : y_C_blockBehind.cls ≠ "java/lang/invoke/MethodHandle" ∧ y_C_blockBehind.cls ≠ "java/lang/invoke/VarHandle" ∧ (parseMethodDescriptor y_C_blockBehind.desc).map (fun d => d.parameters.length) = some 1 := ⟨by decide +kernel, by decide +kernel, by decide +kernel⟩
abbrev cc_C_wordInHolder : ByteArray := prog_3_method_10_code
def y_C_wordInHolder : MethodName := ⟨R_Cont, "wordInHolder", "(I)I"⟩
abbrev ws_C_wordInHolder : List Cond := .code y_C_wordInHolder cc_C_wordInHolder 1 (some .int) :: jv_LT
abbrev rm_C_wordInHolder : Room := { frames := 0, cells := 0, slots := 0, locals := 0 }
theorem yd_C_wordInHolder : y_C_wordInHolder.cls ≠ "java/lang/invoke/MethodHandle" ∧ y_C_wordInHolder.cls ≠ "java/lang/invoke/VarHandle" ∧ (parseMethodDescriptor y_C_wordInHolder.desc).map (fun d => d.parameters.length) = some 1 := ⟨by decide +kernel, by decide +kernel, by decide +kernel⟩
abbrev cc_C_sizeOf : ByteArray := prog_3_method_2_code
def y_C_sizeOf : MethodName := ⟨R_Cont, "sizeOf", "(I)I"⟩
abbrev ws_C_sizeOf : List Cond := .code y_C_sizeOf cc_C_sizeOf 2 (some .int) :: jv_LT
abbrev rm_C_sizeOf : Room := { frames := 1, cells := 0, slots := 0, locals := 22 }
theorem yd_C_sizeOf : y_C_sizeOf.cls ≠ "java/lang/invoke/MethodHandle" ∧ y_C_sizeOf.cls ≠ "java/lang/invoke/VarHandle" ∧ (parseMethodDescriptor y_C_sizeOf.desc).map (fun d => d.parameters.length) = some 1 := ⟨by decide +kernel, by decide +kernel, by decide +kernel⟩
abbrev cc_C_holderOf : ByteArray := prog_3_method_9_code
def y_C_holderOf : MethodName := ⟨R_Cont, "holderOf", "(II)I"⟩
abbrev ws_C_holderOf : List Cond := .code y_C_holderOf cc_C_holderOf 4 (some .int) :: jv_LT
abbrev rm_C_holderOf : Room := { frames := 1, cells := 0, slots := 0, locals := 22 }
theorem yd_C_holderOf : y_C_holderOf.cls ≠ "java/lang/invoke/MethodHandle" ∧ y_C_holderOf.cls ≠ "java/lang/invoke/VarHandle" ∧ (parseMethodDescriptor y_C_holderOf.desc).map (fun d => d.parameters.length) = some 2 := ⟨by decide +kernel, by decide +kernel, by decide +kernel⟩
abbrev cc_C_pointerTo : ByteArray := prog_3_method_11_code
def y_C_pointerTo : MethodName := ⟨R_Cont, "pointerTo", "(II)I"⟩
abbrev ws_C_pointerTo : List Cond := .code y_C_pointerTo cc_C_pointerTo 4 (some .int) :: jv_LT
abbrev rm_C_pointerTo : Room := { frames := 2, cells := 0, slots := 0, locals := 45 }
theorem yd_C_pointerTo : y_C_pointerTo.cls ≠ "java/lang/invoke/MethodHandle" ∧ y_C_pointerTo.cls ≠ "java/lang/invoke/VarHandle" ∧ (parseMethodDescriptor y_C_pointerTo.desc).map (fun d => d.parameters.length) = some 2 := ⟨by decide +kernel, by decide +kernel, by decide +kernel⟩
abbrev cc_C_wordOf : ByteArray := prog_3_method_3_code
def y_C_wordOf : MethodName := ⟨R_Cont, "wordOf", "(II)I"⟩
abbrev ws_C_wordOf : List Cond := .code y_C_wordOf cc_C_wordOf 4 (some .int) :: jv_LT
abbrev rm_C_wordOf : Room := { frames := 3, cells := 0, slots := 0, locals := 68 }
theorem yd_C_wordOf : y_C_wordOf.cls ≠ "java/lang/invoke/MethodHandle" ∧ y_C_wordOf.cls ≠ "java/lang/invoke/VarHandle" ∧ (parseMethodDescriptor y_C_wordOf.desc).map (fun d => d.parameters.length) = some 2 := ⟨by decide +kernel, by decide +kernel, by decide +kernel⟩
abbrev cc_C_isIndirectEmpty : ByteArray := prog_3_method_17_code
def y_C_isIndirectEmpty : MethodName := ⟨R_Cont, "isIndirectEmpty", "(I)Z"⟩
abbrev ws_C_isIndirectEmpty : List Cond := .code y_C_isIndirectEmpty cc_C_isIndirectEmpty 4 (some .boolean) :: jv_LT
abbrev rm_C_isIndirectEmpty : Room := { frames := 1, cells := 0, slots := 0, locals := 22 }
theorem yd_C_isIndirectEmpty : y_C_isIndirectEmpty.cls ≠ "java/lang/invoke/MethodHandle" ∧ y_C_isIndirectEmpty.cls ≠ "java/lang/invoke/VarHandle" ∧ (parseMethodDescriptor y_C_isIndirectEmpty.desc).map (fun d => d.parameters.length) = some 1 := ⟨by decide +kernel, by decide +kernel, by decide +kernel⟩
abbrev cc_C_takePointer : ByteArray := prog_3_method_14_code
def y_C_takePointer : MethodName := ⟨R_Cont, "takePointer", "()I"⟩
abbrev ws_C_takePointer : List Cond := .code y_C_takePointer cc_C_takePointer 3 (some .int) :: jv_LT
abbrev rm_C_takePointer : Room := { frames := 1, cells := 0, slots := 0, locals := 23 }
theorem yd_C_takePointer : y_C_takePointer.cls ≠ "java/lang/invoke/MethodHandle" ∧ y_C_takePointer.cls ≠ "java/lang/invoke/VarHandle" ∧ (parseMethodDescriptor y_C_takePointer.desc).map (fun d => d.parameters.length) = some 0 := ⟨by decide +kernel, by decide +kernel, by decide +kernel⟩
abbrev cc_C_takeBehind : ByteArray := prog_3_method_13_code
def y_C_takeBehind : MethodName := ⟨R_Cont, "takeBehind", "(II)I"⟩
abbrev ws_C_takeBehind : List Cond := .code y_C_takeBehind cc_C_takeBehind 3 (some .int) :: jv_LT
abbrev rm_C_takeBehind : Room := { frames := 2, cells := 0, slots := 0, locals := 45 }
theorem yd_C_takeBehind : y_C_takeBehind.cls ≠ "java/lang/invoke/MethodHandle" ∧ y_C_takeBehind.cls ≠ "java/lang/invoke/VarHandle" ∧ (parseMethodDescriptor y_C_takeBehind.desc).map (fun d => d.parameters.length) = some 2 := ⟨by decide +kernel, by decide +kernel, by decide +kernel⟩
abbrev cc_C_takenBlock : ByteArray := prog_3_method_12_code
def y_C_takenBlock : MethodName := ⟨R_Cont, "takenBlock", "(II)I"⟩
abbrev ws_C_takenBlock : List Cond := .code y_C_takenBlock cc_C_takenBlock 4 (some .int) :: jv_LT
abbrev rm_C_takenBlock : Room := { frames := 3, cells := 0, slots := 0, locals := 67 }
theorem yd_C_takenBlock : y_C_takenBlock.cls ≠ "java/lang/invoke/MethodHandle" ∧ y_C_takenBlock.cls ≠ "java/lang/invoke/VarHandle" ∧ (parseMethodDescriptor y_C_takenBlock.desc).map (fun d => d.parameters.length) = some 2 := ⟨by decide +kernel, by decide +kernel, by decide +kernel⟩
abbrev cc_C_store : ByteArray := prog_3_method_4_code
def y_C_store : MethodName := ⟨R_Cont, "store", "(III)Z"⟩
abbrev ws_C_store : List Cond := .code y_C_store cc_C_store 5 (some .boolean) :: jv_LT
abbrev rm_C_store : Room := { frames := 4, cells := 0, slots := 0, locals := 90 }
theorem yd_C_store : y_C_store.cls ≠ "java/lang/invoke/MethodHandle" ∧ y_C_store.cls ≠ "java/lang/invoke/VarHandle" ∧ (parseMethodDescriptor y_C_store.desc).map (fun d => d.parameters.length) = some 3 := ⟨by decide +kernel, by decide +kernel, by decide +kernel⟩
abbrev cc_C_release : ByteArray := prog_3_method_16_code
def y_C_release : MethodName := ⟨R_Cont, "release", "(I)I"⟩
abbrev ws_C_release : List Cond := .code y_C_release cc_C_release 2 (some .int) :: jv_LT
abbrev rm_C_release : Room := { frames := 1, cells := 0, slots := 0, locals := 23 }
theorem yd_C_release : y_C_release.cls ≠ "java/lang/invoke/MethodHandle" ∧ y_C_release.cls ≠ "java/lang/invoke/VarHandle" ∧ (parseMethodDescriptor y_C_release.desc).map (fun d => d.parameters.length) = some 1 := ⟨by decide +kernel, by decide +kernel, by decide +kernel⟩
abbrev cc_C_dropPointer : ByteArray := prog_3_method_15_code
def y_C_dropPointer : MethodName := ⟨R_Cont, "dropPointer", "(II)I"⟩
abbrev ws_C_dropPointer : List Cond := .code y_C_dropPointer cc_C_dropPointer 4 (some .int) :: jv_LT
abbrev rm_C_dropPointer : Room := { frames := 2, cells := 0, slots := 0, locals := 44 }
theorem yd_C_dropPointer : y_C_dropPointer.cls ≠ "java/lang/invoke/MethodHandle" ∧ y_C_dropPointer.cls ≠ "java/lang/invoke/VarHandle" ∧ (parseMethodDescriptor y_C_dropPointer.desc).map (fun d => d.parameters.length) = some 2 := ⟨by decide +kernel, by decide +kernel, by decide +kernel⟩
abbrev cc_C_zeroBehind : ByteArray := prog_3_method_18_code
def y_C_zeroBehind : MethodName := ⟨R_Cont, "zeroBehind", "(II)V"⟩
abbrev ws_C_zeroBehind : List Cond := .code y_C_zeroBehind cc_C_zeroBehind 4 none :: jv_LT
abbrev rm_C_zeroBehind : Room := { frames := 3, cells := 0, slots := 0, locals := 68 }
theorem yd_C_zeroBehind : y_C_zeroBehind.cls ≠ "java/lang/invoke/MethodHandle" ∧ y_C_zeroBehind.cls ≠ "java/lang/invoke/VarHandle" ∧ (parseMethodDescriptor y_C_zeroBehind.desc).map (fun d => d.parameters.length) = some 2 := ⟨by decide +kernel, by decide +kernel, by decide +kernel⟩
abbrev cc_C_cut : ByteArray := prog_3_method_5_code
def y_C_cut : MethodName := ⟨R_Cont, "cut", "(II)I"⟩
abbrev ws_C_cut : List Cond := .code y_C_cut cc_C_cut 5 (some .int) :: jv_LT
abbrev rm_C_cut : Room := { frames := 4, cells := 0, slots := 0, locals := 91 }
theorem yd_C_cut : y_C_cut.cls ≠ "java/lang/invoke/MethodHandle" ∧ y_C_cut.cls ≠ "java/lang/invoke/VarHandle" ∧ (parseMethodDescriptor y_C_cut.desc).map (fun d => d.parameters.length) = some 2 := ⟨by decide +kernel, by decide +kernel, by decide +kernel⟩
abbrev cc_C_releaseAll : ByteArray := prog_3_method_6_code
def y_C_releaseAll : MethodName := ⟨R_Cont, "releaseAll", "(I)V"⟩
abbrev ws_C_releaseAll : List Cond := .code y_C_releaseAll cc_C_releaseAll 3 none :: jv_LT
abbrev rm_C_releaseAll : Room := { frames := 3, cells := 0, slots := 0, locals := 68 }
theorem yd_C_releaseAll : y_C_releaseAll.cls ≠ "java/lang/invoke/MethodHandle" ∧ y_C_releaseAll.cls ≠ "java/lang/invoke/VarHandle" ∧ (parseMethodDescriptor y_C_releaseAll.desc).map (fun d => d.parameters.length) = some 1 := ⟨by decide +kernel, by decide +kernel, by decide +kernel⟩
abbrev cc_J_bitCount : ByteArray := prog_15_method_49_code
def y_J_bitCount : MethodName := ⟨R_Integer, "bitCount", "(I)I"⟩
abbrev ws_J_bitCount : List Cond := .code y_J_bitCount cc_J_bitCount 1 (some .int) :: jv_LT
abbrev rm_J_bitCount : Room := { frames := 0, cells := 0, slots := 0, locals := 0 }
theorem yd_J_bitCount : y_J_bitCount.cls ≠ "java/lang/invoke/MethodHandle" ∧ y_J_bitCount.cls ≠ "java/lang/invoke/VarHandle" ∧ (parseMethodDescriptor y_J_bitCount.desc).map (fun d => d.parameters.length) = some 1 := ⟨by decide +kernel, by decide +kernel, by decide +kernel⟩
abbrev cc_C_countFree : ByteArray := prog_3_method_7_code
def y_C_countFree : MethodName := ⟨R_Cont, "countFree", "()I"⟩
abbrev ws_C_countFree : List Cond := .code y_C_countFree cc_C_countFree 1 (some .int) :: jv_LT
abbrev rm_C_countFree : Room := { frames := 1, cells := 0, slots := 0, locals := 22 }
theorem yd_C_countFree : y_C_countFree.cls ≠ "java/lang/invoke/MethodHandle" ∧ y_C_countFree.cls ≠ "java/lang/invoke/VarHandle" ∧ (parseMethodDescriptor y_C_countFree.desc).map (fun d => d.parameters.length) = some 0 := ⟨by decide +kernel, by decide +kernel, by decide +kernel⟩
abbrev cc_J_fill : ByteArray := prog_21_method_103_code
def y_J_fill : MethodName := ⟨R_Arrays, "fill", "([II)V"⟩
abbrev ws_J_fill : List Cond := .code y_J_fill cc_J_fill 4 none :: jv_LT
abbrev rm_J_fill : Room := { frames := 0, cells := 0, slots := 0, locals := 0 }
theorem yd_J_fill : y_J_fill.cls ≠ "java/lang/invoke/MethodHandle" ∧ y_J_fill.cls ≠ "java/lang/invoke/VarHandle" ∧ (parseMethodDescriptor y_J_fill.desc).map (fun d => d.parameters.length) = some 2 := ⟨by decide +kernel, by decide +kernel, by decide +kernel⟩
abbrev cc_A_dismissAll : ByteArray := prog_2_method_4_code
def y_A_dismissAll : MethodName := ⟨R_Area, "dismissAll", "()V"⟩
abbrev ws_A_dismissAll : List Cond := .code y_A_dismissAll cc_A_dismissAll 1 none :: jv_LT
abbrev rm_A_dismissAll : Room := { frames := 1, cells := 0, slots := 0, locals := 23 }
theorem yd_A_dismissAll : y_A_dismissAll.cls ≠ "java/lang/invoke/MethodHandle" ∧ y_A_dismissAll.cls ≠ "java/lang/invoke/VarHandle" ∧ (parseMethodDescriptor y_A_dismissAll.desc).map (fun d => d.parameters.length) = some 0 := ⟨by decide +kernel, by decide +kernel, by decide +kernel⟩
abbrev cc_A_admit : ByteArray := prog_2_method_2_code
def y_A_admit : MethodName := ⟨R_Area, "\x61dmit", "(I)I"⟩
abbrev ws_A_admit : List Cond := .code y_A_admit cc_A_admit 3 (some .int) :: jv_LT
abbrev rm_A_admit : Room := { frames := 0, cells := 0, slots := 0, locals := 0 }
theorem yd_A_admit : y_A_admit.cls ≠ "java/lang/invoke/MethodHandle" ∧ y_A_admit.cls ≠ "java/lang/invoke/VarHandle" ∧ (parseMethodDescriptor y_A_admit.desc).map (fun d => d.parameters.length) = some 1 := ⟨by decide +kernel, by decide +kernel, by decide +kernel⟩
abbrev cc_A_dismiss : ByteArray := prog_2_method_3_code
def y_A_dismiss : MethodName := ⟨R_Area, "dismiss", "(I)I"⟩
abbrev ws_A_dismiss : List Cond := .code y_A_dismiss cc_A_dismiss 3 (some .int) :: jv_LT
abbrev rm_A_dismiss : Room := { frames := 0, cells := 0, slots := 0, locals := 0 }
theorem yd_A_dismiss : y_A_dismiss.cls ≠ "java/lang/invoke/MethodHandle" ∧ y_A_dismiss.cls ≠ "java/lang/invoke/VarHandle" ∧ (parseMethodDescriptor y_A_dismiss.desc).map (fun d => d.parameters.length) = some 1 := ⟨by decide +kernel, by decide +kernel, by decide +kernel⟩
abbrev cc_A_countSessions : ByteArray := prog_2_method_5_code
def y_A_countSessions : MethodName := ⟨R_Area, "countSessions", "()I"⟩
abbrev ws_A_countSessions : List Cond := .code y_A_countSessions cc_A_countSessions 3 (some .int) :: jv_LT
abbrev rm_A_countSessions : Room := { frames := 0, cells := 0, slots := 0, locals := 0 }
theorem yd_A_countSessions : y_A_countSessions.cls ≠ "java/lang/invoke/MethodHandle" ∧ y_A_countSessions.cls ≠ "java/lang/invoke/VarHandle" ∧ (parseMethodDescriptor y_A_countSessions.desc).map (fun d => d.parameters.length) = some 0 := ⟨by decide +kernel, by decide +kernel, by decide +kernel⟩
abbrev cc_M_isLabel : ByteArray := prog_10_method_3_code
def y_M_isLabel : MethodName := ⟨R_Model, "isLabel", "(I)Z"⟩
abbrev ws_M_isLabel : List Cond := .code y_M_isLabel cc_M_isLabel 1 (some .boolean) :: jv_LT
abbrev rm_M_isLabel : Room := { frames := 0, cells := 0, slots := 0, locals := 0 }
theorem yd_M_isLabel : y_M_isLabel.cls ≠ "java/lang/invoke/MethodHandle" ∧ y_M_isLabel.cls ≠ "java/lang/invoke/VarHandle" ∧ (parseMethodDescriptor y_M_isLabel.desc).map (fun d => d.parameters.length) = some 1 := ⟨by decide +kernel, by decide +kernel, by decide +kernel⟩
abbrev cc_M_among : ByteArray := prog_10_method_4_code
def y_M_among : MethodName := ⟨R_Model, "among", "(IIII)Z"⟩
abbrev ws_M_among : List Cond := .code y_M_among cc_M_among 4 (some .boolean) :: jv_LT
abbrev rm_M_among : Room := { frames := 0, cells := 0, slots := 0, locals := 0 }
theorem yd_M_among : y_M_among.cls ≠ "java/lang/invoke/MethodHandle" ∧ y_M_among.cls ≠ "java/lang/invoke/VarHandle" ∧ (parseMethodDescriptor y_M_among.desc).map (fun d => d.parameters.length) = some 4 := ⟨by decide +kernel, by decide +kernel, by decide +kernel⟩
abbrev cc_M_flow : ByteArray := prog_10_method_5_code
def y_M_flow : MethodName := ⟨R_Model, "flow", "(II)Z"⟩
abbrev ws_M_flow : List Cond := .code y_M_flow cc_M_flow 2 (some .boolean) :: jv_LT
abbrev rm_M_flow : Room := { frames := 1, cells := 0, slots := 0, locals := 23 }
theorem yd_M_flow : y_M_flow.cls ≠ "java/lang/invoke/MethodHandle" ∧ y_M_flow.cls ≠ "java/lang/invoke/VarHandle" ∧ (parseMethodDescriptor y_M_flow.desc).map (fun d => d.parameters.length) = some 2 := ⟨by decide +kernel, by decide +kernel, by decide +kernel⟩
abbrev cc_M_names : ByteArray := prog_10_method_13_code
def y_M_names : MethodName := ⟨R_Model, "names", "(I)I"⟩
abbrev ws_M_names : List Cond := .code y_M_names cc_M_names 6 (some .int) :: jv_LT
abbrev rm_M_names : Room := { frames := 0, cells := 0, slots := 0, locals := 0 }
theorem yd_M_names : y_M_names.cls ≠ "java/lang/invoke/MethodHandle" ∧ y_M_names.cls ≠ "java/lang/invoke/VarHandle" ∧ (parseMethodDescriptor y_M_names.desc).map (fun d => d.parameters.length) = some 1 := ⟨by decide +kernel, by decide +kernel, by decide +kernel⟩
abbrev cc_M_isPath : ByteArray := prog_10_method_14_code
def y_M_isPath : MethodName := ⟨R_Model, "isPath", "(I)Z"⟩
abbrev ws_M_isPath : List Cond := .code y_M_isPath cc_M_isPath 1 (some .boolean) :: jv_LT
abbrev rm_M_isPath : Room := { frames := 1, cells := 0, slots := 0, locals := 25 }
theorem yd_M_isPath : y_M_isPath.cls ≠ "java/lang/invoke/MethodHandle" ∧ y_M_isPath.cls ≠ "java/lang/invoke/VarHandle" ∧ (parseMethodDescriptor y_M_isPath.desc).map (fun d => d.parameters.length) = some 1 := ⟨by decide +kernel, by decide +kernel, by decide +kernel⟩
abbrev cc_M_prefix : ByteArray := prog_10_method_15_code
def y_M_prefix : MethodName := ⟨R_Model, "prefix", "(II)I"⟩
abbrev ws_M_prefix : List Cond := .code y_M_prefix cc_M_prefix 4 (some .int) :: jv_LT
abbrev rm_M_prefix : Room := { frames := 1, cells := 0, slots := 0, locals := 25 }
theorem yd_M_prefix : y_M_prefix.cls ≠ "java/lang/invoke/MethodHandle" ∧ y_M_prefix.cls ≠ "java/lang/invoke/VarHandle" ∧ (parseMethodDescriptor y_M_prefix.desc).map (fun d => d.parameters.length) = some 2 := ⟨by decide +kernel, by decide +kernel, by decide +kernel⟩
abbrev cc_M_thrown : ByteArray := prog_10_method_2_code
def y_M_thrown : MethodName := ⟨R_Model, "thrown", "()I"⟩
abbrev ws_M_thrown : List Cond := .code y_M_thrown cc_M_thrown 1 (some .int) :: jv_LT
abbrev rm_M_thrown : Room := { frames := 0, cells := 0, slots := 0, locals := 0 }
theorem yd_M_thrown : y_M_thrown.cls ≠ "java/lang/invoke/MethodHandle" ∧ y_M_thrown.cls ≠ "java/lang/invoke/VarHandle" ∧ (parseMethodDescriptor y_M_thrown.desc).map (fun d => d.parameters.length) = some 0 := ⟨by decide +kernel, by decide +kernel, by decide +kernel⟩
abbrev cc_M_isArea : ByteArray := prog_10_method_7_code
def y_M_isArea : MethodName := ⟨R_Model, "isArea", "(I)Z"⟩
abbrev ws_M_isArea : List Cond := .code y_M_isArea cc_M_isArea 2 (some .boolean) :: jv_LT
abbrev rm_M_isArea : Room := { frames := 0, cells := 0, slots := 0, locals := 0 }
theorem yd_M_isArea : y_M_isArea.cls ≠ "java/lang/invoke/MethodHandle" ∧ y_M_isArea.cls ≠ "java/lang/invoke/VarHandle" ∧ (parseMethodDescriptor y_M_isArea.desc).map (fun d => d.parameters.length) = some 1 := ⟨by decide +kernel, by decide +kernel, by decide +kernel⟩
abbrev cc_M_isSession : ByteArray := prog_10_method_11_code
def y_M_isSession : MethodName := ⟨R_Model, "isSession", "(I)Z"⟩
abbrev ws_M_isSession : List Cond := .code y_M_isSession cc_M_isSession 2 (some .boolean) :: jv_LT
abbrev rm_M_isSession : Room := { frames := 0, cells := 0, slots := 0, locals := 0 }
theorem yd_M_isSession : y_M_isSession.cls ≠ "java/lang/invoke/MethodHandle" ∧ y_M_isSession.cls ≠ "java/lang/invoke/VarHandle" ∧ (parseMethodDescriptor y_M_isSession.desc).map (fun d => d.parameters.length) = some 1 := ⟨by decide +kernel, by decide +kernel, by decide +kernel⟩
abbrev cc_M_inode : ByteArray := prog_10_method_16_code
def y_M_inode : MethodName := ⟨R_Model, "inode", "(III)I"⟩
abbrev ws_M_inode : List Cond := .code y_M_inode cc_M_inode 4 (some .int) :: jv_LT
abbrev rm_M_inode : Room := { frames := 0, cells := 0, slots := 0, locals := 0 }
theorem yd_M_inode : y_M_inode.cls ≠ "java/lang/invoke/MethodHandle" ∧ y_M_inode.cls ≠ "java/lang/invoke/VarHandle" ∧ (parseMethodDescriptor y_M_inode.desc).map (fun d => d.parameters.length) = some 3 := ⟨by decide +kernel, by decide +kernel, by decide +kernel⟩
abbrev cc_M_find : ByteArray := prog_10_method_17_code
def y_M_find : MethodName := ⟨R_Model, "find", "(II)I"⟩
abbrev ws_M_find : List Cond := .code y_M_find cc_M_find 9 (some .int) :: jv_LT
abbrev rm_M_find : Room := { frames := 2, cells := 0, slots := 0, locals := 48 }
theorem yd_M_find : y_M_find.cls ≠ "java/lang/invoke/MethodHandle" ∧ y_M_find.cls ≠ "java/lang/invoke/VarHandle" ∧ (parseMethodDescriptor y_M_find.desc).map (fun d => d.parameters.length) = some 2 := ⟨by decide +kernel, by decide +kernel, by decide +kernel⟩
abbrev cc_M_kind : ByteArray := prog_10_method_18_code
def y_M_kind : MethodName := ⟨R_Model, "kind", "(II)I"⟩
abbrev ws_M_kind : List Cond := .code y_M_kind cc_M_kind 4 (some .int) :: jv_LT
abbrev rm_M_kind : Room := { frames := 3, cells := 0, slots := 0, locals := 76 }
theorem yd_M_kind : y_M_kind.cls ≠ "java/lang/invoke/MethodHandle" ∧ y_M_kind.cls ≠ "java/lang/invoke/VarHandle" ∧ (parseMethodDescriptor y_M_kind.desc).map (fun d => d.parameters.length) = some 2 := ⟨by decide +kernel, by decide +kernel, by decide +kernel⟩
abbrev cc_M_sees : ByteArray := prog_10_method_19_code
def y_M_sees : MethodName := ⟨R_Model, "sees", "(II)Z"⟩
abbrev ws_M_sees : List Cond := .code y_M_sees cc_M_sees 3 (some .boolean) :: jv_LT
abbrev rm_M_sees : Room := { frames := 2, cells := 0, slots := 0, locals := 44 }
theorem yd_M_sees : y_M_sees.cls ≠ "java/lang/invoke/MethodHandle" ∧ y_M_sees.cls ≠ "java/lang/invoke/VarHandle" ∧ (parseMethodDescriptor y_M_sees.desc).map (fun d => d.parameters.length) = some 2 := ⟨by decide +kernel, by decide +kernel, by decide +kernel⟩
abbrev cc_M_visible : ByteArray := prog_10_method_20_code
def y_M_visible : MethodName := ⟨R_Model, "visible", "(III)Z"⟩
abbrev ws_M_visible : List Cond := .code y_M_visible cc_M_visible 7 (some .boolean) :: jv_LT
abbrev rm_M_visible : Room := { frames := 4, cells := 0, slots := 0, locals := 99 }
theorem yd_M_visible : y_M_visible.cls ≠ "java/lang/invoke/MethodHandle" ∧ y_M_visible.cls ≠ "java/lang/invoke/VarHandle" ∧ (parseMethodDescriptor y_M_visible.desc).map (fun d => d.parameters.length) = some 3 := ⟨by decide +kernel, by decide +kernel, by decide +kernel⟩
abbrev cc_M_freeInodes : ByteArray := prog_10_method_24_code
def y_M_freeInodes : MethodName := ⟨R_Model, "freeInodes", "(I)I"⟩
abbrev ws_M_freeInodes : List Cond := .code y_M_freeInodes cc_M_freeInodes 4 (some .int) :: jv_LT
abbrev rm_M_freeInodes : Room := { frames := 1, cells := 0, slots := 0, locals := 23 }
theorem yd_M_freeInodes : y_M_freeInodes.cls ≠ "java/lang/invoke/MethodHandle" ∧ y_M_freeInodes.cls ≠ "java/lang/invoke/VarHandle" ∧ (parseMethodDescriptor y_M_freeInodes.desc).map (fun d => d.parameters.length) = some 1 := ⟨by decide +kernel, by decide +kernel, by decide +kernel⟩
abbrev cc_M_freeBlocks : ByteArray := prog_10_method_25_code
def y_M_freeBlocks : MethodName := ⟨R_Model, "freeBlocks", "(I)I"⟩
abbrev ws_M_freeBlocks : List Cond := .code y_M_freeBlocks cc_M_freeBlocks 4 (some .int) :: jv_LT
abbrev rm_M_freeBlocks : Room := { frames := 0, cells := 0, slots := 0, locals := 0 }
theorem yd_M_freeBlocks : y_M_freeBlocks.cls ≠ "java/lang/invoke/MethodHandle" ∧ y_M_freeBlocks.cls ≠ "java/lang/invoke/VarHandle" ∧ (parseMethodDescriptor y_M_freeBlocks.desc).map (fun d => d.parameters.length) = some 1 := ⟨by decide +kernel, by decide +kernel, by decide +kernel⟩
abbrev cc_M_refusal : ByteArray := prog_10_method_27_code
def y_M_refusal : MethodName := ⟨R_Model, "refusal", "(II)I"⟩
abbrev ws_M_refusal : List Cond := .code y_M_refusal cc_M_refusal 3 (some .int) :: jv_LT
abbrev rm_M_refusal : Room := { frames := 5, cells := 0, slots := 0, locals := 125 }
theorem yd_M_refusal : y_M_refusal.cls ≠ "java/lang/invoke/MethodHandle" ∧ y_M_refusal.cls ≠ "java/lang/invoke/VarHandle" ∧ (parseMethodDescriptor y_M_refusal.desc).map (fun d => d.parameters.length) = some 2 := ⟨by decide +kernel, by decide +kernel, by decide +kernel⟩
abbrev cc_M_pointer : ByteArray := prog_10_method_29_code
def y_M_pointer : MethodName := ⟨R_Model, "pointer", "(II)I"⟩
abbrev ws_M_pointer : List Cond := .code y_M_pointer cc_M_pointer 4 (some .int) :: jv_LT
abbrev rm_M_pointer : Room := { frames := 0, cells := 0, slots := 0, locals := 0 }
theorem yd_M_pointer : y_M_pointer.cls ≠ "java/lang/invoke/MethodHandle" ∧ y_M_pointer.cls ≠ "java/lang/invoke/VarHandle" ∧ (parseMethodDescriptor y_M_pointer.desc).map (fun d => d.parameters.length) = some 2 := ⟨by decide +kernel, by decide +kernel, by decide +kernel⟩
abbrev cc_M_hasChild : ByteArray := prog_10_method_33_code
def y_M_hasChild : MethodName := ⟨R_Model, "hasChild", "(II)Z"⟩
abbrev ws_M_hasChild : List Cond := .code y_M_hasChild cc_M_hasChild 5 (some .boolean) :: jv_LT
abbrev rm_M_hasChild : Room := { frames := 1, cells := 0, slots := 0, locals := 23 }
theorem yd_M_hasChild : y_M_hasChild.cls ≠ "java/lang/invoke/MethodHandle" ∧ y_M_hasChild.cls ≠ "java/lang/invoke/VarHandle" ∧ (parseMethodDescriptor y_M_hasChild.desc).map (fun d => d.parameters.length) = some 2 := ⟨by decide +kernel, by decide +kernel, by decide +kernel⟩
abbrev cc_M_below : ByteArray := prog_10_method_35_code
def y_M_below : MethodName := ⟨R_Model, "below", "(III)I"⟩
abbrev ws_M_below : List Cond := .code y_M_below cc_M_below 6 (some .int) :: jv_LT
abbrev rm_M_below : Room := { frames := 1, cells := 0, slots := 0, locals := 23 }
theorem yd_M_below : y_M_below.cls ≠ "java/lang/invoke/MethodHandle" ∧ y_M_below.cls ≠ "java/lang/invoke/VarHandle" ∧ (parseMethodDescriptor y_M_below.desc).map (fun d => d.parameters.length) = some 3 := ⟨by decide +kernel, by decide +kernel, by decide +kernel⟩
abbrev cc_M_unreadable : ByteArray := prog_10_method_37_code
def y_M_unreadable : MethodName := ⟨R_Model, "unreadable", "(III)I"⟩
abbrev ws_M_unreadable : List Cond := .code y_M_unreadable cc_M_unreadable 5 (some .int) :: jv_LT
abbrev rm_M_unreadable : Room := { frames := 4, cells := 0, slots := 0, locals := 99 }
theorem yd_M_unreadable : y_M_unreadable.cls ≠ "java/lang/invoke/MethodHandle" ∧ y_M_unreadable.cls ≠ "java/lang/invoke/VarHandle" ∧ (parseMethodDescriptor y_M_unreadable.desc).map (fun d => d.parameters.length) = some 3 := ⟨by decide +kernel, by decide +kernel, by decide +kernel⟩
abbrev cc_M_flows : ByteArray := prog_10_method_6_code
def y_M_flows : MethodName := ⟨R_Model, "flows", "(II)Z"⟩
abbrev ws_M_flows : List Cond := .code y_M_flows cc_M_flows 3 (some .boolean) :: jv_LT
abbrev rm_M_flows : Room := { frames := 2, cells := 0, slots := 0, locals := 44 }
theorem yd_M_flows : y_M_flows.cls ≠ "java/lang/invoke/MethodHandle" ∧ y_M_flows.cls ≠ "java/lang/invoke/VarHandle" ∧ (parseMethodDescriptor y_M_flows.desc).map (fun d => d.parameters.length) = some 2 := ⟨by decide +kernel, by decide +kernel, by decide +kernel⟩
abbrev cc_M_area : ByteArray := prog_10_method_8_code
def y_M_area : MethodName := ⟨R_Model, "area", "(I)I"⟩
abbrev ws_M_area : List Cond := .code y_M_area cc_M_area 4 (some .int) :: jv_LT
abbrev rm_M_area : Room := { frames := 1, cells := 0, slots := 0, locals := 20 }
theorem yd_M_area : y_M_area.cls ≠ "java/lang/invoke/MethodHandle" ∧ y_M_area.cls ≠ "java/lang/invoke/VarHandle" ∧ (parseMethodDescriptor y_M_area.desc).map (fun d => d.parameters.length) = some 1 := ⟨by decide +kernel, by decide +kernel, by decide +kernel⟩
abbrev cc_M_clear : ByteArray := prog_10_method_9_code
def y_M_clear : MethodName := ⟨R_Model, "clear", "(II)Z"⟩
abbrev ws_M_clear : List Cond := .code y_M_clear cc_M_clear 3 (some .boolean) :: jv_LT
abbrev rm_M_clear : Room := { frames := 1, cells := 0, slots := 0, locals := 20 }
theorem yd_M_clear : y_M_clear.cls ≠ "java/lang/invoke/MethodHandle" ∧ y_M_clear.cls ≠ "java/lang/invoke/VarHandle" ∧ (parseMethodDescriptor y_M_clear.desc).map (fun d => d.parameters.length) = some 2 := ⟨by decide +kernel, by decide +kernel, by decide +kernel⟩
abbrev cc_M_login : ByteArray := prog_10_method_10_code
def y_M_login : MethodName := ⟨R_Model, "login", "(II)I"⟩
abbrev ws_M_login : List Cond := .code y_M_login cc_M_login 7 (some .int) :: jv_LT
abbrev rm_M_login : Room := { frames := 1, cells := 0, slots := 0, locals := 23 }
theorem yd_M_login : y_M_login.cls ≠ "java/lang/invoke/MethodHandle" ∧ y_M_login.cls ≠ "java/lang/invoke/VarHandle" ∧ (parseMethodDescriptor y_M_login.desc).map (fun d => d.parameters.length) = some 2 := ⟨by decide +kernel, by decide +kernel, by decide +kernel⟩
abbrev cc_M_logout : ByteArray := prog_10_method_12_code
def y_M_logout : MethodName := ⟨R_Model, "logout", "(I)I"⟩
abbrev ws_M_logout : List Cond := .code y_M_logout cc_M_logout 3 (some .int) :: jv_LT
abbrev rm_M_logout : Room := { frames := 1, cells := 0, slots := 0, locals := 21 }
theorem yd_M_logout : y_M_logout.cls ≠ "java/lang/invoke/MethodHandle" ∧ y_M_logout.cls ≠ "java/lang/invoke/VarHandle" ∧ (parseMethodDescriptor y_M_logout.desc).map (fun d => d.parameters.length) = some 1 := ⟨by decide +kernel, by decide +kernel, by decide +kernel⟩
abbrev cc_M_start : ByteArray := prog_10_method_21_code
def y_M_start : MethodName := ⟨R_Model, "start", "(I)V"⟩
abbrev ws_M_start : List Cond := .code y_M_start cc_M_start 3 none :: jv_LT
abbrev rm_M_start : Room := { frames := 0, cells := 0, slots := 0, locals := 0 }
theorem yd_M_start : y_M_start.cls ≠ "java/lang/invoke/MethodHandle" ∧ y_M_start.cls ≠ "java/lang/invoke/VarHandle" ∧ (parseMethodDescriptor y_M_start.desc).map (fun d => d.parameters.length) = some 1 := ⟨by decide +kernel, by decide +kernel, by decide +kernel⟩
abbrev cc_M_crashNow : ByteArray := prog_10_method_22_code
def y_M_crashNow : MethodName := ⟨R_Model, "crashNow", "()I"⟩
abbrev ws_M_crashNow : List Cond := .code y_M_crashNow cc_M_crashNow 3 (some .int) :: jv_LT
abbrev rm_M_crashNow : Room := { frames := 0, cells := 0, slots := 0, locals := 0 }
theorem yd_M_crashNow : y_M_crashNow.cls ≠ "java/lang/invoke/MethodHandle" ∧ y_M_crashNow.cls ≠ "java/lang/invoke/VarHandle" ∧ (parseMethodDescriptor y_M_crashNow.desc).map (fun d => d.parameters.length) = some 0 := ⟨by decide +kernel, by decide +kernel, by decide +kernel⟩
abbrev cc_M_finish : ByteArray := prog_10_method_23_code
def y_M_finish : MethodName := ⟨R_Model, "finish", "(II)I"⟩
abbrev ws_M_finish : List Cond := .code y_M_finish cc_M_finish 8 (some .int) :: jv_LT
abbrev rm_M_finish : Room := { frames := 1, cells := 0, slots := 0, locals := 22 }
theorem yd_M_finish : y_M_finish.cls ≠ "java/lang/invoke/MethodHandle" ∧ y_M_finish.cls ≠ "java/lang/invoke/VarHandle" ∧ (parseMethodDescriptor y_M_finish.desc).map (fun d => d.parameters.length) = some 2 := ⟨by decide +kernel, by decide +kernel, by decide +kernel⟩
abbrev cc_M_make : ByteArray := prog_10_method_26_code
def y_M_make : MethodName := ⟨R_Model, "make", "(III)I"⟩
abbrev ws_M_make : List Cond := .code y_M_make cc_M_make 12 (some .int) :: jv_LT
abbrev rm_M_make : Room := { frames := 5, cells := 0, slots := 0, locals := 125 }
theorem yd_M_make : y_M_make.cls ≠ "java/lang/invoke/MethodHandle" ∧ y_M_make.cls ≠ "java/lang/invoke/VarHandle" ∧ (parseMethodDescriptor y_M_make.desc).map (fun d => d.parameters.length) = some 3 := ⟨by decide +kernel, by decide +kernel, by decide +kernel⟩
abbrev cc_M_takeBlock : ByteArray := prog_10_method_28_code
def y_M_takeBlock : MethodName := ⟨R_Model, "takeBlock", "()I"⟩
abbrev ws_M_takeBlock : List Cond := .code y_M_takeBlock cc_M_takeBlock 3 (some .int) :: jv_LT
abbrev rm_M_takeBlock : Room := { frames := 0, cells := 0, slots := 0, locals := 0 }
theorem yd_M_takeBlock : y_M_takeBlock.cls ≠ "java/lang/invoke/MethodHandle" ∧ y_M_takeBlock.cls ≠ "java/lang/invoke/VarHandle" ∧ (parseMethodDescriptor y_M_takeBlock.desc).map (fun d => d.parameters.length) = some 0 := ⟨by decide +kernel, by decide +kernel, by decide +kernel⟩
abbrev cc_M_write : ByteArray := prog_10_method_30_code
def y_M_write : MethodName := ⟨R_Model, "write", "(IIII)I"⟩
abbrev ws_M_write : List Cond := .code y_M_write cc_M_write 11 (some .int) :: jv_LT
abbrev rm_M_write : Room := { frames := 6, cells := 0, slots := 0, locals := 147 }
theorem yd_M_write : y_M_write.cls ≠ "java/lang/invoke/MethodHandle" ∧ y_M_write.cls ≠ "java/lang/invoke/VarHandle" ∧ (parseMethodDescriptor y_M_write.desc).map (fun d => d.parameters.length) = some 4 := ⟨by decide +kernel, by decide +kernel, by decide +kernel⟩
abbrev cc_M_release : ByteArray := prog_10_method_31_code
def y_M_release : MethodName := ⟨R_Model, "release", "(I)I"⟩
abbrev ws_M_release : List Cond := .code y_M_release cc_M_release 3 (some .int) :: jv_LT
abbrev rm_M_release : Room := { frames := 0, cells := 0, slots := 0, locals := 0 }
theorem yd_M_release : y_M_release.cls ≠ "java/lang/invoke/MethodHandle" ∧ y_M_release.cls ≠ "java/lang/invoke/VarHandle" ∧ (parseMethodDescriptor y_M_release.desc).map (fun d => d.parameters.length) = some 1 := ⟨by decide +kernel, by decide +kernel, by decide +kernel⟩
abbrev cc_M_truncate : ByteArray := prog_10_method_32_code
def y_M_truncate : MethodName := ⟨R_Model, "truncate", "(III)I"⟩
abbrev ws_M_truncate : List Cond := .code y_M_truncate cc_M_truncate 11 (some .int) :: jv_LT
abbrev rm_M_truncate : Room := { frames := 6, cells := 0, slots := 0, locals := 147 }
theorem yd_M_truncate : y_M_truncate.cls ≠ "java/lang/invoke/MethodHandle" ∧ y_M_truncate.cls ≠ "java/lang/invoke/VarHandle" ∧ (parseMethodDescriptor y_M_truncate.desc).map (fun d => d.parameters.length) = some 3 := ⟨by decide +kernel, by decide +kernel, by decide +kernel⟩
abbrev cc_M_remove : ByteArray := prog_10_method_34_code
def y_M_remove : MethodName := ⟨R_Model, "remove", "(II)I"⟩
abbrev ws_M_remove : List Cond := .code y_M_remove cc_M_remove 8 (some .int) :: jv_LT
abbrev rm_M_remove : Room := { frames := 6, cells := 0, slots := 0, locals := 147 }
theorem yd_M_remove : y_M_remove.cls ≠ "java/lang/invoke/MethodHandle" ∧ y_M_remove.cls ≠ "java/lang/invoke/VarHandle" ∧ (parseMethodDescriptor y_M_remove.desc).map (fun d => d.parameters.length) = some 2 := ⟨by decide +kernel, by decide +kernel, by decide +kernel⟩
abbrev cc_M_move : ByteArray := prog_10_method_36_code
def y_M_move : MethodName := ⟨R_Model, "move", "(III)I"⟩
abbrev ws_M_move : List Cond := .code y_M_move cc_M_move 10 (some .int) :: jv_LT
abbrev rm_M_move : Room := { frames := 6, cells := 0, slots := 0, locals := 147 }
theorem yd_M_move : y_M_move.cls ≠ "java/lang/invoke/MethodHandle" ∧ y_M_move.cls ≠ "java/lang/invoke/VarHandle" ∧ (parseMethodDescriptor y_M_move.desc).map (fun d => d.parameters.length) = some 3 := ⟨by decide +kernel, by decide +kernel, by decide +kernel⟩
abbrev cc_M_read : ByteArray := prog_10_method_38_code
def y_M_read : MethodName := ⟨R_Model, "read", "(IIII)I"⟩
abbrev ws_M_read : List Cond := .code y_M_read cc_M_read 7 (some .int) :: jv_LT
abbrev rm_M_read : Room := { frames := 5, cells := 0, slots := 0, locals := 123 }
theorem yd_M_read : y_M_read.cls ≠ "java/lang/invoke/MethodHandle" ∧ y_M_read.cls ≠ "java/lang/invoke/VarHandle" ∧ (parseMethodDescriptor y_M_read.desc).map (fun d => d.parameters.length) = some 4 := ⟨by decide +kernel, by decide +kernel, by decide +kernel⟩
abbrev cc_M_size : ByteArray := prog_10_method_39_code
def y_M_size : MethodName := ⟨R_Model, "size", "(III)I"⟩
abbrev ws_M_size : List Cond := .code y_M_size cc_M_size 4 (some .int) :: jv_LT
abbrev rm_M_size : Room := { frames := 5, cells := 0, slots := 0, locals := 123 }
theorem yd_M_size : y_M_size.cls ≠ "java/lang/invoke/MethodHandle" ∧ y_M_size.cls ≠ "java/lang/invoke/VarHandle" ∧ (parseMethodDescriptor y_M_size.desc).map (fun d => d.parameters.length) = some 3 := ⟨by decide +kernel, by decide +kernel, by decide +kernel⟩
abbrev cc_M_list : ByteArray := prog_10_method_40_code
def y_M_list : MethodName := ⟨R_Model, "list", "(II)I"⟩
abbrev ws_M_list : List Cond := .code y_M_list cc_M_list 7 (some .int) :: jv_LT
abbrev rm_M_list : Room := { frames := 5, cells := 0, slots := 0, locals := 125 }
theorem yd_M_list : y_M_list.cls ≠ "java/lang/invoke/MethodHandle" ∧ y_M_list.cls ≠ "java/lang/invoke/VarHandle" ∧ (parseMethodDescriptor y_M_list.desc).map (fun d => d.parameters.length) = some 2 := ⟨by decide +kernel, by decide +kernel, by decide +kernel⟩
abbrev cc_M_look : ByteArray := prog_10_method_41_code
def y_M_look : MethodName := ⟨R_Model, "look", "(II)I"⟩
abbrev ws_M_look : List Cond := .code y_M_look cc_M_look 5 (some .int) :: jv_LT
abbrev rm_M_look : Room := { frames := 4, cells := 0, slots := 0, locals := 99 }
theorem yd_M_look : y_M_look.cls ≠ "java/lang/invoke/MethodHandle" ∧ y_M_look.cls ≠ "java/lang/invoke/VarHandle" ∧ (parseMethodDescriptor y_M_look.desc).map (fun d => d.parameters.length) = some 2 := ⟨by decide +kernel, by decide +kernel, by decide +kernel⟩
abbrev cc_M_disk : ByteArray := prog_10_method_44_code
def y_M_disk : MethodName := ⟨R_Model, "disk", "(III)I"⟩
abbrev ws_M_disk : List Cond := .code y_M_disk cc_M_disk 4 (some .int) :: jv_LT
abbrev rm_M_disk : Room := { frames := 1, cells := 0, slots := 0, locals := 21 }
theorem yd_M_disk : y_M_disk.cls ≠ "java/lang/invoke/MethodHandle" ∧ y_M_disk.cls ≠ "java/lang/invoke/VarHandle" ∧ (parseMethodDescriptor y_M_disk.desc).map (fun d => d.parameters.length) = some 3 := ⟨by decide +kernel, by decide +kernel, by decide +kernel⟩
abbrev cc_M_about : ByteArray := prog_10_method_45_code
def y_M_about : MethodName := ⟨R_Model, "about", "(II)I"⟩
abbrev ws_M_about : List Cond := .code y_M_about cc_M_about 5 (some .int) :: jv_LT
abbrev rm_M_about : Room := { frames := 2, cells := 0, slots := 0, locals := 46 }
theorem yd_M_about : y_M_about.cls ≠ "java/lang/invoke/MethodHandle" ∧ y_M_about.cls ≠ "java/lang/invoke/VarHandle" ∧ (parseMethodDescriptor y_M_about.desc).map (fun d => d.parameters.length) = some 2 := ⟨by decide +kernel, by decide +kernel, by decide +kernel⟩
abbrev cc_M_user : ByteArray := prog_10_method_46_code
def y_M_user : MethodName := ⟨R_Model, "user", "(I)I"⟩
abbrev ws_M_user : List Cond := .code y_M_user cc_M_user 2 (some .int) :: jv_LT
abbrev rm_M_user : Room := { frames := 1, cells := 0, slots := 0, locals := 21 }
theorem yd_M_user : y_M_user.cls ≠ "java/lang/invoke/MethodHandle" ∧ y_M_user.cls ≠ "java/lang/invoke/VarHandle" ∧ (parseMethodDescriptor y_M_user.desc).map (fun d => d.parameters.length) = some 1 := ⟨by decide +kernel, by decide +kernel, by decide +kernel⟩
abbrev cc_M_fuse : ByteArray := prog_10_method_47_code
def y_M_fuse : MethodName := ⟨R_Model, "fuse", "()I"⟩
abbrev ws_M_fuse : List Cond := .code y_M_fuse cc_M_fuse 1 (some .int) :: jv_LT
abbrev rm_M_fuse : Room := { frames := 0, cells := 0, slots := 0, locals := 0 }
theorem yd_M_fuse : y_M_fuse.cls ≠ "java/lang/invoke/MethodHandle" ∧ y_M_fuse.cls ≠ "java/lang/invoke/VarHandle" ∧ (parseMethodDescriptor y_M_fuse.desc).map (fun d => d.parameters.length) = some 0 := ⟨by decide +kernel, by decide +kernel, by decide +kernel⟩
abbrev cc_M_crash : ByteArray := prog_10_method_42_code
def y_M_crash : MethodName := ⟨R_Model, "crash", "()I"⟩
abbrev ws_M_crash : List Cond := .code y_M_crash cc_M_crash 1 (some .int) :: jv_LT
abbrev rm_M_crash : Room := { frames := 1, cells := 0, slots := 0, locals := 22 }
theorem yd_M_crash : y_M_crash.cls ≠ "java/lang/invoke/MethodHandle" ∧ y_M_crash.cls ≠ "java/lang/invoke/VarHandle" ∧ (parseMethodDescriptor y_M_crash.desc).map (fun d => d.parameters.length) = some 0 := ⟨by decide +kernel, by decide +kernel, by decide +kernel⟩
abbrev cc_M_tear : ByteArray := prog_10_method_43_code
def y_M_tear : MethodName := ⟨R_Model, "tear", "(I)Z"⟩
abbrev ws_M_tear : List Cond := .code y_M_tear cc_M_tear 2 (some .boolean) :: jv_LT
abbrev rm_M_tear : Room := { frames := 0, cells := 0, slots := 0, locals := 0 }
theorem yd_M_tear : y_M_tear.cls ≠ "java/lang/invoke/MethodHandle" ∧ y_M_tear.cls ≠ "java/lang/invoke/VarHandle" ∧ (parseMethodDescriptor y_M_tear.desc).map (fun d => d.parameters.length) = some 1 := ⟨by decide +kernel, by decide +kernel, by decide +kernel⟩
theorem wa_0 : (Cond.code y_L_isSecrecyWithin prog_6_method_5_code 2 (some .boolean)) ∈ jv_LT := List.mem_filter.mpr ⟨List.mem_of_getElem? (i := 376) (by decide +kernel), by decide +kernel⟩
theorem wa_1 : (Cond.initialized R_Labels) ∈ jv_LT := List.mem_filter.mpr ⟨List.mem_of_getElem? (i := 53) (by decide +kernel), by decide +kernel⟩
theorem wa_2 : (Cond.methodLink R_Labels 9 y_L_isSecrecyWithin) ∈ jv_LT := List.mem_filter.mpr ⟨List.mem_of_getElem? (i := 374) (by decide +kernel), by decide +kernel⟩
theorem wa_3 : (Cond.static y_L_isSecrecyWithin) ∈ jv_LT := List.mem_filter.mpr ⟨List.mem_of_getElem? (i := 375) (by decide +kernel), by decide +kernel⟩
theorem wa_4 : (Cond.code y_L_isIntegrityWithin prog_6_method_6_code 2 (some .boolean)) ∈ jv_LT := List.mem_filter.mpr ⟨List.mem_of_getElem? (i := 379) (by decide +kernel), by decide +kernel⟩
theorem wa_5 : (Cond.methodLink R_Labels 13 y_L_isIntegrityWithin) ∈ jv_LT := List.mem_filter.mpr ⟨List.mem_of_getElem? (i := 377) (by decide +kernel), by decide +kernel⟩
theorem wa_6 : (Cond.static y_L_isIntegrityWithin) ∈ jv_LT := List.mem_filter.mpr ⟨List.mem_of_getElem? (i := 378) (by decide +kernel), by decide +kernel⟩
theorem wa_7 : (Cond.code y_P_lastName prog_7_method_5_code 1 (some .int)) ∈ jv_LT := List.mem_filter.mpr ⟨List.mem_of_getElem? (i := 441) (by decide +kernel), by decide +kernel⟩
theorem wa_8 : (Cond.initialized R_Paths) ∈ jv_LT := List.mem_filter.mpr ⟨List.mem_of_getElem? (i := 64) (by decide +kernel), by decide +kernel⟩
theorem wa_9 : (Cond.methodLink R_Paths 9 y_P_lastName) ∈ jv_LT := List.mem_filter.mpr ⟨List.mem_of_getElem? (i := 439) (by decide +kernel), by decide +kernel⟩
theorem wa_10 : (Cond.static y_P_lastName) ∈ jv_LT := List.mem_filter.mpr ⟨List.mem_of_getElem? (i := 440) (by decide +kernel), by decide +kernel⟩
theorem wa_11 : (Cond.code y_P_parentOf prog_7_method_4_code 1 (some .int)) ∈ jv_LT := List.mem_filter.mpr ⟨List.mem_of_getElem? (i := 444) (by decide +kernel), by decide +kernel⟩
theorem wa_12 : (Cond.methodLink R_Paths 13 y_P_parentOf) ∈ jv_LT := List.mem_filter.mpr ⟨List.mem_of_getElem? (i := 442) (by decide +kernel), by decide +kernel⟩
theorem wa_13 : (Cond.static y_P_parentOf) ∈ jv_LT := List.mem_filter.mpr ⟨List.mem_of_getElem? (i := 443) (by decide +kernel), by decide +kernel⟩
theorem wa_14 : (Cond.code y_P_isPath prog_7_method_2_code 4 (some .boolean)) ∈ jv_LT := List.mem_filter.mpr ⟨List.mem_of_getElem? (i := 438) (by decide +kernel), by decide +kernel⟩
theorem wa_15 : (Cond.methodLink R_Paths 16 y_P_isPath) ∈ jv_LT := List.mem_filter.mpr ⟨List.mem_of_getElem? (i := 436) (by decide +kernel), by decide +kernel⟩
theorem wa_16 : (Cond.static y_P_isPath) ∈ jv_LT := List.mem_filter.mpr ⟨List.mem_of_getElem? (i := 437) (by decide +kernel), by decide +kernel⟩
theorem wa_17 : (Cond.code y_P_without prog_7_method_7_code 2 (some .int)) ∈ jv_LT := List.mem_filter.mpr ⟨List.mem_of_getElem? (i := 467) (by decide +kernel), by decide +kernel⟩
theorem wa_18 : (Cond.methodLink R_Paths 20 y_P_without) ∈ jv_LT := List.mem_filter.mpr ⟨List.mem_of_getElem? (i := 465) (by decide +kernel), by decide +kernel⟩
theorem wa_19 : (Cond.static y_P_without) ∈ jv_LT := List.mem_filter.mpr ⟨List.mem_of_getElem? (i := 466) (by decide +kernel), by decide +kernel⟩
theorem wa_20 : (Cond.fieldLink R_Fuse 9 R_Fuse "at" "I") ∈ jv_LT := List.mem_filter.mpr ⟨List.mem_of_getElem? (i := 86) (by decide +kernel), by decide +kernel⟩
theorem wa_21 : (Cond.fieldLink R_Disk 11 R_Disk "places" "[I") ∈ jv_LT := List.mem_filter.mpr ⟨List.mem_of_getElem? (i := 299) (by decide +kernel), by decide +kernel⟩
theorem wa_22 : (Cond.fieldLink R_Disk 15 R_Disk "draft" "[I") ∈ jv_LT := List.mem_filter.mpr ⟨List.mem_of_getElem? (i := 300) (by decide +kernel), by decide +kernel⟩
theorem wa_23 : (Cond.methodLink R_Disk 32 arraycopyName) ∈ jv_LT := List.mem_filter.mpr ⟨List.mem_of_getElem? (i := 134) (by decide +kernel), by decide +kernel⟩
theorem wa_24 : (Cond.native arraycopyName) ∈ jv_LT := List.mem_filter.mpr ⟨List.mem_of_getElem? (i := 136) (by decide +kernel), by decide +kernel⟩
theorem wa_25 : (Cond.static arraycopyName) ∈ jv_LT := List.mem_filter.mpr ⟨List.mem_of_getElem? (i := 135) (by decide +kernel), by decide +kernel⟩
theorem wa_26 : (Cond.initialized "java/lang/System") ∈ jv_LT := List.mem_filter.mpr ⟨List.mem_of_getElem? (i := 67) (by decide +kernel), by decide +kernel⟩
theorem wa_27 : (Cond.fieldLink R_Disk 25 R_Disk "marked" "Z") ∈ jv_LT := List.mem_filter.mpr ⟨List.mem_of_getElem? (i := 303) (by decide +kernel), by decide +kernel⟩
theorem wa_28 : (Cond.code y_D_dropDraft prog_4_method_8_code 1 none) ∈ jv_LT := List.mem_filter.mpr ⟨List.mem_of_getElem? (i := 140) (by decide +kernel), by decide +kernel⟩
theorem wa_29 : (Cond.initialized R_Disk) ∈ jv_LT := List.mem_filter.mpr ⟨List.mem_of_getElem? (i := 60) (by decide +kernel), by decide +kernel⟩
theorem wa_30 : (Cond.methodLink R_Disk 62 y_D_dropDraft) ∈ jv_LT := List.mem_filter.mpr ⟨List.mem_of_getElem? (i := 137) (by decide +kernel), by decide +kernel⟩
theorem wa_31 : (Cond.instanceMethod y_D_dropDraft) ∈ jv_LT := List.mem_filter.mpr ⟨List.mem_of_getElem? (i := 138) (by decide +kernel), by decide +kernel⟩
theorem wa_32 : (Cond.selects R_Disk y_D_dropDraft y_D_dropDraft) ∈ jv_LT := List.mem_filter.mpr ⟨List.mem_of_getElem? (i := 139) (by decide +kernel), by decide +kernel⟩
theorem wa_33 : (Cond.fieldLink R_Disk 21 R_Disk "journaled" "I") ∈ jv_LT := List.mem_filter.mpr ⟨List.mem_of_getElem? (i := 302) (by decide +kernel), by decide +kernel⟩
theorem wa_34 : (Cond.code y_D_isIn prog_4_method_16_code 2 (some .boolean)) ∈ jv_LT := List.mem_filter.mpr ⟨List.mem_of_getElem? (i := 130) (by decide +kernel), by decide +kernel⟩
theorem wa_35 : (Cond.methodLink R_Disk 54 y_D_isIn) ∈ jv_LT := List.mem_filter.mpr ⟨List.mem_of_getElem? (i := 128) (by decide +kernel), by decide +kernel⟩
theorem wa_36 : (Cond.static y_D_isIn) ∈ jv_LT := List.mem_filter.mpr ⟨List.mem_of_getElem? (i := 129) (by decide +kernel), by decide +kernel⟩
theorem wa_37 : (Cond.fieldLink R_Disk 18 R_Disk "journal" "[I") ∈ jv_LT := List.mem_filter.mpr ⟨List.mem_of_getElem? (i := 301) (by decide +kernel), by decide +kernel⟩
theorem wa_38 : (Cond.code y_D_copyBlock prog_4_method_17_code 3 none) ∈ jv_LT := List.mem_filter.mpr ⟨List.mem_of_getElem? (i := 133) (by decide +kernel), by decide +kernel⟩
theorem wa_39 : (Cond.methodLink R_Disk 58 y_D_copyBlock) ∈ jv_LT := List.mem_filter.mpr ⟨List.mem_of_getElem? (i := 131) (by decide +kernel), by decide +kernel⟩
theorem wa_40 : (Cond.static y_D_copyBlock) ∈ jv_LT := List.mem_filter.mpr ⟨List.mem_of_getElem? (i := 132) (by decide +kernel), by decide +kernel⟩
theorem wa_41 : (Cond.code y_Fu_letsPass prog_5_method_2_code 1 (some .boolean)) ∈ jv_LT := List.mem_filter.mpr ⟨List.mem_of_getElem? (i := 556) (by decide +kernel), by decide +kernel⟩
theorem wa_42 : (Cond.initialized R_Fuse) ∈ jv_LT := List.mem_filter.mpr ⟨List.mem_of_getElem? (i := 51) (by decide +kernel), by decide +kernel⟩
theorem wa_43 : (Cond.methodLink R_Disk 68 y_Fu_letsPass) ∈ jv_LT := List.mem_filter.mpr ⟨List.mem_of_getElem? (i := 553) (by decide +kernel), by decide +kernel⟩
theorem wa_44 : (Cond.instanceMethod y_Fu_letsPass) ∈ jv_LT := List.mem_filter.mpr ⟨List.mem_of_getElem? (i := 554) (by decide +kernel), by decide +kernel⟩
theorem wa_45 : (Cond.selects R_Fuse y_Fu_letsPass y_Fu_letsPass) ∈ jv_LT := List.mem_filter.mpr ⟨List.mem_of_getElem? (i := 555) (by decide +kernel), by decide +kernel⟩
theorem wa_46 : (Cond.fieldLink R_Disk 29 R_Disk "writes" "I") ∈ jv_LT := List.mem_filter.mpr ⟨List.mem_of_getElem? (i := 304) (by decide +kernel), by decide +kernel⟩
theorem wa_47 : (Cond.code y_D_countWrite prog_4_method_15_code 2 (some .boolean)) ∈ jv_LT := List.mem_filter.mpr ⟨List.mem_of_getElem? (i := 552) (by decide +kernel), by decide +kernel⟩
theorem wa_48 : (Cond.methodLink R_Disk 65 y_D_countWrite) ∈ jv_LT := List.mem_filter.mpr ⟨List.mem_of_getElem? (i := 549) (by decide +kernel), by decide +kernel⟩
theorem wa_49 : (Cond.instanceMethod y_D_countWrite) ∈ jv_LT := List.mem_filter.mpr ⟨List.mem_of_getElem? (i := 551) (by decide +kernel), by decide +kernel⟩
theorem wa_50 : (Cond.selects R_Disk y_D_countWrite y_D_countWrite) ∈ jv_LT := List.mem_filter.mpr ⟨List.mem_of_getElem? (i := 14) (by decide +kernel), by decide +kernel⟩
theorem wa_51 : (Cond.code y_D_changedBlocks prog_4_method_11_code 3 (some .int)) ∈ jv_LT := List.mem_filter.mpr ⟨List.mem_of_getElem? (i := 544) (by decide +kernel), by decide +kernel⟩
theorem wa_52 : (Cond.methodLink R_Disk 38 y_D_changedBlocks) ∈ jv_LT := List.mem_filter.mpr ⟨List.mem_of_getElem? (i := 541) (by decide +kernel), by decide +kernel⟩
theorem wa_53 : (Cond.instanceMethod y_D_changedBlocks) ∈ jv_LT := List.mem_filter.mpr ⟨List.mem_of_getElem? (i := 543) (by decide +kernel), by decide +kernel⟩
theorem wa_54 : (Cond.selects R_Disk y_D_changedBlocks y_D_changedBlocks) ∈ jv_LT := List.mem_filter.mpr ⟨List.mem_of_getElem? (i := 12) (by decide +kernel), by decide +kernel⟩
theorem wa_55 : (Cond.code y_D_fillJournal prog_4_method_12_code 4 (some .boolean)) ∈ jv_LT := List.mem_filter.mpr ⟨List.mem_of_getElem? (i := 548) (by decide +kernel), by decide +kernel⟩
theorem wa_56 : (Cond.methodLink R_Disk 42 y_D_fillJournal) ∈ jv_LT := List.mem_filter.mpr ⟨List.mem_of_getElem? (i := 545) (by decide +kernel), by decide +kernel⟩
theorem wa_57 : (Cond.instanceMethod y_D_fillJournal) ∈ jv_LT := List.mem_filter.mpr ⟨List.mem_of_getElem? (i := 547) (by decide +kernel), by decide +kernel⟩
theorem wa_58 : (Cond.selects R_Disk y_D_fillJournal y_D_fillJournal) ∈ jv_LT := List.mem_filter.mpr ⟨List.mem_of_getElem? (i := 13) (by decide +kernel), by decide +kernel⟩
theorem wa_59 : (Cond.code y_D_setMark prog_4_method_14_code 3 (some .boolean)) ∈ jv_LT := List.mem_filter.mpr ⟨List.mem_of_getElem? (i := 560) (by decide +kernel), by decide +kernel⟩
theorem wa_60 : (Cond.methodLink R_Disk 46 y_D_setMark) ∈ jv_LT := List.mem_filter.mpr ⟨List.mem_of_getElem? (i := 557) (by decide +kernel), by decide +kernel⟩
theorem wa_61 : (Cond.instanceMethod y_D_setMark) ∈ jv_LT := List.mem_filter.mpr ⟨List.mem_of_getElem? (i := 559) (by decide +kernel), by decide +kernel⟩
theorem wa_62 : (Cond.selects R_Disk y_D_setMark y_D_setMark) ∈ jv_LT := List.mem_filter.mpr ⟨List.mem_of_getElem? (i := 15) (by decide +kernel), by decide +kernel⟩
theorem wa_63 : (Cond.code y_D_fillPlaces prog_4_method_13_code 3 (some .boolean)) ∈ jv_LT := List.mem_filter.mpr ⟨List.mem_of_getElem? (i := 564) (by decide +kernel), by decide +kernel⟩
theorem wa_64 : (Cond.methodLink R_Disk 50 y_D_fillPlaces) ∈ jv_LT := List.mem_filter.mpr ⟨List.mem_of_getElem? (i := 561) (by decide +kernel), by decide +kernel⟩
theorem wa_65 : (Cond.instanceMethod y_D_fillPlaces) ∈ jv_LT := List.mem_filter.mpr ⟨List.mem_of_getElem? (i := 563) (by decide +kernel), by decide +kernel⟩
theorem wa_66 : (Cond.selects R_Disk y_D_fillPlaces y_D_fillPlaces) ∈ jv_LT := List.mem_filter.mpr ⟨List.mem_of_getElem? (i := 16) (by decide +kernel), by decide +kernel⟩
theorem wa_67 : (Cond.fieldLink R_Tree 9 R_Tree "disk" "LLabelVault$Disk;") ∈ jv_LT := List.mem_filter.mpr ⟨List.mem_of_getElem? (i := 329) (by decide +kernel), by decide +kernel⟩
theorem wa_68 : (Cond.code y_D_inodeWord prog_4_method_5_code 3 (some .int)) ∈ jv_LT := List.mem_filter.mpr ⟨List.mem_of_getElem? (i := 174) (by decide +kernel), by decide +kernel⟩
theorem wa_69 : (Cond.methodLink R_Tree 15 y_D_inodeWord) ∈ jv_LT := List.mem_filter.mpr ⟨List.mem_of_getElem? (i := 171) (by decide +kernel), by decide +kernel⟩
theorem wa_70 : (Cond.instanceMethod y_D_inodeWord) ∈ jv_LT := List.mem_filter.mpr ⟨List.mem_of_getElem? (i := 172) (by decide +kernel), by decide +kernel⟩
theorem wa_71 : (Cond.selects R_Disk y_D_inodeWord y_D_inodeWord) ∈ jv_LT := List.mem_filter.mpr ⟨List.mem_of_getElem? (i := 173) (by decide +kernel), by decide +kernel⟩
theorem wa_72 : (Cond.code y_P_lengthOf prog_7_method_6_code 3 (some .int)) ∈ jv_LT := List.mem_filter.mpr ⟨List.mem_of_getElem? (i := 464) (by decide +kernel), by decide +kernel⟩
theorem wa_73 : (Cond.methodLink R_Tree 21 y_P_lengthOf) ∈ jv_LT := List.mem_filter.mpr ⟨List.mem_of_getElem? (i := 462) (by decide +kernel), by decide +kernel⟩
theorem wa_74 : (Cond.static y_P_lengthOf) ∈ jv_LT := List.mem_filter.mpr ⟨List.mem_of_getElem? (i := 463) (by decide +kernel), by decide +kernel⟩
theorem wa_75 : (Cond.methodLink R_Tree 27 y_P_without) ∈ jv_LT := List.mem_filter.mpr ⟨List.mem_of_getElem? (i := 468) (by decide +kernel), by decide +kernel⟩
theorem wa_76 : (Cond.methodLink R_Tree 30 y_P_lastName) ∈ jv_LT := List.mem_filter.mpr ⟨List.mem_of_getElem? (i := 469) (by decide +kernel), by decide +kernel⟩
theorem wa_77 : (Cond.code y_T_childNamed prog_8_method_15_code 4 (some .int)) ∈ jv_LT := List.mem_filter.mpr ⟨List.mem_of_getElem? (i := 473) (by decide +kernel), by decide +kernel⟩
theorem wa_78 : (Cond.initialized R_Tree) ∈ jv_LT := List.mem_filter.mpr ⟨List.mem_of_getElem? (i := 61) (by decide +kernel), by decide +kernel⟩
theorem wa_79 : (Cond.methodLink R_Tree 33 y_T_childNamed) ∈ jv_LT := List.mem_filter.mpr ⟨List.mem_of_getElem? (i := 470) (by decide +kernel), by decide +kernel⟩
theorem wa_80 : (Cond.instanceMethod y_T_childNamed) ∈ jv_LT := List.mem_filter.mpr ⟨List.mem_of_getElem? (i := 472) (by decide +kernel), by decide +kernel⟩
theorem wa_81 : (Cond.selects R_Tree y_T_childNamed y_T_childNamed) ∈ jv_LT := List.mem_filter.mpr ⟨List.mem_of_getElem? (i := 9) (by decide +kernel), by decide +kernel⟩
theorem wa_82 : (Cond.code y_T_find prog_8_method_5_code 4 (some .int)) ∈ jv_LT := List.mem_filter.mpr ⟨List.mem_of_getElem? (i := 461) (by decide +kernel), by decide +kernel⟩
theorem wa_83 : (Cond.methodLink R_Tree 36 y_T_find) ∈ jv_LT := List.mem_filter.mpr ⟨List.mem_of_getElem? (i := 458) (by decide +kernel), by decide +kernel⟩
theorem wa_84 : (Cond.instanceMethod y_T_find) ∈ jv_LT := List.mem_filter.mpr ⟨List.mem_of_getElem? (i := 459) (by decide +kernel), by decide +kernel⟩
theorem wa_85 : (Cond.selects R_Tree y_T_find y_T_find) ∈ jv_LT := List.mem_filter.mpr ⟨List.mem_of_getElem? (i := 460) (by decide +kernel), by decide +kernel⟩
theorem wa_86 : (Cond.code y_T_kindOf prog_8_method_2_code 2 (some .int)) ∈ jv_LT := List.mem_filter.mpr ⟨List.mem_of_getElem? (i := 170) (by decide +kernel), by decide +kernel⟩
theorem wa_87 : (Cond.methodLink R_Tree 39 y_T_kindOf) ∈ jv_LT := List.mem_filter.mpr ⟨List.mem_of_getElem? (i := 167) (by decide +kernel), by decide +kernel⟩
theorem wa_88 : (Cond.instanceMethod y_T_kindOf) ∈ jv_LT := List.mem_filter.mpr ⟨List.mem_of_getElem? (i := 168) (by decide +kernel), by decide +kernel⟩
theorem wa_89 : (Cond.selects R_Tree y_T_kindOf y_T_kindOf) ∈ jv_LT := List.mem_filter.mpr ⟨List.mem_of_getElem? (i := 169) (by decide +kernel), by decide +kernel⟩
theorem wa_90 : (Cond.code y_T_kindAt prog_8_method_6_code 3 (some .int)) ∈ jv_LT := List.mem_filter.mpr ⟨List.mem_of_getElem? (i := 457) (by decide +kernel), by decide +kernel⟩
theorem wa_91 : (Cond.methodLink R_Tree 42 y_T_kindAt) ∈ jv_LT := List.mem_filter.mpr ⟨List.mem_of_getElem? (i := 494) (by decide +kernel), by decide +kernel⟩
theorem wa_92 : (Cond.instanceMethod y_T_kindAt) ∈ jv_LT := List.mem_filter.mpr ⟨List.mem_of_getElem? (i := 455) (by decide +kernel), by decide +kernel⟩
theorem wa_93 : (Cond.selects R_Tree y_T_kindAt y_T_kindAt) ∈ jv_LT := List.mem_filter.mpr ⟨List.mem_of_getElem? (i := 456) (by decide +kernel), by decide +kernel⟩
theorem wa_94 : (Cond.code y_T_parentOf prog_8_method_3_code 2 (some .int)) ∈ jv_LT := List.mem_filter.mpr ⟨List.mem_of_getElem? (i := 671) (by decide +kernel), by decide +kernel⟩
theorem wa_95 : (Cond.methodLink R_Tree 57 y_T_parentOf) ∈ jv_LT := List.mem_filter.mpr ⟨List.mem_of_getElem? (i := 668) (by decide +kernel), by decide +kernel⟩
theorem wa_96 : (Cond.instanceMethod y_T_parentOf) ∈ jv_LT := List.mem_filter.mpr ⟨List.mem_of_getElem? (i := 670) (by decide +kernel), by decide +kernel⟩
theorem wa_97 : (Cond.selects R_Tree y_T_parentOf y_T_parentOf) ∈ jv_LT := List.mem_filter.mpr ⟨List.mem_of_getElem? (i := 27) (by decide +kernel), by decide +kernel⟩
theorem wa_98 : (Cond.code y_T_nameOf prog_8_method_4_code 2 (some .int)) ∈ jv_LT := List.mem_filter.mpr ⟨List.mem_of_getElem? (i := 755) (by decide +kernel), by decide +kernel⟩
theorem wa_99 : (Cond.methodLink R_Tree 60 y_T_nameOf) ∈ jv_LT := List.mem_filter.mpr ⟨List.mem_of_getElem? (i := 752) (by decide +kernel), by decide +kernel⟩
theorem wa_100 : (Cond.instanceMethod y_T_nameOf) ∈ jv_LT := List.mem_filter.mpr ⟨List.mem_of_getElem? (i := 754) (by decide +kernel), by decide +kernel⟩
theorem wa_101 : (Cond.selects R_Tree y_T_nameOf y_T_nameOf) ∈ jv_LT := List.mem_filter.mpr ⟨List.mem_of_getElem? (i := 29) (by decide +kernel), by decide +kernel⟩
theorem wa_102 : (Cond.code y_T_childrenOf prog_8_method_12_code 4 (some .int)) ∈ jv_LT := List.mem_filter.mpr ⟨List.mem_of_getElem? (i := 667) (by decide +kernel), by decide +kernel⟩
theorem wa_103 : (Cond.methodLink R_Tree 63 y_T_childrenOf) ∈ jv_LT := List.mem_filter.mpr ⟨List.mem_of_getElem? (i := 699) (by decide +kernel), by decide +kernel⟩
theorem wa_104 : (Cond.instanceMethod y_T_childrenOf) ∈ jv_LT := List.mem_filter.mpr ⟨List.mem_of_getElem? (i := 665) (by decide +kernel), by decide +kernel⟩
theorem wa_105 : (Cond.selects R_Tree y_T_childrenOf y_T_childrenOf) ∈ jv_LT := List.mem_filter.mpr ⟨List.mem_of_getElem? (i := 666) (by decide +kernel), by decide +kernel⟩
theorem wa_106 : (Cond.code y_D_putInodeWord prog_4_method_6_code 4 none) ∈ jv_LT := List.mem_filter.mpr ⟨List.mem_of_getElem? (i := 524) (by decide +kernel), by decide +kernel⟩
theorem wa_107 : (Cond.methodLink R_Tree 49 y_D_putInodeWord) ∈ jv_LT := List.mem_filter.mpr ⟨List.mem_of_getElem? (i := 521) (by decide +kernel), by decide +kernel⟩
theorem wa_108 : (Cond.instanceMethod y_D_putInodeWord) ∈ jv_LT := List.mem_filter.mpr ⟨List.mem_of_getElem? (i := 522) (by decide +kernel), by decide +kernel⟩
theorem wa_109 : (Cond.selects R_Disk y_D_putInodeWord y_D_putInodeWord) ∈ jv_LT := List.mem_filter.mpr ⟨List.mem_of_getElem? (i := 523) (by decide +kernel), by decide +kernel⟩
theorem wa_110 : (Cond.code y_D_zeroFrom prog_4_method_7_code 4 none) ∈ jv_LT := List.mem_filter.mpr ⟨List.mem_of_getElem? (i := 607) (by decide +kernel), by decide +kernel⟩
theorem wa_111 : (Cond.methodLink R_Tree 53 y_D_zeroFrom) ∈ jv_LT := List.mem_filter.mpr ⟨List.mem_of_getElem? (i := 681) (by decide +kernel), by decide +kernel⟩
theorem wa_112 : (Cond.instanceMethod y_D_zeroFrom) ∈ jv_LT := List.mem_filter.mpr ⟨List.mem_of_getElem? (i := 605) (by decide +kernel), by decide +kernel⟩
theorem wa_113 : (Cond.selects R_Disk y_D_zeroFrom y_D_zeroFrom) ∈ jv_LT := List.mem_filter.mpr ⟨List.mem_of_getElem? (i := 606) (by decide +kernel), by decide +kernel⟩
theorem wa_114 : (Cond.code y_T_hang prog_8_method_9_code 4 none) ∈ jv_LT := List.mem_filter.mpr ⟨List.mem_of_getElem? (i := 528) (by decide +kernel), by decide +kernel⟩
theorem wa_115 : (Cond.methodLink R_Tree 66 y_T_hang) ∈ jv_LT := List.mem_filter.mpr ⟨List.mem_of_getElem? (i := 525) (by decide +kernel), by decide +kernel⟩
theorem wa_116 : (Cond.instanceMethod y_T_hang) ∈ jv_LT := List.mem_filter.mpr ⟨List.mem_of_getElem? (i := 526) (by decide +kernel), by decide +kernel⟩
theorem wa_117 : (Cond.selects R_Tree y_T_hang y_T_hang) ∈ jv_LT := List.mem_filter.mpr ⟨List.mem_of_getElem? (i := 527) (by decide +kernel), by decide +kernel⟩
theorem wa_118 : (Cond.code y_T_take prog_8_method_16_code 5 (some .int)) ∈ jv_LT := List.mem_filter.mpr ⟨List.mem_of_getElem? (i := 520) (by decide +kernel), by decide +kernel⟩
theorem wa_119 : (Cond.methodLink R_Tree 45 y_T_take) ∈ jv_LT := List.mem_filter.mpr ⟨List.mem_of_getElem? (i := 517) (by decide +kernel), by decide +kernel⟩
theorem wa_120 : (Cond.instanceMethod y_T_take) ∈ jv_LT := List.mem_filter.mpr ⟨List.mem_of_getElem? (i := 519) (by decide +kernel), by decide +kernel⟩
theorem wa_121 : (Cond.selects R_Tree y_T_take y_T_take) ∈ jv_LT := List.mem_filter.mpr ⟨List.mem_of_getElem? (i := 10) (by decide +kernel), by decide +kernel⟩
theorem wa_122 : (Cond.fieldLink R_Cont 9 R_Cont "disk" "LLabelVault$Disk;") ∈ jv_LT := List.mem_filter.mpr ⟨List.mem_of_getElem? (i := 339) (by decide +kernel), by decide +kernel⟩
theorem wa_123 : (Cond.methodLink R_Cont 15 y_D_inodeWord) ∈ jv_LT := List.mem_filter.mpr ⟨List.mem_of_getElem? (i := 622) (by decide +kernel), by decide +kernel⟩
theorem wa_124 : (Cond.code y_D_get prog_4_method_3_code 3 (some .int)) ∈ jv_LT := List.mem_filter.mpr ⟨List.mem_of_getElem? (i := 156) (by decide +kernel), by decide +kernel⟩
theorem wa_125 : (Cond.methodLink R_Cont 28 y_D_get) ∈ jv_LT := List.mem_filter.mpr ⟨List.mem_of_getElem? (i := 153) (by decide +kernel), by decide +kernel⟩
theorem wa_126 : (Cond.instanceMethod y_D_get) ∈ jv_LT := List.mem_filter.mpr ⟨List.mem_of_getElem? (i := 154) (by decide +kernel), by decide +kernel⟩
theorem wa_127 : (Cond.selects R_Disk y_D_get y_D_get) ∈ jv_LT := List.mem_filter.mpr ⟨List.mem_of_getElem? (i := 155) (by decide +kernel), by decide +kernel⟩
theorem wa_128 : (Cond.code y_C_blockBehind prog_3_method_8_code 1 (some .int)) ∈ jv_LT := List.mem_filter.mpr ⟨List.mem_of_getElem? (i := 610) (by decide +kernel), by decide +kernel⟩
theorem wa_129 : (Cond.initialized R_Cont) ∈ jv_LT := List.mem_filter.mpr ⟨List.mem_of_getElem? (i := 62) (by decide +kernel), by decide +kernel⟩
theorem wa_130 : (Cond.methodLink R_Cont 24 y_C_blockBehind) ∈ jv_LT := List.mem_filter.mpr ⟨List.mem_of_getElem? (i := 608) (by decide +kernel), by decide +kernel⟩
theorem wa_131 : (Cond.static y_C_blockBehind) ∈ jv_LT := List.mem_filter.mpr ⟨List.mem_of_getElem? (i := 609) (by decide +kernel), by decide +kernel⟩
theorem wa_132 : (Cond.code y_C_holderOf prog_3_method_9_code 4 (some .int)) ∈ jv_LT := List.mem_filter.mpr ⟨List.mem_of_getElem? (i := 614) (by decide +kernel), by decide +kernel⟩
theorem wa_133 : (Cond.methodLink R_Cont 44 y_C_holderOf) ∈ jv_LT := List.mem_filter.mpr ⟨List.mem_of_getElem? (i := 611) (by decide +kernel), by decide +kernel⟩
theorem wa_134 : (Cond.instanceMethod y_C_holderOf) ∈ jv_LT := List.mem_filter.mpr ⟨List.mem_of_getElem? (i := 613) (by decide +kernel), by decide +kernel⟩
theorem wa_135 : (Cond.selects R_Cont y_C_holderOf y_C_holderOf) ∈ jv_LT := List.mem_filter.mpr ⟨List.mem_of_getElem? (i := 21) (by decide +kernel), by decide +kernel⟩
theorem wa_136 : (Cond.code y_C_wordInHolder prog_3_method_10_code 1 (some .int)) ∈ jv_LT := List.mem_filter.mpr ⟨List.mem_of_getElem? (i := 617) (by decide +kernel), by decide +kernel⟩
theorem wa_137 : (Cond.methodLink R_Cont 47 y_C_wordInHolder) ∈ jv_LT := List.mem_filter.mpr ⟨List.mem_of_getElem? (i := 615) (by decide +kernel), by decide +kernel⟩
theorem wa_138 : (Cond.static y_C_wordInHolder) ∈ jv_LT := List.mem_filter.mpr ⟨List.mem_of_getElem? (i := 616) (by decide +kernel), by decide +kernel⟩
theorem wa_139 : (Cond.code y_C_pointerTo prog_3_method_11_code 4 (some .int)) ∈ jv_LT := List.mem_filter.mpr ⟨List.mem_of_getElem? (i := 656) (by decide +kernel), by decide +kernel⟩
theorem wa_140 : (Cond.methodLink R_Cont 21 y_C_pointerTo) ∈ jv_LT := List.mem_filter.mpr ⟨List.mem_of_getElem? (i := 653) (by decide +kernel), by decide +kernel⟩
theorem wa_141 : (Cond.instanceMethod y_C_pointerTo) ∈ jv_LT := List.mem_filter.mpr ⟨List.mem_of_getElem? (i := 655) (by decide +kernel), by decide +kernel⟩
theorem wa_142 : (Cond.selects R_Cont y_C_pointerTo y_C_pointerTo) ∈ jv_LT := List.mem_filter.mpr ⟨List.mem_of_getElem? (i := 26) (by decide +kernel), by decide +kernel⟩
theorem wa_143 : (Cond.code y_D_put prog_4_method_4_code 4 none) ∈ jv_LT := List.mem_filter.mpr ⟨List.mem_of_getElem? (i := 603) (by decide +kernel), by decide +kernel⟩
theorem wa_144 : (Cond.methodLink R_Cont 34 y_D_put) ∈ jv_LT := List.mem_filter.mpr ⟨List.mem_of_getElem? (i := 600) (by decide +kernel), by decide +kernel⟩
theorem wa_145 : (Cond.instanceMethod y_D_put) ∈ jv_LT := List.mem_filter.mpr ⟨List.mem_of_getElem? (i := 601) (by decide +kernel), by decide +kernel⟩
theorem wa_146 : (Cond.selects R_Disk y_D_put y_D_put) ∈ jv_LT := List.mem_filter.mpr ⟨List.mem_of_getElem? (i := 602) (by decide +kernel), by decide +kernel⟩
theorem wa_147 : (Cond.methodLink R_Cont 76 y_D_zeroFrom) ∈ jv_LT := List.mem_filter.mpr ⟨List.mem_of_getElem? (i := 604) (by decide +kernel), by decide +kernel⟩
theorem wa_148 : (Cond.code y_C_takePointer prog_3_method_14_code 3 (some .int)) ∈ jv_LT := List.mem_filter.mpr ⟨List.mem_of_getElem? (i := 599) (by decide +kernel), by decide +kernel⟩
theorem wa_149 : (Cond.methodLink R_Cont 72 y_C_takePointer) ∈ jv_LT := List.mem_filter.mpr ⟨List.mem_of_getElem? (i := 596) (by decide +kernel), by decide +kernel⟩
theorem wa_150 : (Cond.instanceMethod y_C_takePointer) ∈ jv_LT := List.mem_filter.mpr ⟨List.mem_of_getElem? (i := 598) (by decide +kernel), by decide +kernel⟩
theorem wa_151 : (Cond.selects R_Cont y_C_takePointer y_C_takePointer) ∈ jv_LT := List.mem_filter.mpr ⟨List.mem_of_getElem? (i := 20) (by decide +kernel), by decide +kernel⟩
theorem wa_152 : (Cond.code y_C_takeBehind prog_3_method_13_code 3 (some .int)) ∈ jv_LT := List.mem_filter.mpr ⟨List.mem_of_getElem? (i := 595) (by decide +kernel), by decide +kernel⟩
theorem wa_153 : (Cond.methodLink R_Cont 69 y_C_takeBehind) ∈ jv_LT := List.mem_filter.mpr ⟨List.mem_of_getElem? (i := 592) (by decide +kernel), by decide +kernel⟩
theorem wa_154 : (Cond.instanceMethod y_C_takeBehind) ∈ jv_LT := List.mem_filter.mpr ⟨List.mem_of_getElem? (i := 594) (by decide +kernel), by decide +kernel⟩
theorem wa_155 : (Cond.selects R_Cont y_C_takeBehind y_C_takeBehind) ∈ jv_LT := List.mem_filter.mpr ⟨List.mem_of_getElem? (i := 19) (by decide +kernel), by decide +kernel⟩
theorem wa_156 : (Cond.code y_C_takenBlock prog_3_method_12_code 4 (some .int)) ∈ jv_LT := List.mem_filter.mpr ⟨List.mem_of_getElem? (i := 591) (by decide +kernel), by decide +kernel⟩
theorem wa_157 : (Cond.methodLink R_Cont 31 y_C_takenBlock) ∈ jv_LT := List.mem_filter.mpr ⟨List.mem_of_getElem? (i := 588) (by decide +kernel), by decide +kernel⟩
theorem wa_158 : (Cond.instanceMethod y_C_takenBlock) ∈ jv_LT := List.mem_filter.mpr ⟨List.mem_of_getElem? (i := 590) (by decide +kernel), by decide +kernel⟩
theorem wa_159 : (Cond.selects R_Cont y_C_takenBlock y_C_takenBlock) ∈ jv_LT := List.mem_filter.mpr ⟨List.mem_of_getElem? (i := 18) (by decide +kernel), by decide +kernel⟩
theorem wa_160 : (Cond.code y_C_sizeOf prog_3_method_2_code 2 (some .int)) ∈ jv_LT := List.mem_filter.mpr ⟨List.mem_of_getElem? (i := 621) (by decide +kernel), by decide +kernel⟩
theorem wa_161 : (Cond.methodLink R_Cont 38 y_C_sizeOf) ∈ jv_LT := List.mem_filter.mpr ⟨List.mem_of_getElem? (i := 618) (by decide +kernel), by decide +kernel⟩
theorem wa_162 : (Cond.instanceMethod y_C_sizeOf) ∈ jv_LT := List.mem_filter.mpr ⟨List.mem_of_getElem? (i := 619) (by decide +kernel), by decide +kernel⟩
theorem wa_163 : (Cond.selects R_Cont y_C_sizeOf y_C_sizeOf) ∈ jv_LT := List.mem_filter.mpr ⟨List.mem_of_getElem? (i := 620) (by decide +kernel), by decide +kernel⟩
theorem wa_164 : (Cond.methodLink R_Cont 41 y_D_putInodeWord) ∈ jv_LT := List.mem_filter.mpr ⟨List.mem_of_getElem? (i := 623) (by decide +kernel), by decide +kernel⟩
theorem wa_165 : (Cond.code y_C_release prog_3_method_16_code 2 (some .int)) ∈ jv_LT := List.mem_filter.mpr ⟨List.mem_of_getElem? (i := 644) (by decide +kernel), by decide +kernel⟩
theorem wa_166 : (Cond.methodLink R_Cont 61 y_C_release) ∈ jv_LT := List.mem_filter.mpr ⟨List.mem_of_getElem? (i := 641) (by decide +kernel), by decide +kernel⟩
theorem wa_167 : (Cond.instanceMethod y_C_release) ∈ jv_LT := List.mem_filter.mpr ⟨List.mem_of_getElem? (i := 643) (by decide +kernel), by decide +kernel⟩
theorem wa_168 : (Cond.selects R_Cont y_C_release y_C_release) ∈ jv_LT := List.mem_filter.mpr ⟨List.mem_of_getElem? (i := 23) (by decide +kernel), by decide +kernel⟩
theorem wa_169 : (Cond.code y_C_isIndirectEmpty prog_3_method_17_code 4 (some .boolean)) ∈ jv_LT := List.mem_filter.mpr ⟨List.mem_of_getElem? (i := 648) (by decide +kernel), by decide +kernel⟩
theorem wa_170 : (Cond.methodLink R_Cont 53 y_C_isIndirectEmpty) ∈ jv_LT := List.mem_filter.mpr ⟨List.mem_of_getElem? (i := 645) (by decide +kernel), by decide +kernel⟩
theorem wa_171 : (Cond.instanceMethod y_C_isIndirectEmpty) ∈ jv_LT := List.mem_filter.mpr ⟨List.mem_of_getElem? (i := 647) (by decide +kernel), by decide +kernel⟩
theorem wa_172 : (Cond.selects R_Cont y_C_isIndirectEmpty y_C_isIndirectEmpty) ∈ jv_LT := List.mem_filter.mpr ⟨List.mem_of_getElem? (i := 24) (by decide +kernel), by decide +kernel⟩
theorem wa_173 : (Cond.code y_C_zeroBehind prog_3_method_18_code 4 none) ∈ jv_LT := List.mem_filter.mpr ⟨List.mem_of_getElem? (i := 652) (by decide +kernel), by decide +kernel⟩
theorem wa_174 : (Cond.methodLink R_Cont 57 y_C_zeroBehind) ∈ jv_LT := List.mem_filter.mpr ⟨List.mem_of_getElem? (i := 649) (by decide +kernel), by decide +kernel⟩
theorem wa_175 : (Cond.instanceMethod y_C_zeroBehind) ∈ jv_LT := List.mem_filter.mpr ⟨List.mem_of_getElem? (i := 651) (by decide +kernel), by decide +kernel⟩
theorem wa_176 : (Cond.selects R_Cont y_C_zeroBehind y_C_zeroBehind) ∈ jv_LT := List.mem_filter.mpr ⟨List.mem_of_getElem? (i := 25) (by decide +kernel), by decide +kernel⟩
theorem wa_177 : (Cond.code y_C_dropPointer prog_3_method_15_code 4 (some .int)) ∈ jv_LT := List.mem_filter.mpr ⟨List.mem_of_getElem? (i := 640) (by decide +kernel), by decide +kernel⟩
theorem wa_178 : (Cond.methodLink R_Cont 50 y_C_dropPointer) ∈ jv_LT := List.mem_filter.mpr ⟨List.mem_of_getElem? (i := 637) (by decide +kernel), by decide +kernel⟩
theorem wa_179 : (Cond.instanceMethod y_C_dropPointer) ∈ jv_LT := List.mem_filter.mpr ⟨List.mem_of_getElem? (i := 639) (by decide +kernel), by decide +kernel⟩
theorem wa_180 : (Cond.selects R_Cont y_C_dropPointer y_C_dropPointer) ∈ jv_LT := List.mem_filter.mpr ⟨List.mem_of_getElem? (i := 22) (by decide +kernel), by decide +kernel⟩
theorem wa_181 : (Cond.constant R_Integer 265 1431655765) ∈ jv_LT := List.mem_filter.mpr ⟨List.mem_of_getElem? (i := 160) (by decide +kernel), by decide +kernel⟩
theorem wa_182 : (Cond.constant R_Integer 266 858993459) ∈ jv_LT := List.mem_filter.mpr ⟨List.mem_of_getElem? (i := 161) (by decide +kernel), by decide +kernel⟩
theorem wa_183 : (Cond.constant R_Integer 267 252645135) ∈ jv_LT := List.mem_filter.mpr ⟨List.mem_of_getElem? (i := 162) (by decide +kernel), by decide +kernel⟩
theorem wa_184 : (Cond.code y_J_bitCount prog_15_method_49_code 1 (some .int)) ∈ jv_LT := List.mem_filter.mpr ⟨List.mem_of_getElem? (i := 159) (by decide +kernel), by decide +kernel⟩
theorem wa_185 : (Cond.initialized R_Integer) ∈ jv_LT := List.mem_filter.mpr ⟨List.mem_of_getElem? (i := 69) (by decide +kernel), by decide +kernel⟩
theorem wa_186 : (Cond.methodLink R_Cont 64 y_J_bitCount) ∈ jv_LT := List.mem_filter.mpr ⟨List.mem_of_getElem? (i := 157) (by decide +kernel), by decide +kernel⟩
theorem wa_187 : (Cond.static y_J_bitCount) ∈ jv_LT := List.mem_filter.mpr ⟨List.mem_of_getElem? (i := 158) (by decide +kernel), by decide +kernel⟩
theorem wa_188 : (Cond.fieldLink R_Area 9 R_Area "users" "[I") ∈ jv_LT := List.mem_filter.mpr ⟨List.mem_of_getElem? (i := 345) (by decide +kernel), by decide +kernel⟩
theorem wa_189 : (Cond.code y_J_fill prog_21_method_103_code 4 none) ∈ jv_LT := List.mem_filter.mpr ⟨List.mem_of_getElem? (i := 123) (by decide +kernel), by decide +kernel⟩
theorem wa_190 : (Cond.initialized R_Arrays) ∈ jv_LT := List.mem_filter.mpr ⟨List.mem_of_getElem? (i := 63) (by decide +kernel), by decide +kernel⟩
theorem wa_191 : (Cond.methodLink R_Area 39 y_J_fill) ∈ jv_LT := List.mem_filter.mpr ⟨List.mem_of_getElem? (i := 121) (by decide +kernel), by decide +kernel⟩
theorem wa_192 : (Cond.static y_J_fill) ∈ jv_LT := List.mem_filter.mpr ⟨List.mem_of_getElem? (i := 122) (by decide +kernel), by decide +kernel⟩
theorem wa_193 : (Cond.code y_M_among prog_10_method_4_code 4 (some .boolean)) ∈ jv_LT := List.mem_filter.mpr ⟨List.mem_of_getElem? (i := 838) (by decide +kernel), by decide +kernel⟩
theorem wa_194 : (Cond.initialized R_Model) ∈ jv_LT := List.mem_filter.mpr ⟨List.mem_of_getElem? (i := 52) (by decide +kernel), by decide +kernel⟩
theorem wa_195 : (Cond.methodLink R_Model 35 y_M_among) ∈ jv_LT := List.mem_filter.mpr ⟨List.mem_of_getElem? (i := 836) (by decide +kernel), by decide +kernel⟩
theorem wa_196 : (Cond.static y_M_among) ∈ jv_LT := List.mem_filter.mpr ⟨List.mem_of_getElem? (i := 837) (by decide +kernel), by decide +kernel⟩
theorem wa_197 : (Cond.code y_M_names prog_10_method_13_code 6 (some .int)) ∈ jv_LT := List.mem_filter.mpr ⟨List.mem_of_getElem? (i := 872) (by decide +kernel), by decide +kernel⟩
theorem wa_198 : (Cond.methodLink R_Model 56 y_M_names) ∈ jv_LT := List.mem_filter.mpr ⟨List.mem_of_getElem? (i := 870) (by decide +kernel), by decide +kernel⟩
theorem wa_199 : (Cond.static y_M_names) ∈ jv_LT := List.mem_filter.mpr ⟨List.mem_of_getElem? (i := 871) (by decide +kernel), by decide +kernel⟩
theorem wa_200 : (Cond.fieldLink R_Model 32 R_Model "threw" "I") ∈ jv_LT := List.mem_filter.mpr ⟨List.mem_of_getElem? (i := 794) (by decide +kernel), by decide +kernel⟩
theorem wa_201 : (Cond.fieldLink R_Model 47 R_Model "areas" "I") ∈ jv_LT := List.mem_filter.mpr ⟨List.mem_of_getElem? (i := 795) (by decide +kernel), by decide +kernel⟩
theorem wa_202 : (Cond.fieldLink R_Model 16 R_Model "user" "[I") ∈ jv_LT := List.mem_filter.mpr ⟨List.mem_of_getElem? (i := 798) (by decide +kernel), by decide +kernel⟩
theorem wa_203 : (Cond.fieldLink R_Model 22 R_Model "disk" "[I") ∈ jv_LT := List.mem_filter.mpr ⟨List.mem_of_getElem? (i := 800) (by decide +kernel), by decide +kernel⟩
theorem wa_204 : (Cond.code y_M_prefix prog_10_method_15_code 4 (some .int)) ∈ jv_LT := List.mem_filter.mpr ⟨List.mem_of_getElem? (i := 875) (by decide +kernel), by decide +kernel⟩
theorem wa_205 : (Cond.methodLink R_Model 60 y_M_prefix) ∈ jv_LT := List.mem_filter.mpr ⟨List.mem_of_getElem? (i := 873) (by decide +kernel), by decide +kernel⟩
theorem wa_206 : (Cond.static y_M_prefix) ∈ jv_LT := List.mem_filter.mpr ⟨List.mem_of_getElem? (i := 874) (by decide +kernel), by decide +kernel⟩
theorem wa_207 : (Cond.code y_M_inode prog_10_method_16_code 4 (some .int)) ∈ jv_LT := List.mem_filter.mpr ⟨List.mem_of_getElem? (i := 895) (by decide +kernel), by decide +kernel⟩
theorem wa_208 : (Cond.methodLink R_Model 64 y_M_inode) ∈ jv_LT := List.mem_filter.mpr ⟨List.mem_of_getElem? (i := 892) (by decide +kernel), by decide +kernel⟩
theorem wa_209 : (Cond.instanceMethod y_M_inode) ∈ jv_LT := List.mem_filter.mpr ⟨List.mem_of_getElem? (i := 894) (by decide +kernel), by decide +kernel⟩
theorem wa_210 : (Cond.selects R_Model y_M_inode y_M_inode) ∈ jv_LT := List.mem_filter.mpr ⟨List.mem_of_getElem? (i := 36) (by decide +kernel), by decide +kernel⟩
theorem wa_211 : (Cond.code y_M_find prog_10_method_17_code 9 (some .int)) ∈ jv_LT := List.mem_filter.mpr ⟨List.mem_of_getElem? (i := 891) (by decide +kernel), by decide +kernel⟩
theorem wa_212 : (Cond.methodLink R_Model 68 y_M_find) ∈ jv_LT := List.mem_filter.mpr ⟨List.mem_of_getElem? (i := 888) (by decide +kernel), by decide +kernel⟩
theorem wa_213 : (Cond.instanceMethod y_M_find) ∈ jv_LT := List.mem_filter.mpr ⟨List.mem_of_getElem? (i := 890) (by decide +kernel), by decide +kernel⟩
theorem wa_214 : (Cond.selects R_Model y_M_find y_M_find) ∈ jv_LT := List.mem_filter.mpr ⟨List.mem_of_getElem? (i := 35) (by decide +kernel), by decide +kernel⟩
theorem wa_215 : (Cond.fieldLink R_Model 7 R_Model "label" "[I") ∈ jv_LT := List.mem_filter.mpr ⟨List.mem_of_getElem? (i := 796) (by decide +kernel), by decide +kernel⟩
theorem wa_216 : (Cond.code y_M_flow prog_10_method_5_code 2 (some .boolean)) ∈ jv_LT := List.mem_filter.mpr ⟨List.mem_of_getElem? (i := 835) (by decide +kernel), by decide +kernel⟩
theorem wa_217 : (Cond.methodLink R_Model 43 y_M_flow) ∈ jv_LT := List.mem_filter.mpr ⟨List.mem_of_getElem? (i := 833) (by decide +kernel), by decide +kernel⟩
theorem wa_218 : (Cond.static y_M_flow) ∈ jv_LT := List.mem_filter.mpr ⟨List.mem_of_getElem? (i := 834) (by decide +kernel), by decide +kernel⟩
theorem wa_219 : (Cond.code y_M_sees prog_10_method_19_code 3 (some .boolean)) ∈ jv_LT := List.mem_filter.mpr ⟨List.mem_of_getElem? (i := 883) (by decide +kernel), by decide +kernel⟩
theorem wa_220 : (Cond.methodLink R_Model 71 y_M_sees) ∈ jv_LT := List.mem_filter.mpr ⟨List.mem_of_getElem? (i := 880) (by decide +kernel), by decide +kernel⟩
theorem wa_221 : (Cond.instanceMethod y_M_sees) ∈ jv_LT := List.mem_filter.mpr ⟨List.mem_of_getElem? (i := 882) (by decide +kernel), by decide +kernel⟩
theorem wa_222 : (Cond.selects R_Model y_M_sees y_M_sees) ∈ jv_LT := List.mem_filter.mpr ⟨List.mem_of_getElem? (i := 33) (by decide +kernel), by decide +kernel⟩
theorem wa_223 : (Cond.code y_M_kind prog_10_method_18_code 4 (some .int)) ∈ jv_LT := List.mem_filter.mpr ⟨List.mem_of_getElem? (i := 887) (by decide +kernel), by decide +kernel⟩
theorem wa_224 : (Cond.methodLink R_Model 74 y_M_kind) ∈ jv_LT := List.mem_filter.mpr ⟨List.mem_of_getElem? (i := 884) (by decide +kernel), by decide +kernel⟩
theorem wa_225 : (Cond.instanceMethod y_M_kind) ∈ jv_LT := List.mem_filter.mpr ⟨List.mem_of_getElem? (i := 886) (by decide +kernel), by decide +kernel⟩
theorem wa_226 : (Cond.selects R_Model y_M_kind y_M_kind) ∈ jv_LT := List.mem_filter.mpr ⟨List.mem_of_getElem? (i := 34) (by decide +kernel), by decide +kernel⟩
theorem wa_227 : (Cond.code y_M_isSession prog_10_method_11_code 2 (some .boolean)) ∈ jv_LT := List.mem_filter.mpr ⟨List.mem_of_getElem? (i := 862) (by decide +kernel), by decide +kernel⟩
theorem wa_228 : (Cond.methodLink R_Model 53 y_M_isSession) ∈ jv_LT := List.mem_filter.mpr ⟨List.mem_of_getElem? (i := 859) (by decide +kernel), by decide +kernel⟩
theorem wa_229 : (Cond.instanceMethod y_M_isSession) ∈ jv_LT := List.mem_filter.mpr ⟨List.mem_of_getElem? (i := 861) (by decide +kernel), by decide +kernel⟩
theorem wa_230 : (Cond.selects R_Model y_M_isSession y_M_isSession) ∈ jv_LT := List.mem_filter.mpr ⟨List.mem_of_getElem? (i := 31) (by decide +kernel), by decide +kernel⟩
theorem wa_231 : (Cond.code y_M_isPath prog_10_method_14_code 1 (some .boolean)) ∈ jv_LT := List.mem_filter.mpr ⟨List.mem_of_getElem? (i := 869) (by decide +kernel), by decide +kernel⟩
theorem wa_232 : (Cond.methodLink R_Model 81 y_M_isPath) ∈ jv_LT := List.mem_filter.mpr ⟨List.mem_of_getElem? (i := 867) (by decide +kernel), by decide +kernel⟩
theorem wa_233 : (Cond.static y_M_isPath) ∈ jv_LT := List.mem_filter.mpr ⟨List.mem_of_getElem? (i := 868) (by decide +kernel), by decide +kernel⟩
theorem wa_234 : (Cond.code y_M_visible prog_10_method_20_code 7 (some .boolean)) ∈ jv_LT := List.mem_filter.mpr ⟨List.mem_of_getElem? (i := 879) (by decide +kernel), by decide +kernel⟩
theorem wa_235 : (Cond.methodLink R_Model 84 y_M_visible) ∈ jv_LT := List.mem_filter.mpr ⟨List.mem_of_getElem? (i := 876) (by decide +kernel), by decide +kernel⟩
theorem wa_236 : (Cond.instanceMethod y_M_visible) ∈ jv_LT := List.mem_filter.mpr ⟨List.mem_of_getElem? (i := 878) (by decide +kernel), by decide +kernel⟩
theorem wa_237 : (Cond.selects R_Model y_M_visible y_M_visible) ∈ jv_LT := List.mem_filter.mpr ⟨List.mem_of_getElem? (i := 32) (by decide +kernel), by decide +kernel⟩
theorem wa_238 : (Cond.fieldLink R_Model 25 R_Model "copy" "[I") ∈ jv_LT := List.mem_filter.mpr ⟨List.mem_of_getElem? (i := 801) (by decide +kernel), by decide +kernel⟩
theorem wa_239 : (Cond.code y_M_isArea prog_10_method_7_code 2 (some .boolean)) ∈ jv_LT := List.mem_filter.mpr ⟨List.mem_of_getElem? (i := 854) (by decide +kernel), by decide +kernel⟩
theorem wa_240 : (Cond.methodLink R_Model 50 y_M_isArea) ∈ jv_LT := List.mem_filter.mpr ⟨List.mem_of_getElem? (i := 851) (by decide +kernel), by decide +kernel⟩
theorem wa_241 : (Cond.instanceMethod y_M_isArea) ∈ jv_LT := List.mem_filter.mpr ⟨List.mem_of_getElem? (i := 853) (by decide +kernel), by decide +kernel⟩
theorem wa_242 : (Cond.selects R_Model y_M_isArea y_M_isArea) ∈ jv_LT := List.mem_filter.mpr ⟨List.mem_of_getElem? (i := 30) (by decide +kernel), by decide +kernel⟩
theorem wa_243 : (Cond.code y_M_isLabel prog_10_method_3_code 1 (some .boolean)) ∈ jv_LT := List.mem_filter.mpr ⟨List.mem_of_getElem? (i := 832) (by decide +kernel), by decide +kernel⟩
theorem wa_244 : (Cond.methodLink R_Model 39 y_M_isLabel) ∈ jv_LT := List.mem_filter.mpr ⟨List.mem_of_getElem? (i := 830) (by decide +kernel), by decide +kernel⟩
theorem wa_245 : (Cond.static y_M_isLabel) ∈ jv_LT := List.mem_filter.mpr ⟨List.mem_of_getElem? (i := 831) (by decide +kernel), by decide +kernel⟩
theorem wa_246 : (Cond.fieldLink R_Model 13 R_Model "clearance" "[I") ∈ jv_LT := List.mem_filter.mpr ⟨List.mem_of_getElem? (i := 797) (by decide +kernel), by decide +kernel⟩
theorem wa_247 : (Cond.fieldLink R_Model 28 R_Model "fuse" "I") ∈ jv_LT := List.mem_filter.mpr ⟨List.mem_of_getElem? (i := 802) (by decide +kernel), by decide +kernel⟩
theorem wa_248 : (Cond.fieldLink R_Model 19 R_Model "writes" "[I") ∈ jv_LT := List.mem_filter.mpr ⟨List.mem_of_getElem? (i := 799) (by decide +kernel), by decide +kernel⟩
theorem wa_249 : (Cond.code y_M_crashNow prog_10_method_22_code 3 (some .int)) ∈ jv_LT := List.mem_filter.mpr ⟨List.mem_of_getElem? (i := 911) (by decide +kernel), by decide +kernel⟩
theorem wa_250 : (Cond.methodLink R_Model 77 y_M_crashNow) ∈ jv_LT := List.mem_filter.mpr ⟨List.mem_of_getElem? (i := 908) (by decide +kernel), by decide +kernel⟩
theorem wa_251 : (Cond.instanceMethod y_M_crashNow) ∈ jv_LT := List.mem_filter.mpr ⟨List.mem_of_getElem? (i := 910) (by decide +kernel), by decide +kernel⟩
theorem wa_252 : (Cond.selects R_Model y_M_crashNow y_M_crashNow) ∈ jv_LT := List.mem_filter.mpr ⟨List.mem_of_getElem? (i := 40) (by decide +kernel), by decide +kernel⟩
theorem wa_253 : (Cond.code y_M_freeInodes prog_10_method_24_code 4 (some .int)) ∈ jv_LT := List.mem_filter.mpr ⟨List.mem_of_getElem? (i := 899) (by decide +kernel), by decide +kernel⟩
theorem wa_254 : (Cond.methodLink R_Model 88 y_M_freeInodes) ∈ jv_LT := List.mem_filter.mpr ⟨List.mem_of_getElem? (i := 896) (by decide +kernel), by decide +kernel⟩
theorem wa_255 : (Cond.instanceMethod y_M_freeInodes) ∈ jv_LT := List.mem_filter.mpr ⟨List.mem_of_getElem? (i := 898) (by decide +kernel), by decide +kernel⟩
theorem wa_256 : (Cond.selects R_Model y_M_freeInodes y_M_freeInodes) ∈ jv_LT := List.mem_filter.mpr ⟨List.mem_of_getElem? (i := 37) (by decide +kernel), by decide +kernel⟩
theorem wa_257 : (Cond.code y_M_start prog_10_method_21_code 3 none) ∈ jv_LT := List.mem_filter.mpr ⟨List.mem_of_getElem? (i := 903) (by decide +kernel), by decide +kernel⟩
theorem wa_258 : (Cond.methodLink R_Model 91 y_M_start) ∈ jv_LT := List.mem_filter.mpr ⟨List.mem_of_getElem? (i := 900) (by decide +kernel), by decide +kernel⟩
theorem wa_259 : (Cond.instanceMethod y_M_start) ∈ jv_LT := List.mem_filter.mpr ⟨List.mem_of_getElem? (i := 902) (by decide +kernel), by decide +kernel⟩
theorem wa_260 : (Cond.selects R_Model y_M_start y_M_start) ∈ jv_LT := List.mem_filter.mpr ⟨List.mem_of_getElem? (i := 38) (by decide +kernel), by decide +kernel⟩
theorem wa_261 : (Cond.code y_M_finish prog_10_method_23_code 8 (some .int)) ∈ jv_LT := List.mem_filter.mpr ⟨List.mem_of_getElem? (i := 907) (by decide +kernel), by decide +kernel⟩
theorem wa_262 : (Cond.methodLink R_Model 95 y_M_finish) ∈ jv_LT := List.mem_filter.mpr ⟨List.mem_of_getElem? (i := 904) (by decide +kernel), by decide +kernel⟩
theorem wa_263 : (Cond.instanceMethod y_M_finish) ∈ jv_LT := List.mem_filter.mpr ⟨List.mem_of_getElem? (i := 906) (by decide +kernel), by decide +kernel⟩
theorem wa_264 : (Cond.selects R_Model y_M_finish y_M_finish) ∈ jv_LT := List.mem_filter.mpr ⟨List.mem_of_getElem? (i := 39) (by decide +kernel), by decide +kernel⟩
theorem wa_265 : (Cond.code y_M_refusal prog_10_method_27_code 3 (some .int)) ∈ jv_LT := List.mem_filter.mpr ⟨List.mem_of_getElem? (i := 919) (by decide +kernel), by decide +kernel⟩
theorem wa_266 : (Cond.methodLink R_Model 98 y_M_refusal) ∈ jv_LT := List.mem_filter.mpr ⟨List.mem_of_getElem? (i := 916) (by decide +kernel), by decide +kernel⟩
theorem wa_267 : (Cond.instanceMethod y_M_refusal) ∈ jv_LT := List.mem_filter.mpr ⟨List.mem_of_getElem? (i := 918) (by decide +kernel), by decide +kernel⟩
theorem wa_268 : (Cond.selects R_Model y_M_refusal y_M_refusal) ∈ jv_LT := List.mem_filter.mpr ⟨List.mem_of_getElem? (i := 41) (by decide +kernel), by decide +kernel⟩
theorem wa_269 : (Cond.code y_M_pointer prog_10_method_29_code 4 (some .int)) ∈ jv_LT := List.mem_filter.mpr ⟨List.mem_of_getElem? (i := 923) (by decide +kernel), by decide +kernel⟩
theorem wa_270 : (Cond.methodLink R_Model 101 y_M_pointer) ∈ jv_LT := List.mem_filter.mpr ⟨List.mem_of_getElem? (i := 920) (by decide +kernel), by decide +kernel⟩
theorem wa_271 : (Cond.instanceMethod y_M_pointer) ∈ jv_LT := List.mem_filter.mpr ⟨List.mem_of_getElem? (i := 922) (by decide +kernel), by decide +kernel⟩
theorem wa_272 : (Cond.selects R_Model y_M_pointer y_M_pointer) ∈ jv_LT := List.mem_filter.mpr ⟨List.mem_of_getElem? (i := 42) (by decide +kernel), by decide +kernel⟩
theorem wa_273 : (Cond.code y_M_freeBlocks prog_10_method_25_code 4 (some .int)) ∈ jv_LT := List.mem_filter.mpr ⟨List.mem_of_getElem? (i := 927) (by decide +kernel), by decide +kernel⟩
theorem wa_274 : (Cond.methodLink R_Model 104 y_M_freeBlocks) ∈ jv_LT := List.mem_filter.mpr ⟨List.mem_of_getElem? (i := 924) (by decide +kernel), by decide +kernel⟩
theorem wa_275 : (Cond.instanceMethod y_M_freeBlocks) ∈ jv_LT := List.mem_filter.mpr ⟨List.mem_of_getElem? (i := 926) (by decide +kernel), by decide +kernel⟩
theorem wa_276 : (Cond.selects R_Model y_M_freeBlocks y_M_freeBlocks) ∈ jv_LT := List.mem_filter.mpr ⟨List.mem_of_getElem? (i := 43) (by decide +kernel), by decide +kernel⟩
theorem wa_277 : (Cond.code y_M_takeBlock prog_10_method_28_code 3 (some .int)) ∈ jv_LT := List.mem_filter.mpr ⟨List.mem_of_getElem? (i := 931) (by decide +kernel), by decide +kernel⟩
theorem wa_278 : (Cond.methodLink R_Model 107 y_M_takeBlock) ∈ jv_LT := List.mem_filter.mpr ⟨List.mem_of_getElem? (i := 928) (by decide +kernel), by decide +kernel⟩
theorem wa_279 : (Cond.instanceMethod y_M_takeBlock) ∈ jv_LT := List.mem_filter.mpr ⟨List.mem_of_getElem? (i := 930) (by decide +kernel), by decide +kernel⟩
theorem wa_280 : (Cond.selects R_Model y_M_takeBlock y_M_takeBlock) ∈ jv_LT := List.mem_filter.mpr ⟨List.mem_of_getElem? (i := 44) (by decide +kernel), by decide +kernel⟩
theorem wa_281 : (Cond.code y_M_release prog_10_method_31_code 3 (some .int)) ∈ jv_LT := List.mem_filter.mpr ⟨List.mem_of_getElem? (i := 939) (by decide +kernel), by decide +kernel⟩
theorem wa_282 : (Cond.methodLink R_Model 110 y_M_release) ∈ jv_LT := List.mem_filter.mpr ⟨List.mem_of_getElem? (i := 936) (by decide +kernel), by decide +kernel⟩
theorem wa_283 : (Cond.instanceMethod y_M_release) ∈ jv_LT := List.mem_filter.mpr ⟨List.mem_of_getElem? (i := 938) (by decide +kernel), by decide +kernel⟩
theorem wa_284 : (Cond.selects R_Model y_M_release y_M_release) ∈ jv_LT := List.mem_filter.mpr ⟨List.mem_of_getElem? (i := 45) (by decide +kernel), by decide +kernel⟩
theorem wa_285 : (Cond.code y_M_hasChild prog_10_method_33_code 5 (some .boolean)) ∈ jv_LT := List.mem_filter.mpr ⟨List.mem_of_getElem? (i := 947) (by decide +kernel), by decide +kernel⟩
theorem wa_286 : (Cond.methodLink R_Model 113 y_M_hasChild) ∈ jv_LT := List.mem_filter.mpr ⟨List.mem_of_getElem? (i := 944) (by decide +kernel), by decide +kernel⟩
theorem wa_287 : (Cond.instanceMethod y_M_hasChild) ∈ jv_LT := List.mem_filter.mpr ⟨List.mem_of_getElem? (i := 946) (by decide +kernel), by decide +kernel⟩
theorem wa_288 : (Cond.selects R_Model y_M_hasChild y_M_hasChild) ∈ jv_LT := List.mem_filter.mpr ⟨List.mem_of_getElem? (i := 46) (by decide +kernel), by decide +kernel⟩
theorem wa_289 : (Cond.code y_M_below prog_10_method_35_code 6 (some .int)) ∈ jv_LT := List.mem_filter.mpr ⟨List.mem_of_getElem? (i := 955) (by decide +kernel), by decide +kernel⟩
theorem wa_290 : (Cond.methodLink R_Model 116 y_M_below) ∈ jv_LT := List.mem_filter.mpr ⟨List.mem_of_getElem? (i := 952) (by decide +kernel), by decide +kernel⟩
theorem wa_291 : (Cond.instanceMethod y_M_below) ∈ jv_LT := List.mem_filter.mpr ⟨List.mem_of_getElem? (i := 954) (by decide +kernel), by decide +kernel⟩
theorem wa_292 : (Cond.selects R_Model y_M_below y_M_below) ∈ jv_LT := List.mem_filter.mpr ⟨List.mem_of_getElem? (i := 47) (by decide +kernel), by decide +kernel⟩
theorem wa_293 : (Cond.code y_M_unreadable prog_10_method_37_code 5 (some .int)) ∈ jv_LT := List.mem_filter.mpr ⟨List.mem_of_getElem? (i := 963) (by decide +kernel), by decide +kernel⟩
theorem wa_294 : (Cond.methodLink R_Model 119 y_M_unreadable) ∈ jv_LT := List.mem_filter.mpr ⟨List.mem_of_getElem? (i := 960) (by decide +kernel), by decide +kernel⟩
theorem wa_295 : (Cond.instanceMethod y_M_unreadable) ∈ jv_LT := List.mem_filter.mpr ⟨List.mem_of_getElem? (i := 962) (by decide +kernel), by decide +kernel⟩
theorem wa_296 : (Cond.selects R_Model y_M_unreadable y_M_unreadable) ∈ jv_LT := List.mem_filter.mpr ⟨List.mem_of_getElem? (i := 48) (by decide +kernel), by decide +kernel⟩
abbrev w_fuse (cI : ClassId) (q_fu : Nat) (vat : Int32) : va_W := [(q_fu, .inr (kFuse, [.int vat]))]
abbrev w_disk (cI : ClassId) (q_di q_pl q_dr q_jo : Nat) (vjn : Int32) (vmk : Int32) (vwr : Int32) (vP : Nat → Int32) (vD : Nat → Int32) (vJ : Nat → Int32) : va_W := [(q_di, .inr (kDisk, [.ref q_pl, .ref q_dr, .ref q_jo, .int vjn, .int vmk, .int vwr])), (q_pl, .inl (cI, 232, .inl vP)), (q_dr, .inl (cI, 232, .inl vD)), (q_jo, .inl (cI, 232, .inl vJ))]
abbrev w_dfu (cI : ClassId) (q_di q_pl q_dr q_jo q_fu : Nat) (vjn : Int32) (vmk : Int32) (vwr : Int32) (vP : Nat → Int32) (vD : Nat → Int32) (vJ : Nat → Int32) (vat : Int32) : va_W := [(q_di, .inr (kDisk, [.ref q_pl, .ref q_dr, .ref q_jo, .int vjn, .int vmk, .int vwr])), (q_pl, .inl (cI, 232, .inl vP)), (q_dr, .inl (cI, 232, .inl vD)), (q_jo, .inl (cI, 232, .inl vJ)), (q_fu, .inr (kFuse, [.int vat]))]
abbrev w_tree (cI : ClassId) (q_tr q_di q_pl q_dr q_jo : Nat) (vjn : Int32) (vmk : Int32) (vwr : Int32) (vP : Nat → Int32) (vD : Nat → Int32) (vJ : Nat → Int32) : va_W := [(q_tr, .inr (kTree, [.ref q_di])), (q_di, .inr (kDisk, [.ref q_pl, .ref q_dr, .ref q_jo, .int vjn, .int vmk, .int vwr])), (q_pl, .inl (cI, 232, .inl vP)), (q_dr, .inl (cI, 232, .inl vD)), (q_jo, .inl (cI, 232, .inl vJ))]
abbrev w_cont (cI : ClassId) (q_co q_di q_pl q_dr q_jo : Nat) (vjn : Int32) (vmk : Int32) (vwr : Int32) (vP : Nat → Int32) (vD : Nat → Int32) (vJ : Nat → Int32) : va_W := [(q_co, .inr (kCont, [.ref q_di])), (q_di, .inr (kDisk, [.ref q_pl, .ref q_dr, .ref q_jo, .int vjn, .int vmk, .int vwr])), (q_pl, .inl (cI, 232, .inl vP)), (q_dr, .inl (cI, 232, .inl vD)), (q_jo, .inl (cI, 232, .inl vJ))]
abbrev w_area (cI : ClassId) (q_ar q_us q_di q_tr q_co : Nat) (vlb : Int32) (vU : Nat → Int32) : va_W := [(q_ar, .inr (kArea, [.int vlb, .ref q_us, .ref q_di, .ref q_tr, .ref q_co])), (q_us, .inl (cI, 4, .inl vU))]
abbrev w_model (cI : ClassId) (q_mo q_mlb_ q_mcl_ q_mus_ q_mwr_ q_mdk_ q_mcp_ : Nat) (mth : Int32) (mar : Int32) (mfu : Int32) (mLb : Nat → Int32) (mCl : Nat → Int32) (mUs : Nat → Int32) (mWr : Nat → Int32) (mDk : Nat → Int32) (mCp : Nat → Int32) : va_W := [(q_mo, .inr (kModel, [.int mth, .int mar, .ref q_mlb_, .ref q_mcl_, .ref q_mus_, .ref q_mwr_, .ref q_mdk_, .ref q_mcp_, .int mfu])), (q_mlb_, .inl (cI, 6, .inl mLb)), (q_mcl_, .inl (cI, 4, .inl mCl)), (q_mus_, .inl (cI, 24, .inl mUs)), (q_mwr_, .inl (cI, 6, .inl mWr)), (q_mdk_, .inl (cI, 1392, .inl mDk)), (q_mcp_, .inl (cI, 232, .inl mCp))]
abbrev w_two (cI : ClassId) (q_fr q_to : Nat) (vF : Nat → Int32) (vT : Nat → Int32) : va_W := [(q_fr, .inl (cI, 232, .inl vF)), (q_to, .inl (cI, 232, .inl vT))]
abbrev w_arr4 (cI : ClassId) (q_us : Nat) (vU : Nat → Int32) : va_W := [(q_us, .inl (cI, 4, .inl vU))]
