abbrev cc_V_isUser : ByteArray := prog_1_method_23_code
def y_V_isUser : MethodName := ⟨R_Vault, "isUser", "(I)Z"⟩
abbrev ws_V_isUser : List Cond := .code y_V_isUser cc_V_isUser 1 (some .boolean) :: jv_LT
abbrev rm_V_isUser : Room := { frames := 0, cells := 0, slots := 0, locals := 0 }
theorem yd_V_isUser : y_V_isUser.cls ≠ "java/lang/invoke/MethodHandle" ∧ y_V_isUser.cls ≠ "java/lang/invoke/VarHandle" ∧ (parseMethodDescriptor y_V_isUser.desc).map (fun d => d.parameters.length) = some 1 := ⟨by decide +kernel, by decide +kernel, by decide +kernel⟩
abbrev cc_V_demand : ByteArray := prog_1_method_22_code
def y_V_demand : MethodName := ⟨R_Vault, "demand", "(Z)V"⟩
abbrev ws_V_demand : List Cond := .code y_V_demand cc_V_demand 1 none :: jv_LT
abbrev rm_V_demand : Room := { frames := 6, cells := 0, slots := 0, locals := 96 }
abbrev rx_V_demand : Room := { frames := 6, cells := 1, slots := 6, locals := 96 }
theorem yd_V_demand : y_V_demand.cls ≠ "java/lang/invoke/MethodHandle" ∧ y_V_demand.cls ≠ "java/lang/invoke/VarHandle" ∧ (parseMethodDescriptor y_V_demand.desc).map (fun d => d.parameters.length) = some 1 := ⟨by decide +kernel, by decide +kernel, by decide +kernel⟩
abbrev cc_V_hasLabel : ByteArray := prog_1_method_24_code
def y_V_hasLabel : MethodName := ⟨R_Vault, "hasLabel", "(I)Z"⟩
abbrev ws_V_hasLabel : List Cond := .code y_V_hasLabel cc_V_hasLabel 3 (some .boolean) :: jv_LT
abbrev rm_V_hasLabel : Room := { frames := 0, cells := 0, slots := 0, locals := 0 }
theorem yd_V_hasLabel : y_V_hasLabel.cls ≠ "java/lang/invoke/MethodHandle" ∧ y_V_hasLabel.cls ≠ "java/lang/invoke/VarHandle" ∧ (parseMethodDescriptor y_V_hasLabel.desc).map (fun d => d.parameters.length) = some 1 := ⟨by decide +kernel, by decide +kernel, by decide +kernel⟩
abbrev cc_V_hasArea : ByteArray := prog_1_method_25_code
def y_V_hasArea : MethodName := ⟨R_Vault, "hasArea", "(I)Z"⟩
abbrev ws_V_hasArea : List Cond := .code y_V_hasArea cc_V_hasArea 2 (some .boolean) :: jv_LT
abbrev rm_V_hasArea : Room := { frames := 0, cells := 0, slots := 0, locals := 0 }
theorem yd_V_hasArea : y_V_hasArea.cls ≠ "java/lang/invoke/MethodHandle" ∧ y_V_hasArea.cls ≠ "java/lang/invoke/VarHandle" ∧ (parseMethodDescriptor y_V_hasArea.desc).map (fun d => d.parameters.length) = some 1 := ⟨by decide +kernel, by decide +kernel, by decide +kernel⟩
abbrev cc_V_hasSession : ByteArray := prog_1_method_27_code
def y_V_hasSession : MethodName := ⟨R_Vault, "hasSession", "(I)Z"⟩
abbrev ws_V_hasSession : List Cond := .code y_V_hasSession cc_V_hasSession 2 (some .boolean) :: jv_LT
abbrev rm_V_hasSession : Room := { frames := 1, cells := 0, slots := 0, locals := 21 }
theorem yd_V_hasSession : y_V_hasSession.cls ≠ "java/lang/invoke/MethodHandle" ∧ y_V_hasSession.cls ≠ "java/lang/invoke/VarHandle" ∧ (parseMethodDescriptor y_V_hasSession.desc).map (fun d => d.parameters.length) = some 1 := ⟨by decide +kernel, by decide +kernel, by decide +kernel⟩
abbrev cc_V_isOpenTo : ByteArray := prog_1_method_29_code
def y_V_isOpenTo : MethodName := ⟨R_Vault, "isOpenTo", "(II)Z"⟩
abbrev ws_V_isOpenTo : List Cond := .code y_V_isOpenTo cc_V_isOpenTo 3 (some .boolean) :: jv_LT
abbrev rm_V_isOpenTo : Room := { frames := 2, cells := 0, slots := 0, locals := 42 }
theorem yd_V_isOpenTo : y_V_isOpenTo.cls ≠ "java/lang/invoke/MethodHandle" ∧ y_V_isOpenTo.cls ≠ "java/lang/invoke/VarHandle" ∧ (parseMethodDescriptor y_V_isOpenTo.desc).map (fun d => d.parameters.length) = some 2 := ⟨by decide +kernel, by decide +kernel, by decide +kernel⟩
abbrev cc_V_kindsSeen : ByteArray := prog_1_method_30_code
def y_V_kindsSeen : MethodName := ⟨R_Vault, "kindsSeen", "(II)I"⟩
abbrev ws_V_kindsSeen : List Cond := .code y_V_kindsSeen cc_V_kindsSeen 5 (some .int) :: jv_LT
abbrev rm_V_kindsSeen : Room := { frames := 4, cells := 0, slots := 0, locals := 90 }
theorem yd_V_kindsSeen : y_V_kindsSeen.cls ≠ "java/lang/invoke/MethodHandle" ∧ y_V_kindsSeen.cls ≠ "java/lang/invoke/VarHandle" ∧ (parseMethodDescriptor y_V_kindsSeen.desc).map (fun d => d.parameters.length) = some 2 := ⟨by decide +kernel, by decide +kernel, by decide +kernel⟩
abbrev cc_V_namesSeen : ByteArray := prog_1_method_31_code
def y_V_namesSeen : MethodName := ⟨R_Vault, "namesSeen", "(II)I"⟩
abbrev ws_V_namesSeen : List Cond := .code y_V_namesSeen cc_V_namesSeen 5 (some .int) :: jv_LT
abbrev rm_V_namesSeen : Room := { frames := 4, cells := 0, slots := 0, locals := 92 }
theorem yd_V_namesSeen : y_V_namesSeen.cls ≠ "java/lang/invoke/MethodHandle" ∧ y_V_namesSeen.cls ≠ "java/lang/invoke/VarHandle" ∧ (parseMethodDescriptor y_V_namesSeen.desc).map (fun d => d.parameters.length) = some 2 := ⟨by decide +kernel, by decide +kernel, by decide +kernel⟩
abbrev cc_V_areaNumbered : ByteArray := prog_1_method_26_code
def y_V_areaNumbered : MethodName := ⟨R_Vault, "areaNumbered", "(I)LLabelVault$Area;"⟩
abbrev ws_V_areaNumbered : List Cond := .code y_V_areaNumbered cc_V_areaNumbered 2 (some (.object "LabelVault$Area")) :: jv_LT
abbrev rm_V_areaNumbered : Room := { frames := 7, cells := 0, slots := 0, locals := 116 }
abbrev rx_V_areaNumbered : Room := { frames := 7, cells := 1, slots := 6, locals := 116 }
theorem yd_V_areaNumbered : y_V_areaNumbered.cls ≠ "java/lang/invoke/MethodHandle" ∧ y_V_areaNumbered.cls ≠ "java/lang/invoke/VarHandle" ∧ (parseMethodDescriptor y_V_areaNumbered.desc).map (fun d => d.parameters.length) = some 1 := ⟨by decide +kernel, by decide +kernel, by decide +kernel⟩
abbrev cc_V_areaOf : ByteArray := prog_1_method_28_code
def y_V_areaOf : MethodName := ⟨R_Vault, "areaOf", "(I)LLabelVault$Area;"⟩
abbrev ws_V_areaOf : List Cond := .code y_V_areaOf cc_V_areaOf 2 (some (.object "LabelVault$Area")) :: jv_LT
abbrev rm_V_areaOf : Room := { frames := 7, cells := 0, slots := 0, locals := 116 }
abbrev rx_V_areaOf : Room := { frames := 7, cells := 1, slots := 6, locals := 116 }
theorem yd_V_areaOf : y_V_areaOf.cls ≠ "java/lang/invoke/MethodHandle" ∧ y_V_areaOf.cls ≠ "java/lang/invoke/VarHandle" ∧ (parseMethodDescriptor y_V_areaOf.desc).map (fun d => d.parameters.length) = some 1 := ⟨by decide +kernel, by decide +kernel, by decide +kernel⟩
abbrev cc_V_ownInode : ByteArray := prog_1_method_32_code
def y_V_ownInode : MethodName := ⟨R_Vault, "ownInode", "(LLabelVault$Area;I)I"⟩
abbrev ws_V_ownInode : List Cond := .code y_V_ownInode cc_V_ownInode 4 (some .int) :: jv_LT
abbrev rm_V_ownInode : Room := { frames := 7, cells := 0, slots := 0, locals := 114 }
abbrev rx_V_ownInode : Room := { frames := 7, cells := 1, slots := 6, locals := 114 }
theorem yd_V_ownInode : y_V_ownInode.cls ≠ "java/lang/invoke/MethodHandle" ∧ y_V_ownInode.cls ≠ "java/lang/invoke/VarHandle" ∧ (parseMethodDescriptor y_V_ownInode.desc).map (fun d => d.parameters.length) = some 2 := ⟨by decide +kernel, by decide +kernel, by decide +kernel⟩
abbrev cc_V_demandFile : ByteArray := prog_1_method_33_code
def y_V_demandFile : MethodName := ⟨R_Vault, "demandFile", "(LLabelVault$Area;I)V"⟩
abbrev ws_V_demandFile : List Cond := .code y_V_demandFile cc_V_demandFile 2 none :: jv_LT
abbrev rm_V_demandFile : Room := { frames := 6, cells := 0, slots := 0, locals := 96 }
abbrev rx_V_demandFile : Room := { frames := 6, cells := 1, slots := 6, locals := 96 }
theorem yd_V_demandFile : y_V_demandFile.cls ≠ "java/lang/invoke/MethodHandle" ∧ y_V_demandFile.cls ≠ "java/lang/invoke/VarHandle" ∧ (parseMethodDescriptor y_V_demandFile.desc).map (fun d => d.parameters.length) = some 2 := ⟨by decide +kernel, by decide +kernel, by decide +kernel⟩
abbrev cc_V_readableFile : ByteArray := prog_1_method_34_code
def y_V_readableFile : MethodName := ⟨R_Vault, "readableFile", "(LLabelVault$Area;LLabelVault$Area;I)I"⟩
abbrev ws_V_readableFile : List Cond := .code y_V_readableFile cc_V_readableFile 4 (some .int) :: jv_LT
abbrev rm_V_readableFile : Room := { frames := 7, cells := 0, slots := 0, locals := 117 }
abbrev rx_V_readableFile : Room := { frames := 7, cells := 1, slots := 6, locals := 117 }
theorem yd_V_readableFile : y_V_readableFile.cls ≠ "java/lang/invoke/MethodHandle" ∧ y_V_readableFile.cls ≠ "java/lang/invoke/VarHandle" ∧ (parseMethodDescriptor y_V_readableFile.desc).map (fun d => d.parameters.length) = some 3 := ⟨by decide +kernel, by decide +kernel, by decide +kernel⟩
abbrev cc_V_giveUp : ByteArray := prog_1_method_35_code
def y_V_giveUp : MethodName := ⟨R_Vault, "giveUp", "(LLabelVault$Area;)I"⟩
abbrev ws_V_giveUp : List Cond := .code y_V_giveUp cc_V_giveUp 1 (some .int) :: jv_LT
abbrev rm_V_giveUp : Room := { frames := 2, cells := 0, slots := 0, locals := 38 }
theorem yd_V_giveUp : y_V_giveUp.cls ≠ "java/lang/invoke/MethodHandle" ∧ y_V_giveUp.cls ≠ "java/lang/invoke/VarHandle" ∧ (parseMethodDescriptor y_V_giveUp.desc).map (fun d => d.parameters.length) = some 1 := ⟨by decide +kernel, by decide +kernel, by decide +kernel⟩
abbrev cc_V_breakDown : ByteArray := prog_1_method_37_code
def y_V_breakDown : MethodName := ⟨R_Vault, "breakDown", "()I"⟩
abbrev ws_V_breakDown : List Cond := .code y_V_breakDown cc_V_breakDown 3 (some .int) :: jv_LT
abbrev rm_V_breakDown : Room := { frames := 3, cells := 0, slots := 0, locals := 61 }
theorem yd_V_breakDown : y_V_breakDown.cls ≠ "java/lang/invoke/MethodHandle" ∧ y_V_breakDown.cls ≠ "java/lang/invoke/VarHandle" ∧ (parseMethodDescriptor y_V_breakDown.desc).map (fun d => d.parameters.length) = some 0 := ⟨by decide +kernel, by decide +kernel, by decide +kernel⟩
abbrev cc_V_finish : ByteArray := prog_1_method_36_code
def y_V_finish : MethodName := ⟨R_Vault, "finish", "(LLabelVault$Area;I)I"⟩
abbrev ws_V_finish : List Cond := .code y_V_finish cc_V_finish 3 (some .int) :: jv_LT
abbrev rm_V_finish : Room := { frames := 4, cells := 0, slots := 0, locals := 86 }
theorem yd_V_finish : y_V_finish.cls ≠ "java/lang/invoke/MethodHandle" ∧ y_V_finish.cls ≠ "java/lang/invoke/VarHandle" ∧ (parseMethodDescriptor y_V_finish.desc).map (fun d => d.parameters.length) = some 2 := ⟨by decide +kernel, by decide +kernel, by decide +kernel⟩
abbrev cc_V_flows : ByteArray := prog_1_method_3_code
def y_V_flows : MethodName := ⟨R_Vault, "flows", "(II)Z"⟩
abbrev ws_V_flows : List Cond := .code y_V_flows cc_V_flows 3 (some .boolean) :: jv_LT
abbrev rm_V_flows : Room := { frames := 7, cells := 0, slots := 0, locals := 116 }
abbrev rx_V_flows : Room := { frames := 7, cells := 1, slots := 6, locals := 116 }
theorem yd_V_flows : y_V_flows.cls ≠ "java/lang/invoke/MethodHandle" ∧ y_V_flows.cls ≠ "java/lang/invoke/VarHandle" ∧ (parseMethodDescriptor y_V_flows.desc).map (fun d => d.parameters.length) = some 2 := ⟨by decide +kernel, by decide +kernel, by decide +kernel⟩
abbrev cc_V_clear : ByteArray := prog_1_method_4_code
def y_V_clear : MethodName := ⟨R_Vault, "clear", "(II)Z"⟩
abbrev ws_V_clear : List Cond := .code y_V_clear cc_V_clear 3 (some .boolean) :: jv_LT
abbrev rm_V_clear : Room := { frames := 7, cells := 0, slots := 0, locals := 116 }
abbrev rx_V_clear : Room := { frames := 7, cells := 1, slots := 6, locals := 116 }
theorem yd_V_clear : y_V_clear.cls ≠ "java/lang/invoke/MethodHandle" ∧ y_V_clear.cls ≠ "java/lang/invoke/VarHandle" ∧ (parseMethodDescriptor y_V_clear.desc).map (fun d => d.parameters.length) = some 2 := ⟨by decide +kernel, by decide +kernel, by decide +kernel⟩
abbrev cc_V_login : ByteArray := prog_1_method_5_code
def y_V_login : MethodName := ⟨R_Vault, "login", "(II)I"⟩
abbrev ws_V_login : List Cond := .code y_V_login cc_V_login 5 (some .int) :: jv_LT
abbrev rm_V_login : Room := { frames := 8, cells := 0, slots := 0, locals := 137 }
abbrev rx_V_login : Room := { frames := 8, cells := 1, slots := 6, locals := 137 }
theorem yd_V_login : y_V_login.cls ≠ "java/lang/invoke/MethodHandle" ∧ y_V_login.cls ≠ "java/lang/invoke/VarHandle" ∧ (parseMethodDescriptor y_V_login.desc).map (fun d => d.parameters.length) = some 2 := ⟨by decide +kernel, by decide +kernel, by decide +kernel⟩
abbrev cc_V_logout : ByteArray := prog_1_method_6_code
def y_V_logout : MethodName := ⟨R_Vault, "logout", "(I)I"⟩
abbrev ws_V_logout : List Cond := .code y_V_logout cc_V_logout 3 (some .int) :: jv_LT
abbrev rm_V_logout : Room := { frames := 8, cells := 0, slots := 0, locals := 137 }
abbrev rx_V_logout : Room := { frames := 8, cells := 1, slots := 6, locals := 137 }
theorem yd_V_logout : y_V_logout.cls ≠ "java/lang/invoke/MethodHandle" ∧ y_V_logout.cls ≠ "java/lang/invoke/VarHandle" ∧ (parseMethodDescriptor y_V_logout.desc).map (fun d => d.parameters.length) = some 1 := ⟨by decide +kernel, by decide +kernel, by decide +kernel⟩
abbrev cc_V_make : ByteArray := prog_1_method_7_code
def y_V_make : MethodName := ⟨R_Vault, "make", "(III)I"⟩
abbrev ws_V_make : List Cond := .code y_V_make cc_V_make 7 (some .int) :: jv_LT
abbrev rm_V_make : Room := { frames := 8, cells := 0, slots := 0, locals := 137 }
abbrev rx_V_make : Room := { frames := 8, cells := 1, slots := 6, locals := 137 }
theorem yd_V_make : y_V_make.cls ≠ "java/lang/invoke/MethodHandle" ∧ y_V_make.cls ≠ "java/lang/invoke/VarHandle" ∧ (parseMethodDescriptor y_V_make.desc).map (fun d => d.parameters.length) = some 3 := ⟨by decide +kernel, by decide +kernel, by decide +kernel⟩
abbrev cc_V_write : ByteArray := prog_1_method_8_code
def y_V_write : MethodName := ⟨R_Vault, "write", "(IIII)I"⟩
abbrev ws_V_write : List Cond := .code y_V_write cc_V_write 7 (some .int) :: jv_LT
abbrev rm_V_write : Room := { frames := 8, cells := 0, slots := 0, locals := 137 }
abbrev rx_V_write : Room := { frames := 8, cells := 1, slots := 6, locals := 137 }
theorem yd_V_write : y_V_write.cls ≠ "java/lang/invoke/MethodHandle" ∧ y_V_write.cls ≠ "java/lang/invoke/VarHandle" ∧ (parseMethodDescriptor y_V_write.desc).map (fun d => d.parameters.length) = some 4 := ⟨by decide +kernel, by decide +kernel, by decide +kernel⟩
abbrev cc_V_truncate : ByteArray := prog_1_method_9_code
def y_V_truncate : MethodName := ⟨R_Vault, "truncate", "(III)I"⟩
abbrev ws_V_truncate : List Cond := .code y_V_truncate cc_V_truncate 6 (some .int) :: jv_LT
abbrev rm_V_truncate : Room := { frames := 8, cells := 0, slots := 0, locals := 137 }
abbrev rx_V_truncate : Room := { frames := 8, cells := 1, slots := 6, locals := 137 }
theorem yd_V_truncate : y_V_truncate.cls ≠ "java/lang/invoke/MethodHandle" ∧ y_V_truncate.cls ≠ "java/lang/invoke/VarHandle" ∧ (parseMethodDescriptor y_V_truncate.desc).map (fun d => d.parameters.length) = some 3 := ⟨by decide +kernel, by decide +kernel, by decide +kernel⟩
abbrev cc_V_remove : ByteArray := prog_1_method_10_code
def y_V_remove : MethodName := ⟨R_Vault, "remove", "(II)I"⟩
abbrev ws_V_remove : List Cond := .code y_V_remove cc_V_remove 5 (some .int) :: jv_LT
abbrev rm_V_remove : Room := { frames := 8, cells := 0, slots := 0, locals := 137 }
abbrev rx_V_remove : Room := { frames := 8, cells := 1, slots := 6, locals := 137 }
theorem yd_V_remove : y_V_remove.cls ≠ "java/lang/invoke/MethodHandle" ∧ y_V_remove.cls ≠ "java/lang/invoke/VarHandle" ∧ (parseMethodDescriptor y_V_remove.desc).map (fun d => d.parameters.length) = some 2 := ⟨by decide +kernel, by decide +kernel, by decide +kernel⟩
abbrev cc_V_move : ByteArray := prog_1_method_11_code
def y_V_move : MethodName := ⟨R_Vault, "move", "(III)I"⟩
abbrev ws_V_move : List Cond := .code y_V_move cc_V_move 7 (some .int) :: jv_LT
abbrev rm_V_move : Room := { frames := 8, cells := 0, slots := 0, locals := 137 }
abbrev rx_V_move : Room := { frames := 8, cells := 1, slots := 6, locals := 137 }
theorem yd_V_move : y_V_move.cls ≠ "java/lang/invoke/MethodHandle" ∧ y_V_move.cls ≠ "java/lang/invoke/VarHandle" ∧ (parseMethodDescriptor y_V_move.desc).map (fun d => d.parameters.length) = some 3 := ⟨by decide +kernel, by decide +kernel, by decide +kernel⟩
abbrev cc_V_read : ByteArray := prog_1_method_12_code
def y_V_read : MethodName := ⟨R_Vault, "read", "(IIII)I"⟩
abbrev ws_V_read : List Cond := .code y_V_read cc_V_read 8 (some .int) :: jv_LT
abbrev rm_V_read : Room := { frames := 8, cells := 0, slots := 0, locals := 140 }
abbrev rx_V_read : Room := { frames := 8, cells := 1, slots := 6, locals := 140 }
theorem yd_V_read : y_V_read.cls ≠ "java/lang/invoke/MethodHandle" ∧ y_V_read.cls ≠ "java/lang/invoke/VarHandle" ∧ (parseMethodDescriptor y_V_read.desc).map (fun d => d.parameters.length) = some 4 := ⟨by decide +kernel, by decide +kernel, by decide +kernel⟩
abbrev cc_V_list : ByteArray := prog_1_method_13_code
def y_V_list : MethodName := ⟨R_Vault, "list", "(II)I"⟩
abbrev ws_V_list : List Cond := .code y_V_list cc_V_list 5 (some .int) :: jv_LT
abbrev rm_V_list : Room := { frames := 8, cells := 0, slots := 0, locals := 137 }
abbrev rx_V_list : Room := { frames := 8, cells := 1, slots := 6, locals := 137 }
theorem yd_V_list : y_V_list.cls ≠ "java/lang/invoke/MethodHandle" ∧ y_V_list.cls ≠ "java/lang/invoke/VarHandle" ∧ (parseMethodDescriptor y_V_list.desc).map (fun d => d.parameters.length) = some 2 := ⟨by decide +kernel, by decide +kernel, by decide +kernel⟩
abbrev cc_V_look : ByteArray := prog_1_method_14_code
def y_V_look : MethodName := ⟨R_Vault, "look", "(II)I"⟩
abbrev ws_V_look : List Cond := .code y_V_look cc_V_look 6 (some .int) :: jv_LT
abbrev rm_V_look : Room := { frames := 8, cells := 0, slots := 0, locals := 137 }
abbrev rx_V_look : Room := { frames := 8, cells := 1, slots := 6, locals := 137 }
theorem yd_V_look : y_V_look.cls ≠ "java/lang/invoke/MethodHandle" ∧ y_V_look.cls ≠ "java/lang/invoke/VarHandle" ∧ (parseMethodDescriptor y_V_look.desc).map (fun d => d.parameters.length) = some 2 := ⟨by decide +kernel, by decide +kernel, by decide +kernel⟩
abbrev cc_V_size : ByteArray := prog_1_method_15_code
def y_V_size : MethodName := ⟨R_Vault, "size", "(III)I"⟩
abbrev ws_V_size : List Cond := .code y_V_size cc_V_size 6 (some .int) :: jv_LT
abbrev rm_V_size : Room := { frames := 8, cells := 0, slots := 0, locals := 140 }
abbrev rx_V_size : Room := { frames := 8, cells := 1, slots := 6, locals := 140 }
theorem yd_V_size : y_V_size.cls ≠ "java/lang/invoke/MethodHandle" ∧ y_V_size.cls ≠ "java/lang/invoke/VarHandle" ∧ (parseMethodDescriptor y_V_size.desc).map (fun d => d.parameters.length) = some 3 := ⟨by decide +kernel, by decide +kernel, by decide +kernel⟩
abbrev cc_V_disk : ByteArray := prog_1_method_18_code
def y_V_disk : MethodName := ⟨R_Vault, "disk", "(III)I"⟩
abbrev ws_V_disk : List Cond := .code y_V_disk cc_V_disk 5 (some .int) :: jv_LT
abbrev rm_V_disk : Room := { frames := 8, cells := 0, slots := 0, locals := 137 }
abbrev rx_V_disk : Room := { frames := 8, cells := 1, slots := 6, locals := 137 }
theorem yd_V_disk : y_V_disk.cls ≠ "java/lang/invoke/MethodHandle" ∧ y_V_disk.cls ≠ "java/lang/invoke/VarHandle" ∧ (parseMethodDescriptor y_V_disk.desc).map (fun d => d.parameters.length) = some 3 := ⟨by decide +kernel, by decide +kernel, by decide +kernel⟩
abbrev cc_V_crash : ByteArray := prog_1_method_16_code
def y_V_crash : MethodName := ⟨R_Vault, "crash", "()I"⟩
abbrev ws_V_crash : List Cond := .code y_V_crash cc_V_crash 1 (some .int) :: jv_LT
abbrev rm_V_crash : Room := { frames := 4, cells := 0, slots := 0, locals := 83 }
theorem yd_V_crash : y_V_crash.cls ≠ "java/lang/invoke/MethodHandle" ∧ y_V_crash.cls ≠ "java/lang/invoke/VarHandle" ∧ (parseMethodDescriptor y_V_crash.desc).map (fun d => d.parameters.length) = some 0 := ⟨by decide +kernel, by decide +kernel, by decide +kernel⟩
abbrev cc_V_tear : ByteArray := prog_1_method_17_code
def y_V_tear : MethodName := ⟨R_Vault, "tear", "(I)Z"⟩
abbrev ws_V_tear : List Cond := .code y_V_tear cc_V_tear 2 (some .boolean) :: jv_LT
abbrev rm_V_tear : Room := { frames := 7, cells := 0, slots := 0, locals := 116 }
abbrev rx_V_tear : Room := { frames := 7, cells := 1, slots := 6, locals := 116 }
theorem yd_V_tear : y_V_tear.cls ≠ "java/lang/invoke/MethodHandle" ∧ y_V_tear.cls ≠ "java/lang/invoke/VarHandle" ∧ (parseMethodDescriptor y_V_tear.desc).map (fun d => d.parameters.length) = some 1 := ⟨by decide +kernel, by decide +kernel, by decide +kernel⟩
abbrev cc_V_about : ByteArray := prog_1_method_19_code
def y_V_about : MethodName := ⟨R_Vault, "about", "(II)I"⟩
abbrev ws_V_about : List Cond := .code y_V_about cc_V_about 4 (some .int) :: jv_LT
abbrev rm_V_about : Room := { frames := 3, cells := 0, slots := 0, locals := 65 }
theorem yd_V_about : y_V_about.cls ≠ "java/lang/invoke/MethodHandle" ∧ y_V_about.cls ≠ "java/lang/invoke/VarHandle" ∧ (parseMethodDescriptor y_V_about.desc).map (fun d => d.parameters.length) = some 2 := ⟨by decide +kernel, by decide +kernel, by decide +kernel⟩
abbrev cc_V_user : ByteArray := prog_1_method_20_code
def y_V_user : MethodName := ⟨R_Vault, "user", "(I)I"⟩
abbrev ws_V_user : List Cond := .code y_V_user cc_V_user 2 (some .int) :: jv_LT
abbrev rm_V_user : Room := { frames := 2, cells := 0, slots := 0, locals := 42 }
theorem yd_V_user : y_V_user.cls ≠ "java/lang/invoke/MethodHandle" ∧ y_V_user.cls ≠ "java/lang/invoke/VarHandle" ∧ (parseMethodDescriptor y_V_user.desc).map (fun d => d.parameters.length) = some 1 := ⟨by decide +kernel, by decide +kernel, by decide +kernel⟩
abbrev cc_V_fuse : ByteArray := prog_1_method_21_code
def y_V_fuse : MethodName := ⟨R_Vault, "fuse", "()I"⟩
abbrev ws_V_fuse : List Cond := .code y_V_fuse cc_V_fuse 1 (some .int) :: jv_LT
abbrev rm_V_fuse : Room := { frames := 0, cells := 0, slots := 0, locals := 0 }
theorem yd_V_fuse : y_V_fuse.cls ≠ "java/lang/invoke/MethodHandle" ∧ y_V_fuse.cls ≠ "java/lang/invoke/VarHandle" ∧ (parseMethodDescriptor y_V_fuse.desc).map (fun d => d.parameters.length) = some 0 := ⟨by decide +kernel, by decide +kernel, by decide +kernel⟩
theorem wa_297 : (Cond.classLink R_Vault 252 "java/lang/IllegalArgumentException") ∈ jv_LT := List.mem_filter.mpr ⟨List.mem_of_getElem? (i := 202) (by decide +kernel), by decide +kernel⟩
theorem wa_298 : (Cond.instantiable "java/lang/IllegalArgumentException" 6) ∈ jv_LT := List.mem_filter.mpr ⟨List.mem_of_getElem? (i := 203) (by decide +kernel), by decide +kernel⟩
theorem wa_299 : (Cond.initialized "java/lang/IllegalArgumentException") ∈ jv_LT := List.mem_filter.mpr ⟨List.mem_of_getElem? (i := 57) (by decide +kernel), by decide +kernel⟩
theorem wa_300 : (Cond.fieldLink R_Vault 11 R_Vault "areas" "[LLabelVault$Area;") ∈ jv_LT := List.mem_filter.mpr ⟨List.mem_of_getElem? (i := 92) (by decide +kernel), by decide +kernel⟩
theorem wa_301 : (Cond.fieldLink R_Vault 67 R_Area "label" "I") ∈ jv_LT := List.mem_filter.mpr ⟨List.mem_of_getElem? (i := 344) (by decide +kernel), by decide +kernel⟩
theorem wa_302 : (Cond.code y_V_hasArea prog_1_method_25_code 2 (some .boolean)) ∈ jv_LT := List.mem_filter.mpr ⟨List.mem_of_getElem? (i := 148) (by decide +kernel), by decide +kernel⟩
theorem wa_303 : (Cond.initialized R_Vault) ∈ jv_LT := List.mem_filter.mpr ⟨List.mem_of_getElem? (i := 50) (by decide +kernel), by decide +kernel⟩
theorem wa_304 : (Cond.methodLink R_Vault 233 y_V_hasArea) ∈ jv_LT := List.mem_filter.mpr ⟨List.mem_of_getElem? (i := 145) (by decide +kernel), by decide +kernel⟩
theorem wa_305 : (Cond.instanceMethod y_V_hasArea) ∈ jv_LT := List.mem_filter.mpr ⟨List.mem_of_getElem? (i := 147) (by decide +kernel), by decide +kernel⟩
theorem wa_306 : (Cond.selects R_Vault y_V_hasArea y_V_hasArea) ∈ jv_LT := List.mem_filter.mpr ⟨List.mem_of_getElem? (i := 1) (by decide +kernel), by decide +kernel⟩
theorem wa_307 : (Cond.fieldLink R_Vault 249 R_Area "users" "[I") ∈ jv_LT := List.mem_filter.mpr ⟨List.mem_of_getElem? (i := 346) (by decide +kernel), by decide +kernel⟩
theorem wa_308 : (Cond.code y_L_mayFlow prog_6_method_3_code 2 (some .boolean)) ∈ jv_LT := List.mem_filter.mpr ⟨List.mem_of_getElem? (i := 373) (by decide +kernel), by decide +kernel⟩
theorem wa_309 : (Cond.methodLink R_Vault 56 y_L_mayFlow) ∈ jv_LT := List.mem_filter.mpr ⟨List.mem_of_getElem? (i := 371) (by decide +kernel), by decide +kernel⟩
theorem wa_310 : (Cond.static y_L_mayFlow) ∈ jv_LT := List.mem_filter.mpr ⟨List.mem_of_getElem? (i := 372) (by decide +kernel), by decide +kernel⟩
theorem wa_311 : (Cond.code y_V_isOpenTo prog_1_method_29_code 3 (some .boolean)) ∈ jv_LT := List.mem_filter.mpr ⟨List.mem_of_getElem? (i := 453) (by decide +kernel), by decide +kernel⟩
theorem wa_312 : (Cond.methodLink R_Vault 216 y_V_isOpenTo) ∈ jv_LT := List.mem_filter.mpr ⟨List.mem_of_getElem? (i := 450) (by decide +kernel), by decide +kernel⟩
theorem wa_313 : (Cond.instanceMethod y_V_isOpenTo) ∈ jv_LT := List.mem_filter.mpr ⟨List.mem_of_getElem? (i := 452) (by decide +kernel), by decide +kernel⟩
theorem wa_314 : (Cond.selects R_Vault y_V_isOpenTo y_V_isOpenTo) ∈ jv_LT := List.mem_filter.mpr ⟨List.mem_of_getElem? (i := 8) (by decide +kernel), by decide +kernel⟩
theorem wa_315 : (Cond.fieldLink R_Vault 102 R_Area "tree" "LLabelVault$Tree;") ∈ jv_LT := List.mem_filter.mpr ⟨List.mem_of_getElem? (i := 350) (by decide +kernel), by decide +kernel⟩
theorem wa_316 : (Cond.methodLink R_Vault 174 y_T_kindAt) ∈ jv_LT := List.mem_filter.mpr ⟨List.mem_of_getElem? (i := 454) (by decide +kernel), by decide +kernel⟩
theorem wa_317 : (Cond.code y_T_namesAt prog_8_method_11_code 5 (some .int)) ∈ jv_LT := List.mem_filter.mpr ⟨List.mem_of_getElem? (i := 751) (by decide +kernel), by decide +kernel⟩
theorem wa_318 : (Cond.methodLink R_Vault 257 y_T_namesAt) ∈ jv_LT := List.mem_filter.mpr ⟨List.mem_of_getElem? (i := 748) (by decide +kernel), by decide +kernel⟩
theorem wa_319 : (Cond.instanceMethod y_T_namesAt) ∈ jv_LT := List.mem_filter.mpr ⟨List.mem_of_getElem? (i := 749) (by decide +kernel), by decide +kernel⟩
theorem wa_320 : (Cond.selects R_Tree y_T_namesAt y_T_namesAt) ∈ jv_LT := List.mem_filter.mpr ⟨List.mem_of_getElem? (i := 750) (by decide +kernel), by decide +kernel⟩
theorem wa_321 : (Cond.code y_V_demand prog_1_method_22_code 1 none) ∈ jv_LT := List.mem_filter.mpr ⟨List.mem_of_getElem? (i := 201) (by decide +kernel), by decide +kernel⟩
theorem wa_322 : (Cond.methodLink R_Vault 36 y_V_demand) ∈ jv_LT := List.mem_filter.mpr ⟨List.mem_of_getElem? (i := 199) (by decide +kernel), by decide +kernel⟩
theorem wa_323 : (Cond.static y_V_demand) ∈ jv_LT := List.mem_filter.mpr ⟨List.mem_of_getElem? (i := 200) (by decide +kernel), by decide +kernel⟩
theorem wa_324 : (Cond.code y_V_hasSession prog_1_method_27_code 2 (some .boolean)) ∈ jv_LT := List.mem_filter.mpr ⟨List.mem_of_getElem? (i := 182) (by decide +kernel), by decide +kernel⟩
theorem wa_325 : (Cond.methodLink R_Vault 246 y_V_hasSession) ∈ jv_LT := List.mem_filter.mpr ⟨List.mem_of_getElem? (i := 179) (by decide +kernel), by decide +kernel⟩
theorem wa_326 : (Cond.instanceMethod y_V_hasSession) ∈ jv_LT := List.mem_filter.mpr ⟨List.mem_of_getElem? (i := 181) (by decide +kernel), by decide +kernel⟩
theorem wa_327 : (Cond.selects R_Vault y_V_hasSession y_V_hasSession) ∈ jv_LT := List.mem_filter.mpr ⟨List.mem_of_getElem? (i := 2) (by decide +kernel), by decide +kernel⟩
theorem wa_328 : (Cond.code y_V_kindsSeen prog_1_method_30_code 5 (some .int)) ∈ jv_LT := List.mem_filter.mpr ⟨List.mem_of_getElem? (i := 449) (by decide +kernel), by decide +kernel⟩
theorem wa_329 : (Cond.methodLink R_Vault 93 y_V_kindsSeen) ∈ jv_LT := List.mem_filter.mpr ⟨List.mem_of_getElem? (i := 446) (by decide +kernel), by decide +kernel⟩
theorem wa_330 : (Cond.instanceMethod y_V_kindsSeen) ∈ jv_LT := List.mem_filter.mpr ⟨List.mem_of_getElem? (i := 448) (by decide +kernel), by decide +kernel⟩
theorem wa_331 : (Cond.selects R_Vault y_V_kindsSeen y_V_kindsSeen) ∈ jv_LT := List.mem_filter.mpr ⟨List.mem_of_getElem? (i := 7) (by decide +kernel), by decide +kernel⟩
theorem wa_332 : (Cond.methodLink R_Vault 116 y_T_find) ∈ jv_LT := List.mem_filter.mpr ⟨List.mem_of_getElem? (i := 511) (by decide +kernel), by decide +kernel⟩
theorem wa_333 : (Cond.classLink R_Vault 43 "java/lang/IllegalStateException") ∈ jv_LT := List.mem_filter.mpr ⟨List.mem_of_getElem? (i := 276) (by decide +kernel), by decide +kernel⟩
theorem wa_334 : (Cond.instantiable "java/lang/IllegalStateException" 6) ∈ jv_LT := List.mem_filter.mpr ⟨List.mem_of_getElem? (i := 277) (by decide +kernel), by decide +kernel⟩
theorem wa_335 : (Cond.initialized "java/lang/IllegalStateException") ∈ jv_LT := List.mem_filter.mpr ⟨List.mem_of_getElem? (i := 58) (by decide +kernel), by decide +kernel⟩
theorem wa_336 : (Cond.classLink R_Vault 97 "java/util/NoSuchElementException") ∈ jv_LT := List.mem_filter.mpr ⟨List.mem_of_getElem? (i := 474) (by decide +kernel), by decide +kernel⟩
theorem wa_337 : (Cond.instantiable "java/util/NoSuchElementException" 6) ∈ jv_LT := List.mem_filter.mpr ⟨List.mem_of_getElem? (i := 475) (by decide +kernel), by decide +kernel⟩
theorem wa_338 : (Cond.initialized "java/util/NoSuchElementException") ∈ jv_LT := List.mem_filter.mpr ⟨List.mem_of_getElem? (i := 65) (by decide +kernel), by decide +kernel⟩
theorem wa_339 : (Cond.methodLink R_Vault 262 y_T_kindOf) ∈ jv_LT := List.mem_filter.mpr ⟨List.mem_of_getElem? (i := 582) (by decide +kernel), by decide +kernel⟩
theorem wa_340 : (Cond.classLink R_Vault 111 "java/lang/UnsupportedOperationException") ∈ jv_LT := List.mem_filter.mpr ⟨List.mem_of_getElem? (i := 495) (by decide +kernel), by decide +kernel⟩
theorem wa_341 : (Cond.instantiable "java/lang/UnsupportedOperationException" 6) ∈ jv_LT := List.mem_filter.mpr ⟨List.mem_of_getElem? (i := 496) (by decide +kernel), by decide +kernel⟩
theorem wa_342 : (Cond.initialized "java/lang/UnsupportedOperationException") ∈ jv_LT := List.mem_filter.mpr ⟨List.mem_of_getElem? (i := 66) (by decide +kernel), by decide +kernel⟩
theorem wa_343 : (Cond.code y_V_demandFile prog_1_method_33_code 2 none) ∈ jv_LT := List.mem_filter.mpr ⟨List.mem_of_getElem? (i := 581) (by decide +kernel), by decide +kernel⟩
theorem wa_344 : (Cond.methodLink R_Vault 140 y_V_demandFile) ∈ jv_LT := List.mem_filter.mpr ⟨List.mem_of_getElem? (i := 579) (by decide +kernel), by decide +kernel⟩
theorem wa_345 : (Cond.static y_V_demandFile) ∈ jv_LT := List.mem_filter.mpr ⟨List.mem_of_getElem? (i := 580) (by decide +kernel), by decide +kernel⟩
theorem wa_346 : (Cond.fieldLink R_Vault 226 R_Area "disk" "LLabelVault$Disk;") ∈ jv_LT := List.mem_filter.mpr ⟨List.mem_of_getElem? (i := 348) (by decide +kernel), by decide +kernel⟩
theorem wa_347 : (Cond.methodLink R_Vault 271 y_D_dropDraft) ∈ jv_LT := List.mem_filter.mpr ⟨List.mem_of_getElem? (i := 532) (by decide +kernel), by decide +kernel⟩
theorem wa_348 : (Cond.fieldLink R_Vault 26 R_Vault "fuse" "LLabelVault$Fuse;") ∈ jv_LT := List.mem_filter.mpr ⟨List.mem_of_getElem? (i := 95) (by decide +kernel), by decide +kernel⟩
theorem wa_349 : (Cond.fieldLink R_Vault 223 R_Fuse "at" "I") ∈ jv_LT := List.mem_filter.mpr ⟨List.mem_of_getElem? (i := 87) (by decide +kernel), by decide +kernel⟩
theorem wa_350 : (Cond.code y_A_countSessions prog_2_method_5_code 3 (some .int)) ∈ jv_LT := List.mem_filter.mpr ⟨List.mem_of_getElem? (i := 116) (by decide +kernel), by decide +kernel⟩
theorem wa_351 : (Cond.initialized R_Area) ∈ jv_LT := List.mem_filter.mpr ⟨List.mem_of_getElem? (i := 59) (by decide +kernel), by decide +kernel⟩
theorem wa_352 : (Cond.methodLink R_Vault 243 y_A_countSessions) ∈ jv_LT := List.mem_filter.mpr ⟨List.mem_of_getElem? (i := 113) (by decide +kernel), by decide +kernel⟩
theorem wa_353 : (Cond.instanceMethod y_A_countSessions) ∈ jv_LT := List.mem_filter.mpr ⟨List.mem_of_getElem? (i := 114) (by decide +kernel), by decide +kernel⟩
theorem wa_354 : (Cond.selects R_Area y_A_countSessions y_A_countSessions) ∈ jv_LT := List.mem_filter.mpr ⟨List.mem_of_getElem? (i := 115) (by decide +kernel), by decide +kernel⟩
theorem wa_355 : (Cond.code y_A_dismissAll prog_2_method_4_code 1 none) ∈ jv_LT := List.mem_filter.mpr ⟨List.mem_of_getElem? (i := 120) (by decide +kernel), by decide +kernel⟩
theorem wa_356 : (Cond.methodLink R_Vault 278 y_A_dismissAll) ∈ jv_LT := List.mem_filter.mpr ⟨List.mem_of_getElem? (i := 117) (by decide +kernel), by decide +kernel⟩
theorem wa_357 : (Cond.instanceMethod y_A_dismissAll) ∈ jv_LT := List.mem_filter.mpr ⟨List.mem_of_getElem? (i := 118) (by decide +kernel), by decide +kernel⟩
theorem wa_358 : (Cond.selects R_Area y_A_dismissAll y_A_dismissAll) ∈ jv_LT := List.mem_filter.mpr ⟨List.mem_of_getElem? (i := 119) (by decide +kernel), by decide +kernel⟩
theorem wa_359 : (Cond.code y_D_recover prog_4_method_10_code 2 none) ∈ jv_LT := List.mem_filter.mpr ⟨List.mem_of_getElem? (i := 127) (by decide +kernel), by decide +kernel⟩
theorem wa_360 : (Cond.methodLink R_Vault 281 y_D_recover) ∈ jv_LT := List.mem_filter.mpr ⟨List.mem_of_getElem? (i := 124) (by decide +kernel), by decide +kernel⟩
theorem wa_361 : (Cond.instanceMethod y_D_recover) ∈ jv_LT := List.mem_filter.mpr ⟨List.mem_of_getElem? (i := 125) (by decide +kernel), by decide +kernel⟩
theorem wa_362 : (Cond.selects R_Disk y_D_recover y_D_recover) ∈ jv_LT := List.mem_filter.mpr ⟨List.mem_of_getElem? (i := 126) (by decide +kernel), by decide +kernel⟩
theorem wa_363 : (Cond.code y_D_commit prog_4_method_9_code 3 (some .boolean)) ∈ jv_LT := List.mem_filter.mpr ⟨List.mem_of_getElem? (i := 540) (by decide +kernel), by decide +kernel⟩
theorem wa_364 : (Cond.methodLink R_Vault 274 y_D_commit) ∈ jv_LT := List.mem_filter.mpr ⟨List.mem_of_getElem? (i := 537) (by decide +kernel), by decide +kernel⟩
theorem wa_365 : (Cond.instanceMethod y_D_commit) ∈ jv_LT := List.mem_filter.mpr ⟨List.mem_of_getElem? (i := 538) (by decide +kernel), by decide +kernel⟩
theorem wa_366 : (Cond.selects R_Disk y_D_commit y_D_commit) ∈ jv_LT := List.mem_filter.mpr ⟨List.mem_of_getElem? (i := 539) (by decide +kernel), by decide +kernel⟩
theorem wa_367 : (Cond.code y_V_breakDown prog_1_method_37_code 3 (some .int)) ∈ jv_LT := List.mem_filter.mpr ⟨List.mem_of_getElem? (i := 112) (by decide +kernel), by decide +kernel⟩
theorem wa_368 : (Cond.methodLink R_Vault 219 y_V_breakDown) ∈ jv_LT := List.mem_filter.mpr ⟨List.mem_of_getElem? (i := 109) (by decide +kernel), by decide +kernel⟩
theorem wa_369 : (Cond.instanceMethod y_V_breakDown) ∈ jv_LT := List.mem_filter.mpr ⟨List.mem_of_getElem? (i := 111) (by decide +kernel), by decide +kernel⟩
theorem wa_370 : (Cond.selects R_Vault y_V_breakDown y_V_breakDown) ∈ jv_LT := List.mem_filter.mpr ⟨List.mem_of_getElem? (i := 0) (by decide +kernel), by decide +kernel⟩
theorem wa_371 : (Cond.code y_L_isLabel prog_6_method_2_code 1 (some .boolean)) ∈ jv_LT := List.mem_filter.mpr ⟨List.mem_of_getElem? (i := 198) (by decide +kernel), by decide +kernel⟩
theorem wa_372 : (Cond.methodLink R_Vault 30 y_L_isLabel) ∈ jv_LT := List.mem_filter.mpr ⟨List.mem_of_getElem? (i := 196) (by decide +kernel), by decide +kernel⟩
theorem wa_373 : (Cond.static y_L_isLabel) ∈ jv_LT := List.mem_filter.mpr ⟨List.mem_of_getElem? (i := 197) (by decide +kernel), by decide +kernel⟩
theorem wa_374 : (Cond.code y_V_isUser prog_1_method_23_code 1 (some .boolean)) ∈ jv_LT := List.mem_filter.mpr ⟨List.mem_of_getElem? (i := 389) (by decide +kernel), by decide +kernel⟩
theorem wa_375 : (Cond.methodLink R_Vault 60 y_V_isUser) ∈ jv_LT := List.mem_filter.mpr ⟨List.mem_of_getElem? (i := 387) (by decide +kernel), by decide +kernel⟩
theorem wa_376 : (Cond.static y_V_isUser) ∈ jv_LT := List.mem_filter.mpr ⟨List.mem_of_getElem? (i := 388) (by decide +kernel), by decide +kernel⟩
theorem wa_377 : (Cond.fieldLink R_Vault 19 R_Vault "clearances" "[I") ∈ jv_LT := List.mem_filter.mpr ⟨List.mem_of_getElem? (i := 94) (by decide +kernel), by decide +kernel⟩
theorem wa_378 : (Cond.code y_V_areaNumbered prog_1_method_26_code 2 (some (.object "LabelVault$Area"))) ∈ jv_LT := List.mem_filter.mpr ⟨List.mem_of_getElem? (i := 400) (by decide +kernel), by decide +kernel⟩
theorem wa_379 : (Cond.methodLink R_Vault 63 y_V_areaNumbered) ∈ jv_LT := List.mem_filter.mpr ⟨List.mem_of_getElem? (i := 397) (by decide +kernel), by decide +kernel⟩
theorem wa_380 : (Cond.instanceMethod y_V_areaNumbered) ∈ jv_LT := List.mem_filter.mpr ⟨List.mem_of_getElem? (i := 399) (by decide +kernel), by decide +kernel⟩
theorem wa_381 : (Cond.selects R_Vault y_V_areaNumbered y_V_areaNumbered) ∈ jv_LT := List.mem_filter.mpr ⟨List.mem_of_getElem? (i := 5) (by decide +kernel), by decide +kernel⟩
theorem wa_382 : (Cond.code y_L_isWithin prog_6_method_4_code 2 (some .boolean)) ∈ jv_LT := List.mem_filter.mpr ⟨List.mem_of_getElem? (i := 403) (by decide +kernel), by decide +kernel⟩
theorem wa_383 : (Cond.methodLink R_Vault 70 y_L_isWithin) ∈ jv_LT := List.mem_filter.mpr ⟨List.mem_of_getElem? (i := 401) (by decide +kernel), by decide +kernel⟩
theorem wa_384 : (Cond.static y_L_isWithin) ∈ jv_LT := List.mem_filter.mpr ⟨List.mem_of_getElem? (i := 402) (by decide +kernel), by decide +kernel⟩
theorem wa_385 : (Cond.code y_A_admit prog_2_method_2_code 3 (some .int)) ∈ jv_LT := List.mem_filter.mpr ⟨List.mem_of_getElem? (i := 408) (by decide +kernel), by decide +kernel⟩
theorem wa_386 : (Cond.methodLink R_Vault 75 y_A_admit) ∈ jv_LT := List.mem_filter.mpr ⟨List.mem_of_getElem? (i := 405) (by decide +kernel), by decide +kernel⟩
theorem wa_387 : (Cond.instanceMethod y_A_admit) ∈ jv_LT := List.mem_filter.mpr ⟨List.mem_of_getElem? (i := 406) (by decide +kernel), by decide +kernel⟩
theorem wa_388 : (Cond.selects R_Area y_A_admit y_A_admit) ∈ jv_LT := List.mem_filter.mpr ⟨List.mem_of_getElem? (i := 407) (by decide +kernel), by decide +kernel⟩
theorem wa_389 : (Cond.code y_V_areaOf prog_1_method_28_code 2 (some (.object "LabelVault$Area"))) ∈ jv_LT := List.mem_filter.mpr ⟨List.mem_of_getElem? (i := 419) (by decide +kernel), by decide +kernel⟩
theorem wa_390 : (Cond.methodLink R_Vault 79 y_V_areaOf) ∈ jv_LT := List.mem_filter.mpr ⟨List.mem_of_getElem? (i := 416) (by decide +kernel), by decide +kernel⟩
theorem wa_391 : (Cond.instanceMethod y_V_areaOf) ∈ jv_LT := List.mem_filter.mpr ⟨List.mem_of_getElem? (i := 418) (by decide +kernel), by decide +kernel⟩
theorem wa_392 : (Cond.selects R_Vault y_V_areaOf y_V_areaOf) ∈ jv_LT := List.mem_filter.mpr ⟨List.mem_of_getElem? (i := 6) (by decide +kernel), by decide +kernel⟩
theorem wa_393 : (Cond.code y_A_dismiss prog_2_method_3_code 3 (some .int)) ∈ jv_LT := List.mem_filter.mpr ⟨List.mem_of_getElem? (i := 423) (by decide +kernel), by decide +kernel⟩
theorem wa_394 : (Cond.methodLink R_Vault 82 y_A_dismiss) ∈ jv_LT := List.mem_filter.mpr ⟨List.mem_of_getElem? (i := 420) (by decide +kernel), by decide +kernel⟩
theorem wa_395 : (Cond.instanceMethod y_A_dismiss) ∈ jv_LT := List.mem_filter.mpr ⟨List.mem_of_getElem? (i := 421) (by decide +kernel), by decide +kernel⟩
theorem wa_396 : (Cond.selects R_Area y_A_dismiss y_A_dismiss) ∈ jv_LT := List.mem_filter.mpr ⟨List.mem_of_getElem? (i := 422) (by decide +kernel), by decide +kernel⟩
theorem wa_397 : (Cond.code y_P_isBelowRoot prog_7_method_3_code 1 (some .boolean)) ∈ jv_LT := List.mem_filter.mpr ⟨List.mem_of_getElem? (i := 435) (by decide +kernel), by decide +kernel⟩
theorem wa_398 : (Cond.methodLink R_Vault 85 y_P_isBelowRoot) ∈ jv_LT := List.mem_filter.mpr ⟨List.mem_of_getElem? (i := 433) (by decide +kernel), by decide +kernel⟩
theorem wa_399 : (Cond.static y_P_isBelowRoot) ∈ jv_LT := List.mem_filter.mpr ⟨List.mem_of_getElem? (i := 434) (by decide +kernel), by decide +kernel⟩
theorem wa_400 : (Cond.methodLink R_Vault 90 y_P_parentOf) ∈ jv_LT := List.mem_filter.mpr ⟨List.mem_of_getElem? (i := 445) (by decide +kernel), by decide +kernel⟩
theorem wa_401 : (Cond.code y_T_hasFileAbove prog_8_method_7_code 3 (some .boolean)) ∈ jv_LT := List.mem_filter.mpr ⟨List.mem_of_getElem? (i := 493) (by decide +kernel), by decide +kernel⟩
theorem wa_402 : (Cond.methodLink R_Vault 106 y_T_hasFileAbove) ∈ jv_LT := List.mem_filter.mpr ⟨List.mem_of_getElem? (i := 490) (by decide +kernel), by decide +kernel⟩
theorem wa_403 : (Cond.instanceMethod y_T_hasFileAbove) ∈ jv_LT := List.mem_filter.mpr ⟨List.mem_of_getElem? (i := 491) (by decide +kernel), by decide +kernel⟩
theorem wa_404 : (Cond.selects R_Tree y_T_hasFileAbove y_T_hasFileAbove) ∈ jv_LT := List.mem_filter.mpr ⟨List.mem_of_getElem? (i := 492) (by decide +kernel), by decide +kernel⟩
theorem wa_405 : (Cond.code y_T_create prog_8_method_8_code 7 (some .int)) ∈ jv_LT := List.mem_filter.mpr ⟨List.mem_of_getElem? (i := 516) (by decide +kernel), by decide +kernel⟩
theorem wa_406 : (Cond.methodLink R_Vault 121 y_T_create) ∈ jv_LT := List.mem_filter.mpr ⟨List.mem_of_getElem? (i := 513) (by decide +kernel), by decide +kernel⟩
theorem wa_407 : (Cond.instanceMethod y_T_create) ∈ jv_LT := List.mem_filter.mpr ⟨List.mem_of_getElem? (i := 514) (by decide +kernel), by decide +kernel⟩
theorem wa_408 : (Cond.selects R_Tree y_T_create y_T_create) ∈ jv_LT := List.mem_filter.mpr ⟨List.mem_of_getElem? (i := 515) (by decide +kernel), by decide +kernel⟩
theorem wa_409 : (Cond.code y_V_finish prog_1_method_36_code 3 (some .int)) ∈ jv_LT := List.mem_filter.mpr ⟨List.mem_of_getElem? (i := 536) (by decide +kernel), by decide +kernel⟩
theorem wa_410 : (Cond.methodLink R_Vault 128 y_V_finish) ∈ jv_LT := List.mem_filter.mpr ⟨List.mem_of_getElem? (i := 533) (by decide +kernel), by decide +kernel⟩
theorem wa_411 : (Cond.instanceMethod y_V_finish) ∈ jv_LT := List.mem_filter.mpr ⟨List.mem_of_getElem? (i := 535) (by decide +kernel), by decide +kernel⟩
theorem wa_412 : (Cond.selects R_Vault y_V_finish y_V_finish) ∈ jv_LT := List.mem_filter.mpr ⟨List.mem_of_getElem? (i := 11) (by decide +kernel), by decide +kernel⟩
theorem wa_413 : (Cond.code y_V_giveUp prog_1_method_35_code 1 (some .int)) ∈ jv_LT := List.mem_filter.mpr ⟨List.mem_of_getElem? (i := 531) (by decide +kernel), by decide +kernel⟩
theorem wa_414 : (Cond.methodLink R_Vault 124 y_V_giveUp) ∈ jv_LT := List.mem_filter.mpr ⟨List.mem_of_getElem? (i := 529) (by decide +kernel), by decide +kernel⟩
theorem wa_415 : (Cond.static y_V_giveUp) ∈ jv_LT := List.mem_filter.mpr ⟨List.mem_of_getElem? (i := 530) (by decide +kernel), by decide +kernel⟩
theorem wa_416 : (Cond.methodLink R_Vault 132 y_P_isPath) ∈ jv_LT := List.mem_filter.mpr ⟨List.mem_of_getElem? (i := 572) (by decide +kernel), by decide +kernel⟩
theorem wa_417 : (Cond.code y_V_ownInode prog_1_method_32_code 4 (some .int)) ∈ jv_LT := List.mem_filter.mpr ⟨List.mem_of_getElem? (i := 576) (by decide +kernel), by decide +kernel⟩
theorem wa_418 : (Cond.methodLink R_Vault 137 y_V_ownInode) ∈ jv_LT := List.mem_filter.mpr ⟨List.mem_of_getElem? (i := 573) (by decide +kernel), by decide +kernel⟩
theorem wa_419 : (Cond.instanceMethod y_V_ownInode) ∈ jv_LT := List.mem_filter.mpr ⟨List.mem_of_getElem? (i := 575) (by decide +kernel), by decide +kernel⟩
theorem wa_420 : (Cond.selects R_Vault y_V_ownInode y_V_ownInode) ∈ jv_LT := List.mem_filter.mpr ⟨List.mem_of_getElem? (i := 17) (by decide +kernel), by decide +kernel⟩
theorem wa_421 : (Cond.fieldLink R_Vault 144 R_Area "contents" "LLabelVault$Contents;") ∈ jv_LT := List.mem_filter.mpr ⟨List.mem_of_getElem? (i := 352) (by decide +kernel), by decide +kernel⟩
theorem wa_422 : (Cond.code y_C_store prog_3_method_4_code 5 (some .boolean)) ∈ jv_LT := List.mem_filter.mpr ⟨List.mem_of_getElem? (i := 587) (by decide +kernel), by decide +kernel⟩
theorem wa_423 : (Cond.methodLink R_Vault 148 y_C_store) ∈ jv_LT := List.mem_filter.mpr ⟨List.mem_of_getElem? (i := 584) (by decide +kernel), by decide +kernel⟩
theorem wa_424 : (Cond.instanceMethod y_C_store) ∈ jv_LT := List.mem_filter.mpr ⟨List.mem_of_getElem? (i := 585) (by decide +kernel), by decide +kernel⟩
theorem wa_425 : (Cond.selects R_Cont y_C_store y_C_store) ∈ jv_LT := List.mem_filter.mpr ⟨List.mem_of_getElem? (i := 586) (by decide +kernel), by decide +kernel⟩
theorem wa_426 : (Cond.methodLink R_Vault 152 y_C_sizeOf) ∈ jv_LT := List.mem_filter.mpr ⟨List.mem_of_getElem? (i := 624) (by decide +kernel), by decide +kernel⟩
theorem wa_427 : (Cond.code y_C_cut prog_3_method_5_code 5 (some .int)) ∈ jv_LT := List.mem_filter.mpr ⟨List.mem_of_getElem? (i := 636) (by decide +kernel), by decide +kernel⟩
theorem wa_428 : (Cond.methodLink R_Vault 157 y_C_cut) ∈ jv_LT := List.mem_filter.mpr ⟨List.mem_of_getElem? (i := 633) (by decide +kernel), by decide +kernel⟩
theorem wa_429 : (Cond.instanceMethod y_C_cut) ∈ jv_LT := List.mem_filter.mpr ⟨List.mem_of_getElem? (i := 634) (by decide +kernel), by decide +kernel⟩
theorem wa_430 : (Cond.selects R_Cont y_C_cut y_C_cut) ∈ jv_LT := List.mem_filter.mpr ⟨List.mem_of_getElem? (i := 635) (by decide +kernel), by decide +kernel⟩
theorem wa_431 : (Cond.methodLink R_Vault 160 y_T_childrenOf) ∈ jv_LT := List.mem_filter.mpr ⟨List.mem_of_getElem? (i := 664) (by decide +kernel), by decide +kernel⟩
theorem wa_432 : (Cond.code y_C_releaseAll prog_3_method_6_code 3 none) ∈ jv_LT := List.mem_filter.mpr ⟨List.mem_of_getElem? (i := 676) (by decide +kernel), by decide +kernel⟩
theorem wa_433 : (Cond.methodLink R_Vault 165 y_C_releaseAll) ∈ jv_LT := List.mem_filter.mpr ⟨List.mem_of_getElem? (i := 673) (by decide +kernel), by decide +kernel⟩
theorem wa_434 : (Cond.instanceMethod y_C_releaseAll) ∈ jv_LT := List.mem_filter.mpr ⟨List.mem_of_getElem? (i := 674) (by decide +kernel), by decide +kernel⟩
theorem wa_435 : (Cond.selects R_Cont y_C_releaseAll y_C_releaseAll) ∈ jv_LT := List.mem_filter.mpr ⟨List.mem_of_getElem? (i := 675) (by decide +kernel), by decide +kernel⟩
theorem wa_436 : (Cond.code y_T_erase prog_8_method_10_code 2 none) ∈ jv_LT := List.mem_filter.mpr ⟨List.mem_of_getElem? (i := 680) (by decide +kernel), by decide +kernel⟩
theorem wa_437 : (Cond.methodLink R_Vault 169 y_T_erase) ∈ jv_LT := List.mem_filter.mpr ⟨List.mem_of_getElem? (i := 677) (by decide +kernel), by decide +kernel⟩
theorem wa_438 : (Cond.instanceMethod y_T_erase) ∈ jv_LT := List.mem_filter.mpr ⟨List.mem_of_getElem? (i := 678) (by decide +kernel), by decide +kernel⟩
theorem wa_439 : (Cond.selects R_Tree y_T_erase y_T_erase) ∈ jv_LT := List.mem_filter.mpr ⟨List.mem_of_getElem? (i := 679) (by decide +kernel), by decide +kernel⟩
theorem wa_440 : (Cond.code y_P_startsWith prog_7_method_8_code 3 (some .boolean)) ∈ jv_LT := List.mem_filter.mpr ⟨List.mem_of_getElem? (i := 692) (by decide +kernel), by decide +kernel⟩
theorem wa_441 : (Cond.methodLink R_Vault 177 y_P_startsWith) ∈ jv_LT := List.mem_filter.mpr ⟨List.mem_of_getElem? (i := 690) (by decide +kernel), by decide +kernel⟩
theorem wa_442 : (Cond.static y_P_startsWith) ∈ jv_LT := List.mem_filter.mpr ⟨List.mem_of_getElem? (i := 691) (by decide +kernel), by decide +kernel⟩
theorem wa_443 : (Cond.methodLink R_Vault 182 y_P_lengthOf) ∈ jv_LT := List.mem_filter.mpr ⟨List.mem_of_getElem? (i := 694) (by decide +kernel), by decide +kernel⟩
theorem wa_444 : (Cond.code y_T_heightOf prog_8_method_13_code 5 (some .int)) ∈ jv_LT := List.mem_filter.mpr ⟨List.mem_of_getElem? (i := 698) (by decide +kernel), by decide +kernel⟩
theorem wa_445 : (Cond.methodLink R_Vault 185 y_T_heightOf) ∈ jv_LT := List.mem_filter.mpr ⟨List.mem_of_getElem? (i := 695) (by decide +kernel), by decide +kernel⟩
theorem wa_446 : (Cond.instanceMethod y_T_heightOf) ∈ jv_LT := List.mem_filter.mpr ⟨List.mem_of_getElem? (i := 696) (by decide +kernel), by decide +kernel⟩
theorem wa_447 : (Cond.selects R_Tree y_T_heightOf y_T_heightOf) ∈ jv_LT := List.mem_filter.mpr ⟨List.mem_of_getElem? (i := 697) (by decide +kernel), by decide +kernel⟩
theorem wa_448 : (Cond.methodLink R_Vault 190 y_P_lastName) ∈ jv_LT := List.mem_filter.mpr ⟨List.mem_of_getElem? (i := 701) (by decide +kernel), by decide +kernel⟩
theorem wa_449 : (Cond.methodLink R_Vault 193 y_T_hang) ∈ jv_LT := List.mem_filter.mpr ⟨List.mem_of_getElem? (i := 702) (by decide +kernel), by decide +kernel⟩
theorem wa_450 : (Cond.code y_V_readableFile prog_1_method_34_code 4 (some .int)) ∈ jv_LT := List.mem_filter.mpr ⟨List.mem_of_getElem? (i := 713) (by decide +kernel), by decide +kernel⟩
theorem wa_451 : (Cond.methodLink R_Vault 197 y_V_readableFile) ∈ jv_LT := List.mem_filter.mpr ⟨List.mem_of_getElem? (i := 711) (by decide +kernel), by decide +kernel⟩
theorem wa_452 : (Cond.static y_V_readableFile) ∈ jv_LT := List.mem_filter.mpr ⟨List.mem_of_getElem? (i := 712) (by decide +kernel), by decide +kernel⟩
theorem wa_453 : (Cond.code y_C_wordOf prog_3_method_3_code 4 (some .int)) ∈ jv_LT := List.mem_filter.mpr ⟨List.mem_of_getElem? (i := 735) (by decide +kernel), by decide +kernel⟩
theorem wa_454 : (Cond.methodLink R_Vault 206 y_C_wordOf) ∈ jv_LT := List.mem_filter.mpr ⟨List.mem_of_getElem? (i := 732) (by decide +kernel), by decide +kernel⟩
theorem wa_455 : (Cond.instanceMethod y_C_wordOf) ∈ jv_LT := List.mem_filter.mpr ⟨List.mem_of_getElem? (i := 733) (by decide +kernel), by decide +kernel⟩
theorem wa_456 : (Cond.selects R_Cont y_C_wordOf y_C_wordOf) ∈ jv_LT := List.mem_filter.mpr ⟨List.mem_of_getElem? (i := 734) (by decide +kernel), by decide +kernel⟩
theorem wa_457 : (Cond.classLink R_Vault 201 "java/lang/IndexOutOfBoundsException") ∈ jv_LT := List.mem_filter.mpr ⟨List.mem_of_getElem? (i := 716) (by decide +kernel), by decide +kernel⟩
theorem wa_458 : (Cond.instantiable "java/lang/IndexOutOfBoundsException" 6) ∈ jv_LT := List.mem_filter.mpr ⟨List.mem_of_getElem? (i := 717) (by decide +kernel), by decide +kernel⟩
theorem wa_459 : (Cond.initialized "java/lang/IndexOutOfBoundsException") ∈ jv_LT := List.mem_filter.mpr ⟨List.mem_of_getElem? (i := 68) (by decide +kernel), by decide +kernel⟩
theorem wa_460 : (Cond.code y_V_namesSeen prog_1_method_31_code 5 (some .int)) ∈ jv_LT := List.mem_filter.mpr ⟨List.mem_of_getElem? (i := 747) (by decide +kernel), by decide +kernel⟩
theorem wa_461 : (Cond.methodLink R_Vault 213 y_V_namesSeen) ∈ jv_LT := List.mem_filter.mpr ⟨List.mem_of_getElem? (i := 744) (by decide +kernel), by decide +kernel⟩
theorem wa_462 : (Cond.instanceMethod y_V_namesSeen) ∈ jv_LT := List.mem_filter.mpr ⟨List.mem_of_getElem? (i := 746) (by decide +kernel), by decide +kernel⟩
theorem wa_463 : (Cond.selects R_Vault y_V_namesSeen y_V_namesSeen) ∈ jv_LT := List.mem_filter.mpr ⟨List.mem_of_getElem? (i := 28) (by decide +kernel), by decide +kernel⟩
theorem wa_464 : (Cond.code y_D_wordInPlace prog_4_method_2_code 3 (some .int)) ∈ jv_LT := List.mem_filter.mpr ⟨List.mem_of_getElem? (i := 787) (by decide +kernel), by decide +kernel⟩
theorem wa_465 : (Cond.methodLink R_Vault 230 y_D_wordInPlace) ∈ jv_LT := List.mem_filter.mpr ⟨List.mem_of_getElem? (i := 784) (by decide +kernel), by decide +kernel⟩
theorem wa_466 : (Cond.instanceMethod y_D_wordInPlace) ∈ jv_LT := List.mem_filter.mpr ⟨List.mem_of_getElem? (i := 785) (by decide +kernel), by decide +kernel⟩
theorem wa_467 : (Cond.selects R_Disk y_D_wordInPlace y_D_wordInPlace) ∈ jv_LT := List.mem_filter.mpr ⟨List.mem_of_getElem? (i := 786) (by decide +kernel), by decide +kernel⟩
theorem wa_468 : (Cond.code y_C_countFree prog_3_method_7_code 1 (some .int)) ∈ jv_LT := List.mem_filter.mpr ⟨List.mem_of_getElem? (i := 152) (by decide +kernel), by decide +kernel⟩
theorem wa_469 : (Cond.methodLink R_Vault 236 y_C_countFree) ∈ jv_LT := List.mem_filter.mpr ⟨List.mem_of_getElem? (i := 149) (by decide +kernel), by decide +kernel⟩
theorem wa_470 : (Cond.instanceMethod y_C_countFree) ∈ jv_LT := List.mem_filter.mpr ⟨List.mem_of_getElem? (i := 150) (by decide +kernel), by decide +kernel⟩
theorem wa_471 : (Cond.selects R_Cont y_C_countFree y_C_countFree) ∈ jv_LT := List.mem_filter.mpr ⟨List.mem_of_getElem? (i := 151) (by decide +kernel), by decide +kernel⟩
theorem wa_472 : (Cond.code y_T_countFree prog_8_method_14_code 3 (some .int)) ∈ jv_LT := List.mem_filter.mpr ⟨List.mem_of_getElem? (i := 166) (by decide +kernel), by decide +kernel⟩
theorem wa_473 : (Cond.methodLink R_Vault 239 y_T_countFree) ∈ jv_LT := List.mem_filter.mpr ⟨List.mem_of_getElem? (i := 163) (by decide +kernel), by decide +kernel⟩
theorem wa_474 : (Cond.instanceMethod y_T_countFree) ∈ jv_LT := List.mem_filter.mpr ⟨List.mem_of_getElem? (i := 164) (by decide +kernel), by decide +kernel⟩
theorem wa_475 : (Cond.selects R_Tree y_T_countFree y_T_countFree) ∈ jv_LT := List.mem_filter.mpr ⟨List.mem_of_getElem? (i := 165) (by decide +kernel), by decide +kernel⟩
theorem wa_476 : (Cond.fieldLink R_Vault 240 R_Disk "writes" "I") ∈ jv_LT := List.mem_filter.mpr ⟨List.mem_of_getElem? (i := 305) (by decide +kernel), by decide +kernel⟩
theorem oa_256 : ∀ w ∈ (Bundle.ownAtoms "LabelVault" 256 "java/lang/IllegalArgumentException" ["java/lang/RuntimeException", "java/lang/Exception"]).filter vx_no, w ∈ jv_LT ∨ w ∈ jv_ng := by decide +kernel
theorem oa_47 : ∀ w ∈ (Bundle.ownAtoms "LabelVault" 47 "java/lang/IllegalStateException" ["java/lang/RuntimeException", "java/lang/Exception"]).filter vx_no, w ∈ jv_LT ∨ w ∈ jv_ng := by decide +kernel
theorem oa_101 : ∀ w ∈ (jv_nA "LabelVault" 101 "java/util/NoSuchElementException" "java/lang/RuntimeException" 13 ["java/lang/Exception"]).filter vx_no, w ∈ jv_LT ∨ w ∈ jv_ng := by decide +kernel
theorem oa_115 : ∀ w ∈ (Bundle.ownAtoms "LabelVault" 115 "java/lang/UnsupportedOperationException" ["java/lang/RuntimeException", "java/lang/Exception"]).filter vx_no, w ∈ jv_LT ∨ w ∈ jv_ng := by decide +kernel
theorem oa_205 : ∀ w ∈ (Bundle.ownAtoms "LabelVault" 205 "java/lang/IndexOutOfBoundsException" ["java/lang/RuntimeException", "java/lang/Exception"]).filter vx_no, w ∈ jv_LT ∨ w ∈ jv_ng := by decide +kernel
