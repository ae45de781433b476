theorem d_L_isLabel_0 : decode cc_L_isLabel 0 = .ok (.iload_n 0, 1) := by decide +kernel
theorem d_L_isLabel_1 : decode cc_L_isLabel 1 = .ok (.ifCond .lt 14, 3) := by decide +kernel
theorem d_L_isLabel_15 : decode cc_L_isLabel 15 = .ok (.iconst 0, 1) := by decide +kernel
theorem d_L_isLabel_16 : decode cc_L_isLabel 16 = .ok (.ireturn, 1) := by decide +kernel
theorem d_L_isLabel_4 : decode cc_L_isLabel 4 = .ok (.iload_n 0, 1) := by decide +kernel
theorem d_L_isLabel_5 : decode cc_L_isLabel 5 = .ok (.sipush 512, 3) := by decide +kernel
theorem d_L_isLabel_8 : decode cc_L_isLabel 8 = .ok (.if_icmp .ge 7, 3) := by decide +kernel
theorem d_L_isLabel_11 : decode cc_L_isLabel 11 = .ok (.iconst 1, 1) := by decide +kernel
theorem d_L_isLabel_12 : decode cc_L_isLabel 12 = .ok (.goto 4, 3) := by decide +kernel
theorem d_L_isSecrecyWithin_0 : decode cc_L_isSecrecyWithin 0 = .ok (.iload_n 0, 1) := by decide +kernel
theorem d_L_isSecrecyWithin_1 : decode cc_L_isSecrecyWithin 1 = .ok (.iconst 3, 1) := by decide +kernel
theorem d_L_isSecrecyWithin_2 : decode cc_L_isSecrecyWithin 2 = .ok (.iand, 1) := by decide +kernel
theorem d_L_isSecrecyWithin_3 : decode cc_L_isSecrecyWithin 3 = .ok (.iload_n 1, 1) := by decide +kernel
theorem d_L_isSecrecyWithin_4 : decode cc_L_isSecrecyWithin 4 = .ok (.iconst 3, 1) := by decide +kernel
theorem d_L_isSecrecyWithin_5 : decode cc_L_isSecrecyWithin 5 = .ok (.iand, 1) := by decide +kernel
theorem d_L_isSecrecyWithin_6 : decode cc_L_isSecrecyWithin 6 = .ok (.if_icmp .gt 18, 3) := by decide +kernel
theorem d_L_isSecrecyWithin_24 : decode cc_L_isSecrecyWithin 24 = .ok (.iconst 0, 1) := by decide +kernel
theorem d_L_isSecrecyWithin_25 : decode cc_L_isSecrecyWithin 25 = .ok (.ireturn, 1) := by decide +kernel
theorem d_L_isSecrecyWithin_9 : decode cc_L_isSecrecyWithin 9 = .ok (.iload_n 0, 1) := by decide +kernel
theorem d_L_isSecrecyWithin_10 : decode cc_L_isSecrecyWithin 10 = .ok (.iload_n 1, 1) := by decide +kernel
theorem d_L_isSecrecyWithin_11 : decode cc_L_isSecrecyWithin 11 = .ok (.iconst (-1), 1) := by decide +kernel
theorem d_L_isSecrecyWithin_12 : decode cc_L_isSecrecyWithin 12 = .ok (.ixor, 1) := by decide +kernel
theorem d_L_isSecrecyWithin_13 : decode cc_L_isSecrecyWithin 13 = .ok (.iand, 1) := by decide +kernel
theorem d_L_isSecrecyWithin_14 : decode cc_L_isSecrecyWithin 14 = .ok (.bipush 28, 2) := by decide +kernel
theorem d_L_isSecrecyWithin_16 : decode cc_L_isSecrecyWithin 16 = .ok (.iand, 1) := by decide +kernel
theorem d_L_isSecrecyWithin_17 : decode cc_L_isSecrecyWithin 17 = .ok (.ifCond .ne 7, 3) := by decide +kernel
theorem d_L_isSecrecyWithin_20 : decode cc_L_isSecrecyWithin 20 = .ok (.iconst 1, 1) := by decide +kernel
theorem d_L_isSecrecyWithin_21 : decode cc_L_isSecrecyWithin 21 = .ok (.goto 4, 3) := by decide +kernel
theorem d_L_isIntegrityWithin_0 : decode cc_L_isIntegrityWithin 0 = .ok (.iload_n 0, 1) := by decide +kernel
theorem d_L_isIntegrityWithin_1 : decode cc_L_isIntegrityWithin 1 = .ok (.bipush 96, 2) := by decide +kernel
theorem d_L_isIntegrityWithin_3 : decode cc_L_isIntegrityWithin 3 = .ok (.iand, 1) := by decide +kernel
theorem d_L_isIntegrityWithin_4 : decode cc_L_isIntegrityWithin 4 = .ok (.iload_n 1, 1) := by decide +kernel
theorem d_L_isIntegrityWithin_5 : decode cc_L_isIntegrityWithin 5 = .ok (.bipush 96, 2) := by decide +kernel
theorem d_L_isIntegrityWithin_7 : decode cc_L_isIntegrityWithin 7 = .ok (.iand, 1) := by decide +kernel
theorem d_L_isIntegrityWithin_8 : decode cc_L_isIntegrityWithin 8 = .ok (.if_icmp .gt 19, 3) := by decide +kernel
theorem d_L_isIntegrityWithin_27 : decode cc_L_isIntegrityWithin 27 = .ok (.iconst 0, 1) := by decide +kernel
theorem d_L_isIntegrityWithin_28 : decode cc_L_isIntegrityWithin 28 = .ok (.ireturn, 1) := by decide +kernel
theorem d_L_isIntegrityWithin_11 : decode cc_L_isIntegrityWithin 11 = .ok (.iload_n 0, 1) := by decide +kernel
theorem d_L_isIntegrityWithin_12 : decode cc_L_isIntegrityWithin 12 = .ok (.iload_n 1, 1) := by decide +kernel
theorem d_L_isIntegrityWithin_13 : decode cc_L_isIntegrityWithin 13 = .ok (.iconst (-1), 1) := by decide +kernel
theorem d_L_isIntegrityWithin_14 : decode cc_L_isIntegrityWithin 14 = .ok (.ixor, 1) := by decide +kernel
theorem d_L_isIntegrityWithin_15 : decode cc_L_isIntegrityWithin 15 = .ok (.iand, 1) := by decide +kernel
theorem d_L_isIntegrityWithin_16 : decode cc_L_isIntegrityWithin 16 = .ok (.sipush 384, 3) := by decide +kernel
theorem d_L_isIntegrityWithin_19 : decode cc_L_isIntegrityWithin 19 = .ok (.iand, 1) := by decide +kernel
theorem d_L_isIntegrityWithin_20 : decode cc_L_isIntegrityWithin 20 = .ok (.ifCond .ne 7, 3) := by decide +kernel
theorem d_L_isIntegrityWithin_23 : decode cc_L_isIntegrityWithin 23 = .ok (.iconst 1, 1) := by decide +kernel
theorem d_L_isIntegrityWithin_24 : decode cc_L_isIntegrityWithin 24 = .ok (.goto 4, 3) := by decide +kernel
theorem d_L_mayFlow_0 : decode cc_L_mayFlow 0 = .ok (.iload_n 0, 1) := by decide +kernel
theorem d_L_mayFlow_1 : decode cc_L_mayFlow 1 = .ok (.iload_n 1, 1) := by decide +kernel
theorem d_L_mayFlow_2 : decode cc_L_mayFlow 2 = .ok (.invokestatic 9, 3) := by decide +kernel
theorem d_L_mayFlow_5 : decode cc_L_mayFlow 5 = .ok (.ifCond .eq 15, 3) := by decide +kernel
theorem d_L_mayFlow_20 : decode cc_L_mayFlow 20 = .ok (.iconst 0, 1) := by decide +kernel
theorem d_L_mayFlow_21 : decode cc_L_mayFlow 21 = .ok (.ireturn, 1) := by decide +kernel
theorem d_L_mayFlow_8 : decode cc_L_mayFlow 8 = .ok (.iload_n 1, 1) := by decide +kernel
theorem d_L_mayFlow_9 : decode cc_L_mayFlow 9 = .ok (.iload_n 0, 1) := by decide +kernel
theorem d_L_mayFlow_10 : decode cc_L_mayFlow 10 = .ok (.invokestatic 13, 3) := by decide +kernel
theorem d_L_mayFlow_13 : decode cc_L_mayFlow 13 = .ok (.ifCond .eq 7, 3) := by decide +kernel
theorem d_L_mayFlow_16 : decode cc_L_mayFlow 16 = .ok (.iconst 1, 1) := by decide +kernel
theorem d_L_mayFlow_17 : decode cc_L_mayFlow 17 = .ok (.goto 4, 3) := by decide +kernel
theorem d_L_isWithin_0 : decode cc_L_isWithin 0 = .ok (.iload_n 0, 1) := by decide +kernel
theorem d_L_isWithin_1 : decode cc_L_isWithin 1 = .ok (.iload_n 1, 1) := by decide +kernel
theorem d_L_isWithin_2 : decode cc_L_isWithin 2 = .ok (.invokestatic 9, 3) := by decide +kernel
theorem d_L_isWithin_5 : decode cc_L_isWithin 5 = .ok (.ifCond .eq 15, 3) := by decide +kernel
theorem d_L_isWithin_20 : decode cc_L_isWithin 20 = .ok (.iconst 0, 1) := by decide +kernel
theorem d_L_isWithin_21 : decode cc_L_isWithin 21 = .ok (.ireturn, 1) := by decide +kernel
theorem d_L_isWithin_8 : decode cc_L_isWithin 8 = .ok (.iload_n 0, 1) := by decide +kernel
theorem d_L_isWithin_9 : decode cc_L_isWithin 9 = .ok (.iload_n 1, 1) := by decide +kernel
theorem d_L_isWithin_10 : decode cc_L_isWithin 10 = .ok (.invokestatic 13, 3) := by decide +kernel
theorem d_L_isWithin_13 : decode cc_L_isWithin 13 = .ok (.ifCond .eq 7, 3) := by decide +kernel
theorem d_L_isWithin_16 : decode cc_L_isWithin 16 = .ok (.iconst 1, 1) := by decide +kernel
theorem d_L_isWithin_17 : decode cc_L_isWithin 17 = .ok (.goto 4, 3) := by decide +kernel
theorem d_P_lastName_0 : decode cc_P_lastName 0 = .ok (.iload_n 0, 1) := by decide +kernel
theorem d_P_lastName_1 : decode cc_P_lastName 1 = .ok (.bipush 31, 2) := by decide +kernel
theorem d_P_lastName_3 : decode cc_P_lastName 3 = .ok (.iand, 1) := by decide +kernel
theorem d_P_lastName_4 : decode cc_P_lastName 4 = .ok (.ireturn, 1) := by decide +kernel
theorem d_P_parentOf_0 : decode cc_P_parentOf 0 = .ok (.iload_n 0, 1) := by decide +kernel
theorem d_P_parentOf_1 : decode cc_P_parentOf 1 = .ok (.iconst 5, 1) := by decide +kernel
theorem d_P_parentOf_2 : decode cc_P_parentOf 2 = .ok (.ishr, 1) := by decide +kernel
theorem d_P_parentOf_3 : decode cc_P_parentOf 3 = .ok (.ireturn, 1) := by decide +kernel
theorem d_P_without_0 : decode cc_P_without 0 = .ok (.iload_n 0, 1) := by decide +kernel
theorem d_P_without_1 : decode cc_P_without 1 = .ok (.iload_n 1, 1) := by decide +kernel
theorem d_P_without_2 : decode cc_P_without 2 = .ok (.iconst 5, 1) := by decide +kernel
theorem d_P_without_3 : decode cc_P_without 3 = .ok (.imul, 1) := by decide +kernel
theorem d_P_without_4 : decode cc_P_without 4 = .ok (.ishr, 1) := by decide +kernel
theorem d_P_without_5 : decode cc_P_without 5 = .ok (.ireturn, 1) := by decide +kernel
theorem d_P_isPath_0 : decode cc_P_isPath 0 = .ok (.iload_n 0, 1) := by decide +kernel
theorem d_P_isPath_1 : decode cc_P_isPath 1 = .ok (.istore_n 1, 1) := by decide +kernel
theorem d_P_isPath_2 : decode cc_P_isPath 2 = .ok (.iconst 0, 1) := by decide +kernel
theorem d_P_isPath_3 : decode cc_P_isPath 3 = .ok (.istore_n 2, 1) := by decide +kernel
theorem d_P_isPath_4 : decode cc_P_isPath 4 = .ok (.iload_n 2, 1) := by decide +kernel
theorem d_P_isPath_5 : decode cc_P_isPath 5 = .ok (.iconst 4, 1) := by decide +kernel
theorem d_P_isPath_6 : decode cc_P_isPath 6 = .ok (.if_icmp .ge 35, 3) := by decide +kernel
theorem d_P_isPath_41 : decode cc_P_isPath 41 = .ok (.iload_n 1, 1) := by decide +kernel
theorem d_P_isPath_42 : decode cc_P_isPath 42 = .ok (.ifCond .ne 7, 3) := by decide +kernel
theorem d_P_isPath_49 : decode cc_P_isPath 49 = .ok (.iconst 0, 1) := by decide +kernel
theorem d_P_isPath_50 : decode cc_P_isPath 50 = .ok (.ireturn, 1) := by decide +kernel
theorem d_P_isPath_45 : decode cc_P_isPath 45 = .ok (.iconst 1, 1) := by decide +kernel
theorem d_P_isPath_46 : decode cc_P_isPath 46 = .ok (.goto 4, 3) := by decide +kernel
theorem d_P_isPath_9 : decode cc_P_isPath 9 = .ok (.iload_n 1, 1) := by decide +kernel
theorem d_P_isPath_10 : decode cc_P_isPath 10 = .ok (.ifCond .eq 31, 3) := by decide +kernel
theorem d_P_isPath_13 : decode cc_P_isPath 13 = .ok (.iload_n 1, 1) := by decide +kernel
theorem d_P_isPath_14 : decode cc_P_isPath 14 = .ok (.invokestatic 9, 3) := by decide +kernel
theorem d_P_isPath_17 : decode cc_P_isPath 17 = .ok (.istore_n 3, 1) := by decide +kernel
theorem d_P_isPath_18 : decode cc_P_isPath 18 = .ok (.iload_n 3, 1) := by decide +kernel
theorem d_P_isPath_19 : decode cc_P_isPath 19 = .ok (.ifCond .eq 9, 3) := by decide +kernel
theorem d_P_isPath_28 : decode cc_P_isPath 28 = .ok (.iconst 0, 1) := by decide +kernel
theorem d_P_isPath_29 : decode cc_P_isPath 29 = .ok (.ireturn, 1) := by decide +kernel
theorem d_P_isPath_22 : decode cc_P_isPath 22 = .ok (.iload_n 3, 1) := by decide +kernel
theorem d_P_isPath_23 : decode cc_P_isPath 23 = .ok (.bipush 26, 2) := by decide +kernel
theorem d_P_isPath_25 : decode cc_P_isPath 25 = .ok (.if_icmp .le 5, 3) := by decide +kernel
theorem d_P_isPath_30 : decode cc_P_isPath 30 = .ok (.iload_n 1, 1) := by decide +kernel
theorem d_P_isPath_31 : decode cc_P_isPath 31 = .ok (.invokestatic 13, 3) := by decide +kernel
theorem d_P_isPath_34 : decode cc_P_isPath 34 = .ok (.istore_n 1, 1) := by decide +kernel
theorem d_P_isPath_35 : decode cc_P_isPath 35 = .ok (.iinc 2 1, 3) := by decide +kernel
theorem d_P_isPath_38 : decode cc_P_isPath 38 = .ok (.goto (-34), 3) := by decide +kernel
theorem d_P_isBelowRoot_0 : decode cc_P_isBelowRoot 0 = .ok (.iload_n 0, 1) := by decide +kernel
theorem d_P_isBelowRoot_1 : decode cc_P_isBelowRoot 1 = .ok (.ifCond .eq 14, 3) := by decide +kernel
theorem d_P_isBelowRoot_15 : decode cc_P_isBelowRoot 15 = .ok (.iconst 0, 1) := by decide +kernel
theorem d_P_isBelowRoot_16 : decode cc_P_isBelowRoot 16 = .ok (.ireturn, 1) := by decide +kernel
theorem d_P_isBelowRoot_4 : decode cc_P_isBelowRoot 4 = .ok (.iload_n 0, 1) := by decide +kernel
theorem d_P_isBelowRoot_5 : decode cc_P_isBelowRoot 5 = .ok (.invokestatic 16, 3) := by decide +kernel
theorem d_P_isBelowRoot_8 : decode cc_P_isBelowRoot 8 = .ok (.ifCond .eq 7, 3) := by decide +kernel
theorem d_P_isBelowRoot_11 : decode cc_P_isBelowRoot 11 = .ok (.iconst 1, 1) := by decide +kernel
theorem d_P_isBelowRoot_12 : decode cc_P_isBelowRoot 12 = .ok (.goto 4, 3) := by decide +kernel
theorem d_P_lengthOf_0 : decode cc_P_lengthOf 0 = .ok (.iconst 0, 1) := by decide +kernel
theorem d_P_lengthOf_1 : decode cc_P_lengthOf 1 = .ok (.istore_n 1, 1) := by decide +kernel
theorem d_P_lengthOf_2 : decode cc_P_lengthOf 2 = .ok (.iconst 0, 1) := by decide +kernel
theorem d_P_lengthOf_3 : decode cc_P_lengthOf 3 = .ok (.istore_n 2, 1) := by decide +kernel
theorem d_P_lengthOf_4 : decode cc_P_lengthOf 4 = .ok (.iload_n 2, 1) := by decide +kernel
theorem d_P_lengthOf_5 : decode cc_P_lengthOf 5 = .ok (.iconst 4, 1) := by decide +kernel
theorem d_P_lengthOf_6 : decode cc_P_lengthOf 6 = .ok (.if_icmp .ge 20, 3) := by decide +kernel
theorem d_P_lengthOf_26 : decode cc_P_lengthOf 26 = .ok (.iload_n 1, 1) := by decide +kernel
theorem d_P_lengthOf_27 : decode cc_P_lengthOf 27 = .ok (.ireturn, 1) := by decide +kernel
theorem d_P_lengthOf_9 : decode cc_P_lengthOf 9 = .ok (.iload_n 0, 1) := by decide +kernel
theorem d_P_lengthOf_10 : decode cc_P_lengthOf 10 = .ok (.iload_n 2, 1) := by decide +kernel
theorem d_P_lengthOf_11 : decode cc_P_lengthOf 11 = .ok (.invokestatic 20, 3) := by decide +kernel
theorem d_P_lengthOf_14 : decode cc_P_lengthOf 14 = .ok (.ifCond .eq 6, 3) := by decide +kernel
theorem d_P_lengthOf_20 : decode cc_P_lengthOf 20 = .ok (.iinc 2 1, 3) := by decide +kernel
theorem d_P_lengthOf_23 : decode cc_P_lengthOf 23 = .ok (.goto (-19), 3) := by decide +kernel
theorem d_P_lengthOf_17 : decode cc_P_lengthOf 17 = .ok (.iinc 1 1, 3) := by decide +kernel
theorem d_P_startsWith_0 : decode cc_P_startsWith 0 = .ok (.iconst 0, 1) := by decide +kernel
theorem d_P_startsWith_1 : decode cc_P_startsWith 1 = .ok (.istore_n 2, 1) := by decide +kernel
theorem d_P_startsWith_2 : decode cc_P_startsWith 2 = .ok (.iload_n 2, 1) := by decide +kernel
theorem d_P_startsWith_3 : decode cc_P_startsWith 3 = .ok (.iconst 4, 1) := by decide +kernel
theorem d_P_startsWith_4 : decode cc_P_startsWith 4 = .ok (.if_icmp .ge 20, 3) := by decide +kernel
theorem d_P_startsWith_24 : decode cc_P_startsWith 24 = .ok (.iconst 0, 1) := by decide +kernel
theorem d_P_startsWith_25 : decode cc_P_startsWith 25 = .ok (.ireturn, 1) := by decide +kernel
theorem d_P_startsWith_7 : decode cc_P_startsWith 7 = .ok (.iload_n 0, 1) := by decide +kernel
theorem d_P_startsWith_8 : decode cc_P_startsWith 8 = .ok (.iload_n 2, 1) := by decide +kernel
theorem d_P_startsWith_9 : decode cc_P_startsWith 9 = .ok (.invokestatic 20, 3) := by decide +kernel
theorem d_P_startsWith_12 : decode cc_P_startsWith 12 = .ok (.iload_n 1, 1) := by decide +kernel
theorem d_P_startsWith_13 : decode cc_P_startsWith 13 = .ok (.if_icmp .ne 5, 3) := by decide +kernel
theorem d_P_startsWith_18 : decode cc_P_startsWith 18 = .ok (.iinc 2 1, 3) := by decide +kernel
theorem d_P_startsWith_21 : decode cc_P_startsWith 21 = .ok (.goto (-19), 3) := by decide +kernel
theorem d_P_startsWith_16 : decode cc_P_startsWith 16 = .ok (.iconst 1, 1) := by decide +kernel
theorem d_P_startsWith_17 : decode cc_P_startsWith 17 = .ok (.ireturn, 1) := by decide +kernel
theorem d_Fu_letsPass_0 : decode cc_Fu_letsPass 0 = .ok (.aload_n 0, 1) := by decide +kernel
theorem d_Fu_letsPass_1 : decode cc_Fu_letsPass 1 = .ok (.getfield 9, 3) := by decide +kernel
theorem d_Fu_letsPass_4 : decode cc_Fu_letsPass 4 = .ok (.ifCond .ne 5, 3) := by decide +kernel
theorem d_Fu_letsPass_9 : decode cc_Fu_letsPass 9 = .ok (.aload_n 0, 1) := by decide +kernel
theorem d_Fu_letsPass_10 : decode cc_Fu_letsPass 10 = .ok (.getfield 9, 3) := by decide +kernel
theorem d_Fu_letsPass_13 : decode cc_Fu_letsPass 13 = .ok (.ifCond .le 13, 3) := by decide +kernel
theorem d_Fu_letsPass_26 : decode cc_Fu_letsPass 26 = .ok (.iconst 1, 1) := by decide +kernel
theorem d_Fu_letsPass_27 : decode cc_Fu_letsPass 27 = .ok (.ireturn, 1) := by decide +kernel
theorem d_Fu_letsPass_16 : decode cc_Fu_letsPass 16 = .ok (.aload_n 0, 1) := by decide +kernel
theorem d_Fu_letsPass_17 : decode cc_Fu_letsPass 17 = .ok (.dup, 1) := by decide +kernel
theorem d_Fu_letsPass_18 : decode cc_Fu_letsPass 18 = .ok (.getfield 9, 3) := by decide +kernel
theorem d_Fu_letsPass_21 : decode cc_Fu_letsPass 21 = .ok (.iconst 1, 1) := by decide +kernel
theorem d_Fu_letsPass_22 : decode cc_Fu_letsPass 22 = .ok (.isub, 1) := by decide +kernel
theorem d_Fu_letsPass_23 : decode cc_Fu_letsPass 23 = .ok (.putfield 9, 3) := by decide +kernel
theorem d_Fu_letsPass_7 : decode cc_Fu_letsPass 7 = .ok (.iconst 0, 1) := by decide +kernel
theorem d_Fu_letsPass_8 : decode cc_Fu_letsPass 8 = .ok (.ireturn, 1) := by decide +kernel
theorem d_D_get_0 : decode cc_D_get 0 = .ok (.aload_n 0, 1) := by decide +kernel
theorem d_D_get_1 : decode cc_D_get 1 = .ok (.getfield 15, 3) := by decide +kernel
theorem d_D_get_4 : decode cc_D_get 4 = .ok (.iload_n 1, 1) := by decide +kernel
theorem d_D_get_5 : decode cc_D_get 5 = .ok (.bipush 8, 2) := by decide +kernel
theorem d_D_get_7 : decode cc_D_get 7 = .ok (.imul, 1) := by decide +kernel
theorem d_D_get_8 : decode cc_D_get 8 = .ok (.iload_n 2, 1) := by decide +kernel
theorem d_D_get_9 : decode cc_D_get 9 = .ok (.iadd, 1) := by decide +kernel
theorem d_D_get_10 : decode cc_D_get 10 = .ok (.iaload, 1) := by decide +kernel
theorem d_D_get_11 : decode cc_D_get 11 = .ok (.ireturn, 1) := by decide +kernel
theorem d_D_inodeWord_0 : decode cc_D_inodeWord 0 = .ok (.aload_n 0, 1) := by decide +kernel
theorem d_D_inodeWord_1 : decode cc_D_inodeWord 1 = .ok (.getfield 15, 3) := by decide +kernel
theorem d_D_inodeWord_4 : decode cc_D_inodeWord 4 = .ok (.iconst 1, 1) := by decide +kernel
theorem d_D_inodeWord_5 : decode cc_D_inodeWord 5 = .ok (.iload_n 1, 1) := by decide +kernel
theorem d_D_inodeWord_6 : decode cc_D_inodeWord 6 = .ok (.iadd, 1) := by decide +kernel
theorem d_D_inodeWord_7 : decode cc_D_inodeWord 7 = .ok (.bipush 8, 2) := by decide +kernel
theorem d_D_inodeWord_9 : decode cc_D_inodeWord 9 = .ok (.imul, 1) := by decide +kernel
theorem d_D_inodeWord_10 : decode cc_D_inodeWord 10 = .ok (.iload_n 2, 1) := by decide +kernel
theorem d_D_inodeWord_11 : decode cc_D_inodeWord 11 = .ok (.iadd, 1) := by decide +kernel
theorem d_D_inodeWord_12 : decode cc_D_inodeWord 12 = .ok (.iaload, 1) := by decide +kernel
theorem d_D_inodeWord_13 : decode cc_D_inodeWord 13 = .ok (.ireturn, 1) := by decide +kernel
theorem d_D_put_0 : decode cc_D_put 0 = .ok (.aload_n 0, 1) := by decide +kernel
theorem d_D_put_1 : decode cc_D_put 1 = .ok (.getfield 15, 3) := by decide +kernel
theorem d_D_put_4 : decode cc_D_put 4 = .ok (.iload_n 1, 1) := by decide +kernel
theorem d_D_put_5 : decode cc_D_put 5 = .ok (.bipush 8, 2) := by decide +kernel
theorem d_D_put_7 : decode cc_D_put 7 = .ok (.imul, 1) := by decide +kernel
theorem d_D_put_8 : decode cc_D_put 8 = .ok (.iload_n 2, 1) := by decide +kernel
theorem d_D_put_9 : decode cc_D_put 9 = .ok (.iadd, 1) := by decide +kernel
theorem d_D_put_10 : decode cc_D_put 10 = .ok (.iload_n 3, 1) := by decide +kernel
theorem d_D_put_11 : decode cc_D_put 11 = .ok (.iastore, 1) := by decide +kernel
theorem d_D_put_12 : decode cc_D_put 12 = .ok (.return_, 1) := by decide +kernel
theorem d_D_putInodeWord_0 : decode cc_D_putInodeWord 0 = .ok (.aload_n 0, 1) := by decide +kernel
theorem d_D_putInodeWord_1 : decode cc_D_putInodeWord 1 = .ok (.getfield 15, 3) := by decide +kernel
theorem d_D_putInodeWord_4 : decode cc_D_putInodeWord 4 = .ok (.iconst 1, 1) := by decide +kernel
theorem d_D_putInodeWord_5 : decode cc_D_putInodeWord 5 = .ok (.iload_n 1, 1) := by decide +kernel
theorem d_D_putInodeWord_6 : decode cc_D_putInodeWord 6 = .ok (.iadd, 1) := by decide +kernel
theorem d_D_putInodeWord_7 : decode cc_D_putInodeWord 7 = .ok (.bipush 8, 2) := by decide +kernel
theorem d_D_putInodeWord_9 : decode cc_D_putInodeWord 9 = .ok (.imul, 1) := by decide +kernel
theorem d_D_putInodeWord_10 : decode cc_D_putInodeWord 10 = .ok (.iload_n 2, 1) := by decide +kernel
theorem d_D_putInodeWord_11 : decode cc_D_putInodeWord 11 = .ok (.iadd, 1) := by decide +kernel
theorem d_D_putInodeWord_12 : decode cc_D_putInodeWord 12 = .ok (.iload_n 3, 1) := by decide +kernel
theorem d_D_putInodeWord_13 : decode cc_D_putInodeWord 13 = .ok (.iastore, 1) := by decide +kernel
theorem d_D_putInodeWord_14 : decode cc_D_putInodeWord 14 = .ok (.return_, 1) := by decide +kernel
theorem d_D_zeroFrom_0 : decode cc_D_zeroFrom 0 = .ok (.iload_n 2, 1) := by decide +kernel
theorem d_D_zeroFrom_1 : decode cc_D_zeroFrom 1 = .ok (.istore_n 3, 1) := by decide +kernel
theorem d_D_zeroFrom_2 : decode cc_D_zeroFrom 2 = .ok (.iload_n 3, 1) := by decide +kernel
theorem d_D_zeroFrom_3 : decode cc_D_zeroFrom 3 = .ok (.bipush 8, 2) := by decide +kernel
theorem d_D_zeroFrom_5 : decode cc_D_zeroFrom 5 = .ok (.if_icmp .ge 21, 3) := by decide +kernel
theorem d_D_zeroFrom_26 : decode cc_D_zeroFrom 26 = .ok (.return_, 1) := by decide +kernel
theorem d_D_zeroFrom_8 : decode cc_D_zeroFrom 8 = .ok (.aload_n 0, 1) := by decide +kernel
theorem d_D_zeroFrom_9 : decode cc_D_zeroFrom 9 = .ok (.getfield 15, 3) := by decide +kernel
theorem d_D_zeroFrom_12 : decode cc_D_zeroFrom 12 = .ok (.iload_n 1, 1) := by decide +kernel
theorem d_D_zeroFrom_13 : decode cc_D_zeroFrom 13 = .ok (.bipush 8, 2) := by decide +kernel
theorem d_D_zeroFrom_15 : decode cc_D_zeroFrom 15 = .ok (.imul, 1) := by decide +kernel
theorem d_D_zeroFrom_16 : decode cc_D_zeroFrom 16 = .ok (.iload_n 3, 1) := by decide +kernel
theorem d_D_zeroFrom_17 : decode cc_D_zeroFrom 17 = .ok (.iadd, 1) := by decide +kernel
theorem d_D_zeroFrom_18 : decode cc_D_zeroFrom 18 = .ok (.iconst 0, 1) := by decide +kernel
theorem d_D_zeroFrom_19 : decode cc_D_zeroFrom 19 = .ok (.iastore, 1) := by decide +kernel
theorem d_D_zeroFrom_20 : decode cc_D_zeroFrom 20 = .ok (.iinc 3 1, 3) := by decide +kernel
theorem d_D_zeroFrom_23 : decode cc_D_zeroFrom 23 = .ok (.goto (-21), 3) := by decide +kernel
