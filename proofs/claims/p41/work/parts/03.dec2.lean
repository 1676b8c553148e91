theorem dX10_init_0 : decode cX10_init 0 = .ok (.aload_n 0, 1) := by decide +kernel
theorem dX10_init_1 : decode cX10_init 1 = .ok (.invokespecial 1, 3) := by decide +kernel
theorem dX10_init_4 : decode cX10_init 4 = .ok (.aload_n 0, 1) := by decide +kernel
theorem dX10_init_5 : decode cX10_init 5 = .ok (.new 7, 3) := by decide +kernel
theorem dX10_init_8 : decode cX10_init 8 = .ok (.dup, 1) := by decide +kernel
theorem dX10_init_9 : decode cX10_init 9 = .ok (.invokespecial 9, 3) := by decide +kernel
theorem dX10_init_12 : decode cX10_init 12 = .ok (.putfield 10, 3) := by decide +kernel
theorem dX10_init_15 : decode cX10_init 15 = .ok (.aload_n 0, 1) := by decide +kernel
theorem dX10_init_16 : decode cX10_init 16 = .ok (.new 16, 3) := by decide +kernel
theorem dX10_init_19 : decode cX10_init 19 = .ok (.dup, 1) := by decide +kernel
theorem dX10_init_20 : decode cX10_init 20 = .ok (.invokespecial 18, 3) := by decide +kernel
theorem dX10_init_23 : decode cX10_init 23 = .ok (.putfield 19, 3) := by decide +kernel
theorem dX10_init_26 : decode cX10_init 26 = .ok (.aload_n 0, 1) := by decide +kernel
theorem dX10_init_27 : decode cX10_init 27 = .ok (.new 16, 3) := by decide +kernel
theorem dX10_init_30 : decode cX10_init 30 = .ok (.dup, 1) := by decide +kernel
theorem dX10_init_31 : decode cX10_init 31 = .ok (.invokespecial 18, 3) := by decide +kernel
theorem dX10_init_34 : decode cX10_init 34 = .ok (.putfield 23, 3) := by decide +kernel
theorem dX10_init_37 : decode cX10_init 37 = .ok (.aload_n 0, 1) := by decide +kernel
theorem dX10_init_38 : decode cX10_init 38 = .ok (.new 26, 3) := by decide +kernel
theorem dX10_init_41 : decode cX10_init 41 = .ok (.dup, 1) := by decide +kernel
theorem dX10_init_42 : decode cX10_init 42 = .ok (.invokespecial 28, 3) := by decide +kernel
theorem dX10_init_45 : decode cX10_init 45 = .ok (.putfield 29, 3) := by decide +kernel
theorem dX10_init_48 : decode cX10_init 48 = .ok (.aload_n 0, 1) := by decide +kernel
theorem dX10_init_49 : decode cX10_init 49 = .ok (.new 33, 3) := by decide +kernel
theorem dX10_init_52 : decode cX10_init 52 = .ok (.dup, 1) := by decide +kernel
theorem dX10_init_53 : decode cX10_init 53 = .ok (.invokespecial 35, 3) := by decide +kernel
theorem dX10_init_56 : decode cX10_init 56 = .ok (.putfield 36, 3) := by decide +kernel
theorem dX10_init_59 : decode cX10_init 59 = .ok (.aload_n 0, 1) := by decide +kernel
theorem dX10_init_60 : decode cX10_init 60 = .ok (.sipush 225, 3) := by decide +kernel
theorem dX10_init_63 : decode cX10_init 63 = .ok (.newarray .int, 2) := by decide +kernel
theorem dX10_init_65 : decode cX10_init 65 = .ok (.putfield 40, 3) := by decide +kernel
theorem dX10_init_68 : decode cX10_init 68 = .ok (.aload_n 0, 1) := by decide +kernel
theorem dX10_init_69 : decode cX10_init 69 = .ok (.iconst 3, 1) := by decide +kernel
theorem dX10_init_70 : decode cX10_init 70 = .ok (.anewarray 44, 3) := by decide +kernel
theorem dX10_init_73 : decode cX10_init 73 = .ok (.dup, 1) := by decide +kernel
theorem dX10_init_74 : decode cX10_init 74 = .ok (.iconst 0, 1) := by decide +kernel
theorem dX10_init_75 : decode cX10_init 75 = .ok (.new 44, 3) := by decide +kernel
theorem dX10_init_78 : decode cX10_init 78 = .ok (.dup, 1) := by decide +kernel
theorem dX10_init_79 : decode cX10_init 79 = .ok (.invokespecial 46, 3) := by decide +kernel
theorem dX10_init_82 : decode cX10_init 82 = .ok (.aastore, 1) := by decide +kernel
theorem dX10_init_83 : decode cX10_init 83 = .ok (.dup, 1) := by decide +kernel
theorem dX10_init_84 : decode cX10_init 84 = .ok (.iconst 1, 1) := by decide +kernel
theorem dX10_init_85 : decode cX10_init 85 = .ok (.new 44, 3) := by decide +kernel
theorem dX10_init_88 : decode cX10_init 88 = .ok (.dup, 1) := by decide +kernel
theorem dX10_init_89 : decode cX10_init 89 = .ok (.invokespecial 46, 3) := by decide +kernel
theorem dX10_init_92 : decode cX10_init 92 = .ok (.aastore, 1) := by decide +kernel
theorem dX10_init_93 : decode cX10_init 93 = .ok (.dup, 1) := by decide +kernel
theorem dX10_init_94 : decode cX10_init 94 = .ok (.iconst 2, 1) := by decide +kernel
theorem dX10_init_95 : decode cX10_init 95 = .ok (.new 44, 3) := by decide +kernel
theorem dX10_init_98 : decode cX10_init 98 = .ok (.dup, 1) := by decide +kernel
theorem dX10_init_99 : decode cX10_init 99 = .ok (.invokespecial 46, 3) := by decide +kernel
theorem dX10_init_102 : decode cX10_init 102 = .ok (.aastore, 1) := by decide +kernel
theorem dX10_init_103 : decode cX10_init 103 = .ok (.putfield 47, 3) := by decide +kernel
theorem dX10_init_106 : decode cX10_init 106 = .ok (.aload_n 0, 1) := by decide +kernel
theorem dX10_init_107 : decode cX10_init 107 = .ok (.iconst (-1), 1) := by decide +kernel
theorem dX10_init_108 : decode cX10_init 108 = .ok (.putfield 51, 3) := by decide +kernel
theorem dX10_init_111 : decode cX10_init 111 = .ok (.aload_n 0, 1) := by decide +kernel
theorem dX10_init_112 : decode cX10_init 112 = .ok (.iconst 1, 1) := by decide +kernel
theorem dX10_init_113 : decode cX10_init 113 = .ok (.putfield 55, 3) := by decide +kernel
theorem dX10_init_116 : decode cX10_init 116 = .ok (.return_, 1) := by decide +kernel
theorem dX10_append_0 : decode cX10_append 0 = .ok (.aload_n 0, 1) := by decide +kernel
theorem dX10_append_1 : decode cX10_append 1 = .ok (.getfield 10, 3) := by decide +kernel
theorem dX10_append_4 : decode cX10_append 4 = .ok (.iload_n 1, 1) := by decide +kernel
theorem dX10_append_5 : decode cX10_append 5 = .ok (.invokevirtual 59, 3) := by decide +kernel
theorem dX10_append_8 : decode cX10_append 8 = .ok (.ifCond .ne 13, 3) := by decide +kernel
theorem dX10_append_11 : decode cX10_append 11 = .ok (.new 63, 3) := by decide +kernel
theorem dX10_append_14 : decode cX10_append 14 = .ok (.dup, 1) := by decide +kernel
theorem dX10_append_15 : decode cX10_append 15 = .ok (.ldc 65, 2) := by decide +kernel
theorem dX10_append_17 : decode cX10_append 17 = .ok (.invokespecial 67, 3) := by decide +kernel
theorem dX10_append_20 : decode cX10_append 20 = .ok (.athrow, 1) := by decide +kernel
theorem dX10_append_21 : decode cX10_append 21 = .ok (.return_, 1) := by decide +kernel
theorem dX10_define_0 : decode cX10_define 0 = .ok (.aload_n 0, 1) := by decide +kernel
theorem dX10_define_1 : decode cX10_define 1 = .ok (.getfield 10, 3) := by decide +kernel
theorem dX10_define_4 : decode cX10_define 4 = .ok (.invokevirtual 70, 3) := by decide +kernel
theorem dX10_define_7 : decode cX10_define 7 = .ok (.istore_n 1, 1) := by decide +kernel
theorem dX10_define_8 : decode cX10_define 8 = .ok (.aload_n 0, 1) := by decide +kernel
theorem dX10_define_9 : decode cX10_define 9 = .ok (.iload_n 1, 1) := by decide +kernel
theorem dX10_define_10 : decode cX10_define 10 = .ok (.iconst (-1), 1) := by decide +kernel
theorem dX10_define_11 : decode cX10_define 11 = .ok (.if_icmp .ne 13, 3) := by decide +kernel
theorem dX10_define_14 : decode cX10_define 14 = .ok (.aload_n 0, 1) := by decide +kernel
theorem dX10_define_15 : decode cX10_define 15 = .ok (.getfield 10, 3) := by decide +kernel
theorem dX10_define_18 : decode cX10_define 18 = .ok (.getfield 74, 3) := by decide +kernel
theorem dX10_define_21 : decode cX10_define 21 = .ok (.goto 4, 3) := by decide +kernel
theorem dX10_define_24 : decode cX10_define 24 = .ok (.iconst (-1), 1) := by decide +kernel
theorem dX10_define_25 : decode cX10_define 25 = .ok (.putfield 51, 3) := by decide +kernel
theorem dX10_define_28 : decode cX10_define 28 = .ok (.aload_n 0, 1) := by decide +kernel
theorem dX10_define_29 : decode cX10_define 29 = .ok (.getfield 10, 3) := by decide +kernel
theorem dX10_define_32 : decode cX10_define 32 = .ok (.invokevirtual 77, 3) := by decide +kernel
theorem dX10_define_35 : decode cX10_define 35 = .ok (.iload_n 1, 1) := by decide +kernel
theorem dX10_define_36 : decode cX10_define 36 = .ok (.iconst (-1), 1) := by decide +kernel
theorem dX10_define_37 : decode cX10_define 37 = .ok (.if_icmp .ne 13, 3) := by decide +kernel
theorem dX10_define_40 : decode cX10_define 40 = .ok (.new 80, 3) := by decide +kernel
theorem dX10_define_43 : decode cX10_define 43 = .ok (.dup, 1) := by decide +kernel
theorem dX10_define_44 : decode cX10_define 44 = .ok (.ldc 82, 2) := by decide +kernel
theorem dX10_define_46 : decode cX10_define 46 = .ok (.invokespecial 84, 3) := by decide +kernel
theorem dX10_define_49 : decode cX10_define 49 = .ok (.athrow, 1) := by decide +kernel
theorem dX10_define_50 : decode cX10_define 50 = .ok (.iload_n 1, 1) := by decide +kernel
theorem dX10_define_51 : decode cX10_define 51 = .ok (.ifCond .ne 15, 3) := by decide +kernel
theorem dX10_define_54 : decode cX10_define 54 = .ok (.aload_n 0, 1) := by decide +kernel
theorem dX10_define_55 : decode cX10_define 55 = .ok (.aload_n 0, 1) := by decide +kernel
theorem dX10_define_56 : decode cX10_define 56 = .ok (.getfield 10, 3) := by decide +kernel
theorem dX10_define_59 : decode cX10_define 59 = .ok (.getfield 85, 3) := by decide +kernel
theorem dX10_define_62 : decode cX10_define 62 = .ok (.invokevirtual 88, 3) := by decide +kernel
theorem dX10_define_65 : decode cX10_define 65 = .ok (.ireturn, 1) := by decide +kernel
theorem dX10_define_66 : decode cX10_define 66 = .ok (.iload_n 1, 1) := by decide +kernel
theorem dX10_define_67 : decode cX10_define 67 = .ok (.iconst 1, 1) := by decide +kernel
theorem dX10_define_68 : decode cX10_define 68 = .ok (.if_icmp .ne 8, 3) := by decide +kernel
theorem dX10_define_71 : decode cX10_define 71 = .ok (.aload_n 0, 1) := by decide +kernel
theorem dX10_define_72 : decode cX10_define 72 = .ok (.invokevirtual 92, 3) := by decide +kernel
theorem dX10_define_75 : decode cX10_define 75 = .ok (.ireturn, 1) := by decide +kernel
theorem dX10_define_76 : decode cX10_define 76 = .ok (.aload_n 0, 1) := by decide +kernel
theorem dX10_define_77 : decode cX10_define 77 = .ok (.iload_n 1, 1) := by decide +kernel
theorem dX10_define_78 : decode cX10_define 78 = .ok (.aload_n 0, 1) := by decide +kernel
theorem dX10_define_79 : decode cX10_define 79 = .ok (.getfield 10, 3) := by decide +kernel
theorem dX10_define_82 : decode cX10_define 82 = .ok (.getfield 95, 3) := by decide +kernel
theorem dX10_define_85 : decode cX10_define 85 = .ok (.invokevirtual 98, 3) := by decide +kernel
theorem dX10_define_88 : decode cX10_define 88 = .ok (.ireturn, 1) := by decide +kernel
theorem dX10_defineAxiom_0 : decode cX10_defineAxiom 0 = .ok (.aload_n 0, 1) := by decide +kernel
theorem dX10_defineAxiom_1 : decode cX10_defineAxiom 1 = .ok (.getfield 19, 3) := by decide +kernel
theorem dX10_defineAxiom_4 : decode cX10_defineAxiom 4 = .ok (.getfield 102, 3) := by decide +kernel
theorem dX10_defineAxiom_7 : decode cX10_defineAxiom 7 = .ok (.bipush 6, 2) := by decide +kernel
theorem dX10_defineAxiom_9 : decode cX10_defineAxiom 9 = .ok (.if_icmp .ge 14, 3) := by decide +kernel
theorem dX10_defineAxiom_12 : decode cX10_defineAxiom 12 = .ok (.aload_n 0, 1) := by decide +kernel
theorem dX10_defineAxiom_13 : decode cX10_defineAxiom 13 = .ok (.getfield 19, 3) := by decide +kernel
theorem dX10_defineAxiom_16 : decode cX10_defineAxiom 16 = .ok (.iload_n 1, 1) := by decide +kernel
theorem dX10_defineAxiom_17 : decode cX10_defineAxiom 17 = .ok (.invokevirtual 105, 3) := by decide +kernel
theorem dX10_defineAxiom_20 : decode cX10_defineAxiom 20 = .ok (.ifCond .eq 13, 3) := by decide +kernel
theorem dX10_defineAxiom_23 : decode cX10_defineAxiom 23 = .ok (.new 63, 3) := by decide +kernel
theorem dX10_defineAxiom_26 : decode cX10_defineAxiom 26 = .ok (.dup, 1) := by decide +kernel
theorem dX10_defineAxiom_27 : decode cX10_defineAxiom 27 = .ok (.ldc 109, 2) := by decide +kernel
theorem dX10_defineAxiom_29 : decode cX10_defineAxiom 29 = .ok (.invokespecial 67, 3) := by decide +kernel
theorem dX10_defineAxiom_32 : decode cX10_defineAxiom 32 = .ok (.athrow, 1) := by decide +kernel
theorem dX10_defineAxiom_33 : decode cX10_defineAxiom 33 = .ok (.aload_n 0, 1) := by decide +kernel
theorem dX10_defineAxiom_34 : decode cX10_defineAxiom 34 = .ok (.getfield 19, 3) := by decide +kernel
theorem dX10_defineAxiom_37 : decode cX10_defineAxiom 37 = .ok (.iload_n 1, 1) := by decide +kernel
theorem dX10_defineAxiom_38 : decode cX10_defineAxiom 38 = .ok (.invokevirtual 111, 3) := by decide +kernel
theorem dX10_defineAxiom_41 : decode cX10_defineAxiom 41 = .ok (.aload_n 0, 1) := by decide +kernel
theorem dX10_defineAxiom_42 : decode cX10_defineAxiom 42 = .ok (.invokevirtual 115, 3) := by decide +kernel
theorem dX10_defineAxiom_45 : decode cX10_defineAxiom 45 = .ok (.aload_n 0, 1) := by decide +kernel
theorem dX10_defineAxiom_46 : decode cX10_defineAxiom 46 = .ok (.getfield 19, 3) := by decide +kernel
theorem dX10_defineAxiom_49 : decode cX10_defineAxiom 49 = .ok (.getfield 102, 3) := by decide +kernel
theorem dX10_defineAxiom_52 : decode cX10_defineAxiom 52 = .ok (.iconst 1, 1) := by decide +kernel
theorem dX10_defineAxiom_53 : decode cX10_defineAxiom 53 = .ok (.isub, 1) := by decide +kernel
theorem dX10_defineAxiom_54 : decode cX10_defineAxiom 54 = .ok (.ireturn, 1) := by decide +kernel
theorem dX10_defineContext_0 : decode cX10_defineContext 0 = .ok (.aload_n 0, 1) := by decide +kernel
theorem dX10_defineContext_1 : decode cX10_defineContext 1 = .ok (.getfield 19, 3) := by decide +kernel
theorem dX10_defineContext_4 : decode cX10_defineContext 4 = .ok (.getfield 118, 3) := by decide +kernel
theorem dX10_defineContext_7 : decode cX10_defineContext 7 = .ok (.iconst 5, 1) := by decide +kernel
theorem dX10_defineContext_8 : decode cX10_defineContext 8 = .ok (.if_icmp .lt 13, 3) := by decide +kernel
theorem dX10_defineContext_11 : decode cX10_defineContext 11 = .ok (.new 63, 3) := by decide +kernel
theorem dX10_defineContext_14 : decode cX10_defineContext 14 = .ok (.dup, 1) := by decide +kernel
theorem dX10_defineContext_15 : decode cX10_defineContext 15 = .ok (.ldc 121, 2) := by decide +kernel
theorem dX10_defineContext_17 : decode cX10_defineContext 17 = .ok (.invokespecial 67, 3) := by decide +kernel
theorem dX10_defineContext_20 : decode cX10_defineContext 20 = .ok (.athrow, 1) := by decide +kernel
theorem dX10_defineContext_21 : decode cX10_defineContext 21 = .ok (.aload_n 0, 1) := by decide +kernel
theorem dX10_defineContext_22 : decode cX10_defineContext 22 = .ok (.getfield 19, 3) := by decide +kernel
theorem dX10_defineContext_25 : decode cX10_defineContext 25 = .ok (.new 123, 3) := by decide +kernel
theorem dX10_defineContext_28 : decode cX10_defineContext 28 = .ok (.dup, 1) := by decide +kernel
theorem dX10_defineContext_29 : decode cX10_defineContext 29 = .ok (.aload_n 0, 1) := by decide +kernel
theorem dX10_defineContext_30 : decode cX10_defineContext 30 = .ok (.getfield 10, 3) := by decide +kernel
theorem dX10_defineContext_33 : decode cX10_defineContext 33 = .ok (.getfield 125, 3) := by decide +kernel
theorem dX10_defineContext_36 : decode cX10_defineContext 36 = .ok (.aload_n 0, 1) := by decide +kernel
theorem dX10_defineContext_37 : decode cX10_defineContext 37 = .ok (.getfield 10, 3) := by decide +kernel
theorem dX10_defineContext_40 : decode cX10_defineContext 40 = .ok (.getfield 128, 3) := by decide +kernel
theorem dX10_defineContext_43 : decode cX10_defineContext 43 = .ok (.new 131, 3) := by decide +kernel
theorem dX10_defineContext_46 : decode cX10_defineContext 46 = .ok (.dup, 1) := by decide +kernel
theorem dX10_defineContext_47 : decode cX10_defineContext 47 = .ok (.aload_n 0, 1) := by decide +kernel
theorem dX10_defineContext_48 : decode cX10_defineContext 48 = .ok (.getfield 10, 3) := by decide +kernel
theorem dX10_defineContext_51 : decode cX10_defineContext 51 = .ok (.invokevirtual 133, 3) := by decide +kernel
theorem dX10_defineContext_54 : decode cX10_defineContext 54 = .ok (.invokespecial 137, 3) := by decide +kernel
theorem dX10_defineContext_57 : decode cX10_defineContext 57 = .ok (.invokespecial 140, 3) := by decide +kernel
theorem dX10_defineContext_60 : decode cX10_defineContext 60 = .ok (.invokevirtual 143, 3) := by decide +kernel
theorem dX10_defineContext_63 : decode cX10_defineContext 63 = .ok (.aload_n 0, 1) := by decide +kernel
theorem dX10_defineContext_64 : decode cX10_defineContext 64 = .ok (.invokevirtual 115, 3) := by decide +kernel
theorem dX10_defineContext_67 : decode cX10_defineContext 67 = .ok (.aload_n 0, 1) := by decide +kernel
theorem dX10_defineContext_68 : decode cX10_defineContext 68 = .ok (.getfield 19, 3) := by decide +kernel
theorem dX10_defineContext_71 : decode cX10_defineContext 71 = .ok (.getfield 118, 3) := by decide +kernel
theorem dX10_defineContext_74 : decode cX10_defineContext 74 = .ok (.iconst 1, 1) := by decide +kernel
theorem dX10_defineContext_75 : decode cX10_defineContext 75 = .ok (.isub, 1) := by decide +kernel
theorem dX10_defineContext_76 : decode cX10_defineContext 76 = .ok (.ireturn, 1) := by decide +kernel
theorem dX10_replaceNumber_0 : decode cX10_replaceNumber 0 = .ok (.iload_n 1, 1) := by decide +kernel
theorem dX10_replaceNumber_1 : decode cX10_replaceNumber 1 = .ok (.iconst 2, 1) := by decide +kernel
theorem dX10_replaceNumber_2 : decode cX10_replaceNumber 2 = .ok (.if_icmp .ne 22, 3) := by decide +kernel
theorem dX10_replaceNumber_5 : decode cX10_replaceNumber 5 = .ok (.aload_n 0, 1) := by decide +kernel
theorem dX10_replaceNumber_6 : decode cX10_replaceNumber 6 = .ok (.getfield 19, 3) := by decide +kernel
theorem dX10_replaceNumber_9 : decode cX10_replaceNumber 9 = .ok (.getfield 147, 3) := by decide +kernel
theorem dX10_replaceNumber_12 : decode cX10_replaceNumber 12 = .ok (.istore_n 3, 1) := by decide +kernel
theorem dX10_replaceNumber_13 : decode cX10_replaceNumber 13 = .ok (.aload_n 0, 1) := by decide +kernel
theorem dX10_replaceNumber_14 : decode cX10_replaceNumber 14 = .ok (.getfield 19, 3) := by decide +kernel
theorem dX10_replaceNumber_17 : decode cX10_replaceNumber 17 = .ok (.iload_n 2, 1) := by decide +kernel
theorem dX10_replaceNumber_18 : decode cX10_replaceNumber 18 = .ok (.putfield 147, 3) := by decide +kernel
theorem dX10_replaceNumber_21 : decode cX10_replaceNumber 21 = .ok (.goto 19, 3) := by decide +kernel
theorem dX10_replaceNumber_24 : decode cX10_replaceNumber 24 = .ok (.aload_n 0, 1) := by decide +kernel
theorem dX10_replaceNumber_25 : decode cX10_replaceNumber 25 = .ok (.getfield 19, 3) := by decide +kernel
theorem dX10_replaceNumber_28 : decode cX10_replaceNumber 28 = .ok (.getfield 150, 3) := by decide +kernel
theorem dX10_replaceNumber_31 : decode cX10_replaceNumber 31 = .ok (.istore_n 3, 1) := by decide +kernel
theorem dX10_replaceNumber_32 : decode cX10_replaceNumber 32 = .ok (.aload_n 0, 1) := by decide +kernel
theorem dX10_replaceNumber_33 : decode cX10_replaceNumber 33 = .ok (.getfield 19, 3) := by decide +kernel
theorem dX10_replaceNumber_36 : decode cX10_replaceNumber 36 = .ok (.iload_n 2, 1) := by decide +kernel
theorem dX10_replaceNumber_37 : decode cX10_replaceNumber 37 = .ok (.putfield 150, 3) := by decide +kernel
theorem dX10_replaceNumber_40 : decode cX10_replaceNumber 40 = .ok (.aload_n 0, 1) := by decide +kernel
theorem dX10_replaceNumber_41 : decode cX10_replaceNumber 41 = .ok (.invokevirtual 115, 3) := by decide +kernel
theorem dX10_replaceNumber_44 : decode cX10_replaceNumber 44 = .ok (.iload_n 3, 1) := by decide +kernel
theorem dX10_replaceNumber_45 : decode cX10_replaceNumber 45 = .ok (.ireturn, 1) := by decide +kernel
theorem dX10_grammarChanged_0 : decode cX10_grammarChanged 0 = .ok (.aload_n 0, 1) := by decide +kernel
theorem dX10_grammarChanged_1 : decode cX10_grammarChanged 1 = .ok (.iconst 1, 1) := by decide +kernel
theorem dX10_grammarChanged_2 : decode cX10_grammarChanged 2 = .ok (.putfield 55, 3) := by decide +kernel
theorem dX10_grammarChanged_5 : decode cX10_grammarChanged 5 = .ok (.aload_n 0, 1) := by decide +kernel
theorem dX10_grammarChanged_6 : decode cX10_grammarChanged 6 = .ok (.getfield 36, 3) := by decide +kernel
theorem dX10_grammarChanged_9 : decode cX10_grammarChanged 9 = .ok (.invokevirtual 153, 3) := by decide +kernel
theorem dX10_grammarChanged_12 : decode cX10_grammarChanged 12 = .ok (.return_, 1) := by decide +kernel
theorem dX10_removeAxiom_0 : decode cX10_removeAxiom 0 = .ok (.aload_n 0, 1) := by decide +kernel
theorem dX10_removeAxiom_1 : decode cX10_removeAxiom 1 = .ok (.iload_n 1, 1) := by decide +kernel
theorem dX10_removeAxiom_2 : decode cX10_removeAxiom 2 = .ok (.invokevirtual 156, 3) := by decide +kernel
theorem dX10_removeAxiom_5 : decode cX10_removeAxiom 5 = .ok (.aload_n 0, 1) := by decide +kernel
theorem dX10_removeAxiom_6 : decode cX10_removeAxiom 6 = .ok (.getfield 19, 3) := by decide +kernel
theorem dX10_removeAxiom_9 : decode cX10_removeAxiom 9 = .ok (.iload_n 1, 1) := by decide +kernel
theorem dX10_removeAxiom_10 : decode cX10_removeAxiom 10 = .ok (.invokevirtual 159, 3) := by decide +kernel
theorem dX10_removeAxiom_13 : decode cX10_removeAxiom 13 = .ok (.aload_n 0, 1) := by decide +kernel
theorem dX10_removeAxiom_14 : decode cX10_removeAxiom 14 = .ok (.invokevirtual 115, 3) := by decide +kernel
theorem dX10_removeAxiom_17 : decode cX10_removeAxiom 17 = .ok (.return_, 1) := by decide +kernel
theorem dX10_removeContext_0 : decode cX10_removeContext 0 = .ok (.aload_n 0, 1) := by decide +kernel
theorem dX10_removeContext_1 : decode cX10_removeContext 1 = .ok (.iload_n 1, 1) := by decide +kernel
theorem dX10_removeContext_2 : decode cX10_removeContext 2 = .ok (.invokevirtual 162, 3) := by decide +kernel
theorem dX10_removeContext_5 : decode cX10_removeContext 5 = .ok (.aload_n 0, 1) := by decide +kernel
theorem dX10_removeContext_6 : decode cX10_removeContext 6 = .ok (.getfield 19, 3) := by decide +kernel
theorem dX10_removeContext_9 : decode cX10_removeContext 9 = .ok (.iload_n 1, 1) := by decide +kernel
theorem dX10_removeContext_10 : decode cX10_removeContext 10 = .ok (.invokevirtual 165, 3) := by decide +kernel
theorem dX10_removeContext_13 : decode cX10_removeContext 13 = .ok (.aload_n 0, 1) := by decide +kernel
theorem dX10_removeContext_14 : decode cX10_removeContext 14 = .ok (.invokevirtual 115, 3) := by decide +kernel
theorem dX10_removeContext_17 : decode cX10_removeContext 17 = .ok (.return_, 1) := by decide +kernel
theorem dX10_count_0 : decode cX10_count 0 = .ok (.iload_n 1, 1) := by decide +kernel
theorem dX10_count_1 : decode cX10_count 1 = .ok (.tableswitch 75 0 4 #[35, 43, 51, 59, 67], 35) := by decide +kernel
theorem dX10_count_36 : decode cX10_count 36 = .ok (.aload_n 0, 1) := by decide +kernel
theorem dX10_count_37 : decode cX10_count 37 = .ok (.getfield 19, 3) := by decide +kernel
theorem dX10_count_40 : decode cX10_count 40 = .ok (.getfield 102, 3) := by decide +kernel
theorem dX10_count_43 : decode cX10_count 43 = .ok (.ireturn, 1) := by decide +kernel
theorem dX10_count_44 : decode cX10_count 44 = .ok (.aload_n 0, 1) := by decide +kernel
theorem dX10_count_45 : decode cX10_count 45 = .ok (.getfield 19, 3) := by decide +kernel
theorem dX10_count_48 : decode cX10_count 48 = .ok (.getfield 118, 3) := by decide +kernel
theorem dX10_count_51 : decode cX10_count 51 = .ok (.ireturn, 1) := by decide +kernel
theorem dX10_count_52 : decode cX10_count 52 = .ok (.aload_n 0, 1) := by decide +kernel
theorem dX10_count_53 : decode cX10_count 53 = .ok (.getfield 19, 3) := by decide +kernel
theorem dX10_count_56 : decode cX10_count 56 = .ok (.getfield 147, 3) := by decide +kernel
theorem dX10_count_59 : decode cX10_count 59 = .ok (.ireturn, 1) := by decide +kernel
theorem dX10_count_60 : decode cX10_count 60 = .ok (.aload_n 0, 1) := by decide +kernel
theorem dX10_count_61 : decode cX10_count 61 = .ok (.getfield 19, 3) := by decide +kernel
theorem dX10_count_64 : decode cX10_count 64 = .ok (.getfield 150, 3) := by decide +kernel
theorem dX10_count_67 : decode cX10_count 67 = .ok (.ireturn, 1) := by decide +kernel
theorem dX10_count_68 : decode cX10_count 68 = .ok (.aload_n 0, 1) := by decide +kernel
theorem dX10_count_69 : decode cX10_count 69 = .ok (.getfield 10, 3) := by decide +kernel
theorem dX10_count_72 : decode cX10_count 72 = .ok (.getfield 168, 3) := by decide +kernel
theorem dX10_count_75 : decode cX10_count 75 = .ok (.ireturn, 1) := by decide +kernel
theorem dX10_count_76 : decode cX10_count 76 = .ok (.new 80, 3) := by decide +kernel
theorem dX10_count_79 : decode cX10_count 79 = .ok (.dup, 1) := by decide +kernel
theorem dX10_count_80 : decode cX10_count 80 = .ok (.ldc 171, 2) := by decide +kernel
theorem dX10_count_82 : decode cX10_count 82 = .ok (.invokespecial 84, 3) := by decide +kernel
theorem dX10_count_85 : decode cX10_count 85 = .ok (.athrow, 1) := by decide +kernel
theorem dX10_size_0 : decode cX10_size 0 = .ok (.aload_n 0, 1) := by decide +kernel
theorem dX10_size_1 : decode cX10_size 1 = .ok (.invokevirtual 173, 3) := by decide +kernel
theorem dX10_size_4 : decode cX10_size 4 = .ok (.aload_n 0, 1) := by decide +kernel
theorem dX10_size_5 : decode cX10_size 5 = .ok (.getfield 29, 3) := by decide +kernel
theorem dX10_size_8 : decode cX10_size 8 = .ok (.getfield 176, 3) := by decide +kernel
theorem dX10_size_11 : decode cX10_size 11 = .ok (.ireturn, 1) := by decide +kernel
theorem dX10_sizeOf_0 : decode cX10_sizeOf 0 = .ok (.aload_n 0, 1) := by decide +kernel
theorem dX10_sizeOf_1 : decode cX10_sizeOf 1 = .ok (.iload_n 1, 1) := by decide +kernel
theorem dX10_sizeOf_2 : decode cX10_sizeOf 2 = .ok (.invokevirtual 179, 3) := by decide +kernel
theorem dX10_sizeOf_5 : decode cX10_sizeOf 5 = .ok (.aload_n 0, 1) := by decide +kernel
theorem dX10_sizeOf_6 : decode cX10_sizeOf 6 = .ok (.invokevirtual 173, 3) := by decide +kernel
theorem dX10_sizeOf_9 : decode cX10_sizeOf 9 = .ok (.aload_n 0, 1) := by decide +kernel
theorem dX10_sizeOf_10 : decode cX10_sizeOf 10 = .ok (.getfield 29, 3) := by decide +kernel
theorem dX10_sizeOf_13 : decode cX10_sizeOf 13 = .ok (.iload_n 1, 1) := by decide +kernel
theorem dX10_sizeOf_14 : decode cX10_sizeOf 14 = .ok (.invokevirtual 182, 3) := by decide +kernel
theorem dX10_sizeOf_17 : decode cX10_sizeOf 17 = .ok (.ireturn, 1) := by decide +kernel
theorem dX10_density_0 : decode cX10_density 0 = .ok (.aload_n 0, 1) := by decide +kernel
theorem dX10_density_1 : decode cX10_density 1 = .ok (.iload_n 1, 1) := by decide +kernel
theorem dX10_density_2 : decode cX10_density 2 = .ok (.invokevirtual 179, 3) := by decide +kernel
theorem dX10_density_5 : decode cX10_density 5 = .ok (.aload_n 0, 1) := by decide +kernel
theorem dX10_density_6 : decode cX10_density 6 = .ok (.invokevirtual 173, 3) := by decide +kernel
theorem dX10_density_9 : decode cX10_density 9 = .ok (.aload_n 0, 1) := by decide +kernel
theorem dX10_density_10 : decode cX10_density 10 = .ok (.getfield 29, 3) := by decide +kernel
theorem dX10_density_13 : decode cX10_density 13 = .ok (.iload_n 1, 1) := by decide +kernel
theorem dX10_density_14 : decode cX10_density 14 = .ok (.invokevirtual 182, 3) := by decide +kernel
theorem dX10_density_17 : decode cX10_density 17 = .ok (.i2d, 1) := by decide +kernel
theorem dX10_density_18 : decode cX10_density 18 = .ok (.iload_n 1, 1) := by decide +kernel
theorem dX10_density_19 : decode cX10_density 19 = .ok (.invokestatic 185, 3) := by decide +kernel
theorem dX10_density_22 : decode cX10_density 22 = .ok (.i2d, 1) := by decide +kernel
theorem dX10_density_23 : decode cX10_density 23 = .ok (.ddiv, 1) := by decide +kernel
theorem dX10_density_24 : decode cX10_density 24 = .ok (.dreturn, 1) := by decide +kernel
theorem dX10_isUsed_0 : decode cX10_isUsed 0 = .ok (.aload_n 0, 1) := by decide +kernel
theorem dX10_isUsed_1 : decode cX10_isUsed 1 = .ok (.iload_n 1, 1) := by decide +kernel
theorem dX10_isUsed_2 : decode cX10_isUsed 2 = .ok (.invokevirtual 162, 3) := by decide +kernel
theorem dX10_isUsed_5 : decode cX10_isUsed 5 = .ok (.aload_n 0, 1) := by decide +kernel
theorem dX10_isUsed_6 : decode cX10_isUsed 6 = .ok (.invokevirtual 173, 3) := by decide +kernel
theorem dX10_isUsed_9 : decode cX10_isUsed 9 = .ok (.aload_n 0, 1) := by decide +kernel
theorem dX10_isUsed_10 : decode cX10_isUsed 10 = .ok (.getfield 29, 3) := by decide +kernel
theorem dX10_isUsed_13 : decode cX10_isUsed 13 = .ok (.getfield 190, 3) := by decide +kernel
theorem dX10_isUsed_16 : decode cX10_isUsed 16 = .ok (.iconst 1, 1) := by decide +kernel
theorem dX10_isUsed_17 : decode cX10_isUsed 17 = .ok (.iload_n 1, 1) := by decide +kernel
theorem dX10_isUsed_18 : decode cX10_isUsed 18 = .ok (.ishl, 1) := by decide +kernel
theorem dX10_isUsed_19 : decode cX10_isUsed 19 = .ok (.iand, 1) := by decide +kernel
theorem dX10_isUsed_20 : decode cX10_isUsed 20 = .ok (.ifCond .eq 7, 3) := by decide +kernel
theorem dX10_isUsed_23 : decode cX10_isUsed 23 = .ok (.iconst 1, 1) := by decide +kernel
theorem dX10_isUsed_24 : decode cX10_isUsed 24 = .ok (.goto 4, 3) := by decide +kernel
theorem dX10_isUsed_27 : decode cX10_isUsed 27 = .ok (.iconst 0, 1) := by decide +kernel
theorem dX10_isUsed_28 : decode cX10_isUsed 28 = .ok (.ireturn, 1) := by decide +kernel
theorem dX10_isRedundant_0 : decode cX10_isRedundant 0 = .ok (.aload_n 0, 1) := by decide +kernel
theorem dX10_isRedundant_1 : decode cX10_isRedundant 1 = .ok (.iload_n 1, 1) := by decide +kernel
theorem dX10_isRedundant_2 : decode cX10_isRedundant 2 = .ok (.invokevirtual 162, 3) := by decide +kernel
theorem dX10_isRedundant_5 : decode cX10_isRedundant 5 = .ok (.aload_n 0, 1) := by decide +kernel
theorem dX10_isRedundant_6 : decode cX10_isRedundant 6 = .ok (.invokevirtual 173, 3) := by decide +kernel
theorem dX10_isRedundant_9 : decode cX10_isRedundant 9 = .ok (.aload_n 0, 1) := by decide +kernel
theorem dX10_isRedundant_10 : decode cX10_isRedundant 10 = .ok (.getfield 29, 3) := by decide +kernel
theorem dX10_isRedundant_13 : decode cX10_isRedundant 13 = .ok (.aload_n 0, 1) := by decide +kernel
theorem dX10_isRedundant_14 : decode cX10_isRedundant 14 = .ok (.getfield 19, 3) := by decide +kernel
theorem dX10_isRedundant_17 : decode cX10_isRedundant 17 = .ok (.invokevirtual 193, 3) := by decide +kernel
theorem dX10_isRedundant_20 : decode cX10_isRedundant 20 = .ok (.iconst 1, 1) := by decide +kernel
theorem dX10_isRedundant_21 : decode cX10_isRedundant 21 = .ok (.iload_n 1, 1) := by decide +kernel
theorem dX10_isRedundant_22 : decode cX10_isRedundant 22 = .ok (.ishl, 1) := by decide +kernel
theorem dX10_isRedundant_23 : decode cX10_isRedundant 23 = .ok (.iconst (-1), 1) := by decide +kernel
theorem dX10_isRedundant_24 : decode cX10_isRedundant 24 = .ok (.ixor, 1) := by decide +kernel
theorem dX10_isRedundant_25 : decode cX10_isRedundant 25 = .ok (.iand, 1) := by decide +kernel
theorem dX10_isRedundant_26 : decode cX10_isRedundant 26 = .ok (.invokevirtual 196, 3) := by decide +kernel
theorem dX10_isRedundant_29 : decode cX10_isRedundant 29 = .ok (.ireturn, 1) := by decide +kernel
theorem dX10_minimalContexts_0 : decode cX10_minimalContexts 0 = .ok (.aload_n 0, 1) := by decide +kernel
theorem dX10_minimalContexts_1 : decode cX10_minimalContexts 1 = .ok (.invokevirtual 173, 3) := by decide +kernel
theorem dX10_minimalContexts_4 : decode cX10_minimalContexts 4 = .ok (.aload_n 0, 1) := by decide +kernel
theorem dX10_minimalContexts_5 : decode cX10_minimalContexts 5 = .ok (.getfield 29, 3) := by decide +kernel
theorem dX10_minimalContexts_8 : decode cX10_minimalContexts 8 = .ok (.aload_n 0, 1) := by decide +kernel
theorem dX10_minimalContexts_9 : decode cX10_minimalContexts 9 = .ok (.getfield 19, 3) := by decide +kernel
theorem dX10_minimalContexts_12 : decode cX10_minimalContexts 12 = .ok (.invokevirtual 193, 3) := by decide +kernel
theorem dX10_minimalContexts_15 : decode cX10_minimalContexts 15 = .ok (.invokevirtual 199, 3) := by decide +kernel
theorem dX10_minimalContexts_18 : decode cX10_minimalContexts 18 = .ok (.ireturn, 1) := by decide +kernel
theorem dX10_canFollow_0 : decode cX10_canFollow 0 = .ok (.aload_n 0, 1) := by decide +kernel
theorem dX10_canFollow_1 : decode cX10_canFollow 1 = .ok (.iload_n 1, 1) := by decide +kernel
theorem dX10_canFollow_2 : decode cX10_canFollow 2 = .ok (.invokevirtual 162, 3) := by decide +kernel
theorem dX10_canFollow_5 : decode cX10_canFollow 5 = .ok (.aload_n 0, 1) := by decide +kernel
theorem dX10_canFollow_6 : decode cX10_canFollow 6 = .ok (.iload_n 2, 1) := by decide +kernel
theorem dX10_canFollow_7 : decode cX10_canFollow 7 = .ok (.invokevirtual 162, 3) := by decide +kernel
theorem dX10_canFollow_10 : decode cX10_canFollow 10 = .ok (.aload_n 0, 1) := by decide +kernel
theorem dX10_canFollow_11 : decode cX10_canFollow 11 = .ok (.invokevirtual 173, 3) := by decide +kernel
theorem dX10_canFollow_14 : decode cX10_canFollow 14 = .ok (.aload_n 0, 1) := by decide +kernel
theorem dX10_canFollow_15 : decode cX10_canFollow 15 = .ok (.getfield 29, 3) := by decide +kernel
theorem dX10_canFollow_18 : decode cX10_canFollow 18 = .ok (.iload_n 1, 1) := by decide +kernel
theorem dX10_canFollow_19 : decode cX10_canFollow 19 = .ok (.invokevirtual 202, 3) := by decide +kernel
theorem dX10_canFollow_22 : decode cX10_canFollow 22 = .ok (.iconst 1, 1) := by decide +kernel
theorem dX10_canFollow_23 : decode cX10_canFollow 23 = .ok (.iload_n 2, 1) := by decide +kernel
theorem dX10_canFollow_24 : decode cX10_canFollow 24 = .ok (.ishl, 1) := by decide +kernel
theorem dX10_canFollow_25 : decode cX10_canFollow 25 = .ok (.iand, 1) := by decide +kernel
theorem dX10_canFollow_26 : decode cX10_canFollow 26 = .ok (.ifCond .eq 7, 3) := by decide +kernel
theorem dX10_canFollow_29 : decode cX10_canFollow 29 = .ok (.iconst 1, 1) := by decide +kernel
theorem dX10_canFollow_30 : decode cX10_canFollow 30 = .ok (.goto 4, 3) := by decide +kernel
theorem dX10_canFollow_33 : decode cX10_canFollow 33 = .ok (.iconst 0, 1) := by decide +kernel
theorem dX10_canFollow_34 : decode cX10_canFollow 34 = .ok (.ireturn, 1) := by decide +kernel
theorem dX10_isConfluent_0 : decode cX10_isConfluent 0 = .ok (.aload_n 0, 1) := by decide +kernel
theorem dX10_isConfluent_1 : decode cX10_isConfluent 1 = .ok (.invokevirtual 173, 3) := by decide +kernel
theorem dX10_isConfluent_4 : decode cX10_isConfluent 4 = .ok (.aload_n 0, 1) := by decide +kernel
theorem dX10_isConfluent_5 : decode cX10_isConfluent 5 = .ok (.getfield 36, 3) := by decide +kernel
theorem dX10_isConfluent_8 : decode cX10_isConfluent 8 = .ok (.aload_n 0, 1) := by decide +kernel
theorem dX10_isConfluent_9 : decode cX10_isConfluent 9 = .ok (.getfield 19, 3) := by decide +kernel
theorem dX10_isConfluent_12 : decode cX10_isConfluent 12 = .ok (.aload_n 0, 1) := by decide +kernel
theorem dX10_isConfluent_13 : decode cX10_isConfluent 13 = .ok (.getfield 29, 3) := by decide +kernel
theorem dX10_isConfluent_16 : decode cX10_isConfluent 16 = .ok (.invokevirtual 213, 3) := by decide +kernel
theorem dX10_isConfluent_19 : decode cX10_isConfluent 19 = .ok (.ireturn, 1) := by decide +kernel
theorem dX10_takeWord_0 : decode cX10_takeWord 0 = .ok (.aload_n 0, 1) := by decide +kernel
theorem dX10_takeWord_1 : decode cX10_takeWord 1 = .ok (.invokevirtual 173, 3) := by decide +kernel
theorem dX10_takeWord_4 : decode cX10_takeWord 4 = .ok (.aload_n 0, 1) := by decide +kernel
theorem dX10_takeWord_5 : decode cX10_takeWord 5 = .ok (.iload_n 1, 1) := by decide +kernel
theorem dX10_takeWord_6 : decode cX10_takeWord 6 = .ok (.aload_n 0, 1) := by decide +kernel
theorem dX10_takeWord_7 : decode cX10_takeWord 7 = .ok (.getfield 29, 3) := by decide +kernel
theorem dX10_takeWord_10 : decode cX10_takeWord 10 = .ok (.getfield 176, 3) := by decide +kernel
theorem dX10_takeWord_13 : decode cX10_takeWord 13 = .ok (.invokevirtual 230, 3) := by decide +kernel
theorem dX10_takeWord_16 : decode cX10_takeWord 16 = .ok (.aload_n 0, 1) := by decide +kernel
theorem dX10_takeWord_17 : decode cX10_takeWord 17 = .ok (.aload_n 0, 1) := by decide +kernel
theorem dX10_takeWord_18 : decode cX10_takeWord 18 = .ok (.getfield 29, 3) := by decide +kernel
theorem dX10_takeWord_21 : decode cX10_takeWord 21 = .ok (.iload_n 1, 1) := by decide +kernel
theorem dX10_takeWord_22 : decode cX10_takeWord 22 = .ok (.invokevirtual 234, 3) := by decide +kernel
theorem dX10_takeWord_25 : decode cX10_takeWord 25 = .ok (.putfield 217, 3) := by decide +kernel
theorem dX10_takeWord_28 : decode cX10_takeWord 28 = .ok (.return_, 1) := by decide +kernel
theorem dX10_wordLength_0 : decode cX10_wordLength 0 = .ok (.aload_n 0, 1) := by decide +kernel
theorem dX10_wordLength_1 : decode cX10_wordLength 1 = .ok (.getfield 217, 3) := by decide +kernel
theorem dX10_wordLength_4 : decode cX10_wordLength 4 = .ok (.invokestatic 220, 3) := by decide +kernel
theorem dX10_wordLength_7 : decode cX10_wordLength 7 = .ok (.ireturn, 1) := by decide +kernel
theorem dX10_letterAt_0 : decode cX10_letterAt 0 = .ok (.aload_n 0, 1) := by decide +kernel
theorem dX10_letterAt_1 : decode cX10_letterAt 1 = .ok (.getfield 217, 3) := by decide +kernel
theorem dX10_letterAt_4 : decode cX10_letterAt 4 = .ok (.invokestatic 220, 3) := by decide +kernel
theorem dX10_letterAt_7 : decode cX10_letterAt 7 = .ok (.istore_n 2, 1) := by decide +kernel
theorem dX10_letterAt_8 : decode cX10_letterAt 8 = .ok (.aload_n 0, 1) := by decide +kernel
theorem dX10_letterAt_9 : decode cX10_letterAt 9 = .ok (.iload_n 1, 1) := by decide +kernel
theorem dX10_letterAt_10 : decode cX10_letterAt 10 = .ok (.iload_n 2, 1) := by decide +kernel
theorem dX10_letterAt_11 : decode cX10_letterAt 11 = .ok (.invokevirtual 230, 3) := by decide +kernel
theorem dX10_letterAt_14 : decode cX10_letterAt 14 = .ok (.bipush 97, 2) := by decide +kernel
theorem dX10_letterAt_16 : decode cX10_letterAt 16 = .ok (.aload_n 0, 1) := by decide +kernel
theorem dX10_letterAt_17 : decode cX10_letterAt 17 = .ok (.getfield 217, 3) := by decide +kernel
theorem dX10_letterAt_20 : decode cX10_letterAt 20 = .ok (.iload_n 2, 1) := by decide +kernel
theorem dX10_letterAt_21 : decode cX10_letterAt 21 = .ok (.iload_n 1, 1) := by decide +kernel
theorem dX10_letterAt_22 : decode cX10_letterAt 22 = .ok (.iload_n 1, 1) := by decide +kernel
theorem dX10_letterAt_23 : decode cX10_letterAt 23 = .ok (.iconst 1, 1) := by decide +kernel
theorem dX10_letterAt_24 : decode cX10_letterAt 24 = .ok (.iadd, 1) := by decide +kernel
theorem dX10_letterAt_25 : decode cX10_letterAt 25 = .ok (.invokestatic 237, 3) := by decide +kernel
theorem dX10_letterAt_28 : decode cX10_letterAt 28 = .ok (.iadd, 1) := by decide +kernel
theorem dX10_letterAt_29 : decode cX10_letterAt 29 = .ok (.iconst 1, 1) := by decide +kernel
theorem dX10_letterAt_30 : decode cX10_letterAt 30 = .ok (.isub, 1) := by decide +kernel
theorem dX10_letterAt_31 : decode cX10_letterAt 31 = .ok (.i2c, 1) := by decide +kernel
theorem dX10_letterAt_32 : decode cX10_letterAt 32 = .ok (.ireturn, 1) := by decide +kernel
theorem dX10_isGenerated_0 : decode cX10_isGenerated 0 = .ok (.aload_n 0, 1) := by decide +kernel
theorem dX10_isGenerated_1 : decode cX10_isGenerated 1 = .ok (.invokevirtual 173, 3) := by decide +kernel
theorem dX10_isGenerated_4 : decode cX10_isGenerated 4 = .ok (.aload_n 0, 1) := by decide +kernel
theorem dX10_isGenerated_5 : decode cX10_isGenerated 5 = .ok (.getfield 29, 3) := by decide +kernel
theorem dX10_isGenerated_8 : decode cX10_isGenerated 8 = .ok (.aload_n 0, 1) := by decide +kernel
theorem dX10_isGenerated_9 : decode cX10_isGenerated 9 = .ok (.getfield 217, 3) := by decide +kernel
theorem dX10_isGenerated_12 : decode cX10_isGenerated 12 = .ok (.invokevirtual 241, 3) := by decide +kernel
theorem dX10_isGenerated_15 : decode cX10_isGenerated 15 = .ok (.ifCond .lt 7, 3) := by decide +kernel
theorem dX10_isGenerated_18 : decode cX10_isGenerated 18 = .ok (.iconst 1, 1) := by decide +kernel
theorem dX10_isGenerated_19 : decode cX10_isGenerated 19 = .ok (.goto 4, 3) := by decide +kernel
theorem dX10_isGenerated_22 : decode cX10_isGenerated 22 = .ok (.iconst 0, 1) := by decide +kernel
theorem dX10_isGenerated_23 : decode cX10_isGenerated 23 = .ok (.ireturn, 1) := by decide +kernel
theorem dX10_rank_0 : decode cX10_rank 0 = .ok (.aload_n 0, 1) := by decide +kernel
theorem dX10_rank_1 : decode cX10_rank 1 = .ok (.invokevirtual 173, 3) := by decide +kernel
theorem dX10_rank_4 : decode cX10_rank 4 = .ok (.aload_n 0, 1) := by decide +kernel
theorem dX10_rank_5 : decode cX10_rank 5 = .ok (.invokevirtual 244, 3) := by decide +kernel
theorem dX10_rank_8 : decode cX10_rank 8 = .ok (.ireturn, 1) := by decide +kernel
theorem dX10_insertions_0 : decode cX10_insertions 0 = .ok (.aload_n 0, 1) := by decide +kernel
theorem dX10_insertions_1 : decode cX10_insertions 1 = .ok (.getfield 19, 3) := by decide +kernel
theorem dX10_insertions_4 : decode cX10_insertions 4 = .ok (.aload_n 0, 1) := by decide +kernel
theorem dX10_insertions_5 : decode cX10_insertions 5 = .ok (.getfield 217, 3) := by decide +kernel
theorem dX10_insertions_8 : decode cX10_insertions 8 = .ok (.aload_n 0, 1) := by decide +kernel
theorem dX10_insertions_9 : decode cX10_insertions 9 = .ok (.getfield 40, 3) := by decide +kernel
theorem dX10_insertions_12 : decode cX10_insertions 12 = .ok (.invokevirtual 270, 3) := by decide +kernel
theorem dX10_insertions_15 : decode cX10_insertions 15 = .ok (.ireturn, 1) := by decide +kernel
theorem dX10_insert_0 : decode cX10_insert 0 = .ok (.aload_n 0, 1) := by decide +kernel
theorem dX10_insert_1 : decode cX10_insert 1 = .ok (.iload_n 1, 1) := by decide +kernel
theorem dX10_insert_2 : decode cX10_insert 2 = .ok (.aload_n 0, 1) := by decide +kernel
theorem dX10_insert_3 : decode cX10_insert 3 = .ok (.getfield 19, 3) := by decide +kernel
theorem dX10_insert_6 : decode cX10_insert 6 = .ok (.aload_n 0, 1) := by decide +kernel
theorem dX10_insert_7 : decode cX10_insert 7 = .ok (.getfield 217, 3) := by decide +kernel
theorem dX10_insert_10 : decode cX10_insert 10 = .ok (.aload_n 0, 1) := by decide +kernel
theorem dX10_insert_11 : decode cX10_insert 11 = .ok (.getfield 40, 3) := by decide +kernel
theorem dX10_insert_14 : decode cX10_insert 14 = .ok (.invokevirtual 270, 3) := by decide +kernel
theorem dX10_insert_17 : decode cX10_insert 17 = .ok (.invokevirtual 230, 3) := by decide +kernel
theorem dX10_insert_20 : decode cX10_insert 20 = .ok (.aload_n 0, 1) := by decide +kernel
theorem dX10_insert_21 : decode cX10_insert 21 = .ok (.aload_n 0, 1) := by decide +kernel
theorem dX10_insert_22 : decode cX10_insert 22 = .ok (.getfield 40, 3) := by decide +kernel
theorem dX10_insert_25 : decode cX10_insert 25 = .ok (.iload_n 1, 1) := by decide +kernel
theorem dX10_insert_26 : decode cX10_insert 26 = .ok (.invokestatic 274, 3) := by decide +kernel
theorem dX10_insert_29 : decode cX10_insert 29 = .ok (.invokevirtual 280, 3) := by decide +kernel
theorem dX10_insert_32 : decode cX10_insert 32 = .ok (.ireturn, 1) := by decide +kernel
theorem dX10_makeMove_0 : decode cX10_makeMove 0 = .ok (.aload_n 0, 1) := by decide +kernel
theorem dX10_makeMove_1 : decode cX10_makeMove 1 = .ok (.iload_n 1, 1) := by decide +kernel
theorem dX10_makeMove_2 : decode cX10_makeMove 2 = .ok (.invokestatic 290, 3) := by decide +kernel
theorem dX10_makeMove_5 : decode cX10_makeMove 5 = .ok (.putfield 217, 3) := by decide +kernel
theorem dX10_makeMove_8 : decode cX10_makeMove 8 = .ok (.iload_n 1, 1) := by decide +kernel
theorem dX10_makeMove_9 : decode cX10_makeMove 9 = .ok (.invokestatic 255, 3) := by decide +kernel
theorem dX10_makeMove_12 : decode cX10_makeMove 12 = .ok (.ireturn, 1) := by decide +kernel
theorem dX10_allocate_0 : decode cX10_allocate 0 = .ok (.aload_n 0, 1) := by decide +kernel
theorem dX10_allocate_1 : decode cX10_allocate 1 = .ok (.iload_n 1, 1) := by decide +kernel
theorem dX10_allocate_2 : decode cX10_allocate 2 = .ok (.invokevirtual 302, 3) := by decide +kernel
theorem dX10_allocate_5 : decode cX10_allocate 5 = .ok (.astore 4, 2) := by decide +kernel
theorem dX10_allocate_7 : decode cX10_allocate 7 = .ok (.iload_n 2, 1) := by decide +kernel
theorem dX10_allocate_8 : decode cX10_allocate 8 = .ok (.ifCond .lt 18, 3) := by decide +kernel
theorem dX10_allocate_11 : decode cX10_allocate 11 = .ok (.iload_n 2, 1) := by decide +kernel
theorem dX10_allocate_12 : decode cX10_allocate 12 = .ok (.iconst 2, 1) := by decide +kernel
theorem dX10_allocate_13 : decode cX10_allocate 13 = .ok (.if_icmp .gt 13, 3) := by decide +kernel
theorem dX10_allocate_16 : decode cX10_allocate 16 = .ok (.iload_n 3, 1) := by decide +kernel
theorem dX10_allocate_17 : decode cX10_allocate 17 = .ok (.ifCond .lt 9, 3) := by decide +kernel
theorem dX10_allocate_20 : decode cX10_allocate 20 = .ok (.iload_n 3, 1) := by decide +kernel
theorem dX10_allocate_21 : decode cX10_allocate 21 = .ok (.bipush 20, 2) := by decide +kernel
theorem dX10_allocate_23 : decode cX10_allocate 23 = .ok (.if_icmp .le 14, 3) := by decide +kernel
theorem dX10_allocate_26 : decode cX10_allocate 26 = .ok (.new 80, 3) := by decide +kernel
theorem dX10_allocate_29 : decode cX10_allocate 29 = .ok (.dup, 1) := by decide +kernel
theorem dX10_allocate_30 : decode cX10_allocate 30 = .ok (.ldc_w 306, 3) := by decide +kernel
theorem dX10_allocate_33 : decode cX10_allocate 33 = .ok (.invokespecial 84, 3) := by decide +kernel
theorem dX10_allocate_36 : decode cX10_allocate 36 = .ok (.athrow, 1) := by decide +kernel
theorem dX10_allocate_37 : decode cX10_allocate 37 = .ok (.aload 4, 2) := by decide +kernel
theorem dX10_allocate_39 : decode cX10_allocate 39 = .ok (.iload_n 2, 1) := by decide +kernel
theorem dX10_allocate_40 : decode cX10_allocate 40 = .ok (.iload_n 3, 1) := by decide +kernel
theorem dX10_allocate_41 : decode cX10_allocate 41 = .ok (.invokevirtual 308, 3) := by decide +kernel
theorem dX10_allocate_44 : decode cX10_allocate 44 = .ok (.return_, 1) := by decide +kernel
theorem dX10_store_0 : decode cX10_store 0 = .ok (.aload_n 0, 1) := by decide +kernel
theorem dX10_store_1 : decode cX10_store 1 = .ok (.iload_n 1, 1) := by decide +kernel
theorem dX10_store_2 : decode cX10_store 2 = .ok (.invokevirtual 302, 3) := by decide +kernel
theorem dX10_store_5 : decode cX10_store 5 = .ok (.astore 4, 2) := by decide +kernel
theorem dX10_store_7 : decode cX10_store 7 = .ok (.aload_n 0, 1) := by decide +kernel
theorem dX10_store_8 : decode cX10_store 8 = .ok (.aload 4, 2) := by decide +kernel
theorem dX10_store_10 : decode cX10_store 10 = .ok (.invokevirtual 311, 3) := by decide +kernel
theorem dX10_store_13 : decode cX10_store 13 = .ok (.aload_n 0, 1) := by decide +kernel
theorem dX10_store_14 : decode cX10_store 14 = .ok (.iload_n 2, 1) := by decide +kernel
theorem dX10_store_15 : decode cX10_store 15 = .ok (.aload 4, 2) := by decide +kernel
theorem dX10_store_17 : decode cX10_store 17 = .ok (.getfield 315, 3) := by decide +kernel
theorem dX10_store_20 : decode cX10_store 20 = .ok (.invokevirtual 230, 3) := by decide +kernel
theorem dX10_store_23 : decode cX10_store 23 = .ok (.aload 4, 2) := by decide +kernel
theorem dX10_store_25 : decode cX10_store 25 = .ok (.iload_n 2, 1) := by decide +kernel
theorem dX10_store_26 : decode cX10_store 26 = .ok (.iload_n 3, 1) := by decide +kernel
theorem dX10_store_27 : decode cX10_store 27 = .ok (.invokevirtual 316, 3) := by decide +kernel
theorem dX10_store_30 : decode cX10_store 30 = .ok (.return_, 1) := by decide +kernel
theorem dX10_compareSizes_0 : decode cX10_compareSizes 0 = .ok (.aload_n 0, 1) := by decide +kernel
theorem dX10_compareSizes_1 : decode cX10_compareSizes 1 = .ok (.iload_n 1, 1) := by decide +kernel
theorem dX10_compareSizes_2 : decode cX10_compareSizes 2 = .ok (.invokevirtual 302, 3) := by decide +kernel
theorem dX10_compareSizes_5 : decode cX10_compareSizes 5 = .ok (.astore_n 2, 1) := by decide +kernel
theorem dX10_compareSizes_6 : decode cX10_compareSizes 6 = .ok (.aload_n 0, 1) := by decide +kernel
theorem dX10_compareSizes_7 : decode cX10_compareSizes 7 = .ok (.invokevirtual 173, 3) := by decide +kernel
theorem dX10_compareSizes_10 : decode cX10_compareSizes 10 = .ok (.aload_n 0, 1) := by decide +kernel
theorem dX10_compareSizes_11 : decode cX10_compareSizes 11 = .ok (.aload_n 2, 1) := by decide +kernel
theorem dX10_compareSizes_12 : decode cX10_compareSizes 12 = .ok (.invokevirtual 311, 3) := by decide +kernel
theorem dX10_compareSizes_15 : decode cX10_compareSizes 15 = .ok (.aload_n 2, 1) := by decide +kernel
theorem dX10_compareSizes_16 : decode cX10_compareSizes 16 = .ok (.getfield 322, 3) := by decide +kernel
theorem dX10_compareSizes_19 : decode cX10_compareSizes 19 = .ok (.iconst 2, 1) := by decide +kernel
theorem dX10_compareSizes_20 : decode cX10_compareSizes 20 = .ok (.if_icmp .eq 14, 3) := by decide +kernel
theorem dX10_compareSizes_23 : decode cX10_compareSizes 23 = .ok (.new 80, 3) := by decide +kernel
theorem dX10_compareSizes_26 : decode cX10_compareSizes 26 = .ok (.dup, 1) := by decide +kernel
theorem dX10_compareSizes_27 : decode cX10_compareSizes 27 = .ok (.ldc_w 325, 3) := by decide +kernel
theorem dX10_compareSizes_30 : decode cX10_compareSizes 30 = .ok (.invokespecial 84, 3) := by decide +kernel
theorem dX10_compareSizes_33 : decode cX10_compareSizes 33 = .ok (.athrow, 1) := by decide +kernel
theorem dX10_compareSizes_34 : decode cX10_compareSizes 34 = .ok (.iconst 0, 1) := by decide +kernel
theorem dX10_compareSizes_35 : decode cX10_compareSizes 35 = .ok (.istore_n 3, 1) := by decide +kernel
theorem dX10_compareSizes_36 : decode cX10_compareSizes 36 = .ok (.iload_n 3, 1) := by decide +kernel
theorem dX10_compareSizes_37 : decode cX10_compareSizes 37 = .ok (.aload_n 0, 1) := by decide +kernel
theorem dX10_compareSizes_38 : decode cX10_compareSizes 38 = .ok (.getfield 19, 3) := by decide +kernel
theorem dX10_compareSizes_41 : decode cX10_compareSizes 41 = .ok (.getfield 150, 3) := by decide +kernel
theorem dX10_compareSizes_44 : decode cX10_compareSizes 44 = .ok (.if_icmp .gt 39, 3) := by decide +kernel
theorem dX10_compareSizes_47 : decode cX10_compareSizes 47 = .ok (.aload_n 0, 1) := by decide +kernel
theorem dX10_compareSizes_48 : decode cX10_compareSizes 48 = .ok (.iload_n 3, 1) := by decide +kernel
theorem dX10_compareSizes_49 : decode cX10_compareSizes 49 = .ok (.aload_n 2, 1) := by decide +kernel
theorem dX10_compareSizes_50 : decode cX10_compareSizes 50 = .ok (.getfield 315, 3) := by decide +kernel
theorem dX10_compareSizes_53 : decode cX10_compareSizes 53 = .ok (.invokevirtual 230, 3) := by decide +kernel
theorem dX10_compareSizes_56 : decode cX10_compareSizes 56 = .ok (.aload_n 2, 1) := by decide +kernel
theorem dX10_compareSizes_57 : decode cX10_compareSizes 57 = .ok (.getfield 319, 3) := by decide +kernel
theorem dX10_compareSizes_60 : decode cX10_compareSizes 60 = .ok (.iload_n 3, 1) := by decide +kernel
theorem dX10_compareSizes_61 : decode cX10_compareSizes 61 = .ok (.invokestatic 274, 3) := by decide +kernel
theorem dX10_compareSizes_64 : decode cX10_compareSizes 64 = .ok (.aload_n 0, 1) := by decide +kernel
theorem dX10_compareSizes_65 : decode cX10_compareSizes 65 = .ok (.getfield 29, 3) := by decide +kernel
theorem dX10_compareSizes_68 : decode cX10_compareSizes 68 = .ok (.iload_n 3, 1) := by decide +kernel
theorem dX10_compareSizes_69 : decode cX10_compareSizes 69 = .ok (.invokevirtual 182, 3) := by decide +kernel
theorem dX10_compareSizes_72 : decode cX10_compareSizes 72 = .ok (.if_icmp .eq 5, 3) := by decide +kernel
theorem dX10_compareSizes_75 : decode cX10_compareSizes 75 = .ok (.iload_n 3, 1) := by decide +kernel
theorem dX10_compareSizes_76 : decode cX10_compareSizes 76 = .ok (.ireturn, 1) := by decide +kernel
theorem dX10_compareSizes_77 : decode cX10_compareSizes 77 = .ok (.iinc 3 1, 3) := by decide +kernel
theorem dX10_compareSizes_80 : decode cX10_compareSizes 80 = .ok (.goto (-44), 3) := by decide +kernel
theorem dX10_compareSizes_83 : decode cX10_compareSizes 83 = .ok (.iconst (-1), 1) := by decide +kernel
theorem dX10_compareSizes_84 : decode cX10_compareSizes 84 = .ok (.ireturn, 1) := by decide +kernel
theorem dX10_save_0 : decode cX10_save 0 = .ok (.aload_n 0, 1) := by decide +kernel
theorem dX10_save_1 : decode cX10_save 1 = .ok (.getfield 23, 3) := by decide +kernel
theorem dX10_save_4 : decode cX10_save 4 = .ok (.aload_n 0, 1) := by decide +kernel
theorem dX10_save_5 : decode cX10_save 5 = .ok (.getfield 19, 3) := by decide +kernel
theorem dX10_save_8 : decode cX10_save 8 = .ok (.invokevirtual 327, 3) := by decide +kernel
theorem dX10_save_11 : decode cX10_save 11 = .ok (.aload_n 0, 1) := by decide +kernel
theorem dX10_save_12 : decode cX10_save 12 = .ok (.aload_n 0, 1) := by decide +kernel
theorem dX10_save_13 : decode cX10_save 13 = .ok (.getfield 217, 3) := by decide +kernel
theorem dX10_save_16 : decode cX10_save 16 = .ok (.putfield 331, 3) := by decide +kernel
theorem dX10_save_19 : decode cX10_save 19 = .ok (.aload_n 0, 1) := by decide +kernel
theorem dX10_save_20 : decode cX10_save 20 = .ok (.iconst 1, 1) := by decide +kernel
theorem dX10_save_21 : decode cX10_save 21 = .ok (.putfield 334, 3) := by decide +kernel
theorem dX10_save_24 : decode cX10_save 24 = .ok (.return_, 1) := by decide +kernel
theorem dX10_restore_0 : decode cX10_restore 0 = .ok (.aload_n 0, 1) := by decide +kernel
theorem dX10_restore_1 : decode cX10_restore 1 = .ok (.getfield 334, 3) := by decide +kernel
theorem dX10_restore_4 : decode cX10_restore 4 = .ok (.ifCond .ne 14, 3) := by decide +kernel
theorem dX10_restore_7 : decode cX10_restore 7 = .ok (.new 63, 3) := by decide +kernel
theorem dX10_restore_10 : decode cX10_restore 10 = .ok (.dup, 1) := by decide +kernel
theorem dX10_restore_11 : decode cX10_restore 11 = .ok (.ldc_w 337, 3) := by decide +kernel
theorem dX10_restore_14 : decode cX10_restore 14 = .ok (.invokespecial 67, 3) := by decide +kernel
theorem dX10_restore_17 : decode cX10_restore 17 = .ok (.athrow, 1) := by decide +kernel
theorem dX10_restore_18 : decode cX10_restore 18 = .ok (.aload_n 0, 1) := by decide +kernel
theorem dX10_restore_19 : decode cX10_restore 19 = .ok (.getfield 19, 3) := by decide +kernel
theorem dX10_restore_22 : decode cX10_restore 22 = .ok (.aload_n 0, 1) := by decide +kernel
theorem dX10_restore_23 : decode cX10_restore 23 = .ok (.getfield 23, 3) := by decide +kernel
theorem dX10_restore_26 : decode cX10_restore 26 = .ok (.invokevirtual 327, 3) := by decide +kernel
theorem dX10_restore_29 : decode cX10_restore 29 = .ok (.aload_n 0, 1) := by decide +kernel
theorem dX10_restore_30 : decode cX10_restore 30 = .ok (.aload_n 0, 1) := by decide +kernel
theorem dX10_restore_31 : decode cX10_restore 31 = .ok (.getfield 331, 3) := by decide +kernel
theorem dX10_restore_34 : decode cX10_restore 34 = .ok (.putfield 217, 3) := by decide +kernel
theorem dX10_restore_37 : decode cX10_restore 37 = .ok (.aload_n 0, 1) := by decide +kernel
theorem dX10_restore_38 : decode cX10_restore 38 = .ok (.invokevirtual 115, 3) := by decide +kernel
theorem dX10_restore_41 : decode cX10_restore 41 = .ok (.return_, 1) := by decide +kernel
theorem dX10_requireAxiom_0 : decode cX10_requireAxiom 0 = .ok (.aload_n 0, 1) := by decide +kernel
theorem dX10_requireAxiom_1 : decode cX10_requireAxiom 1 = .ok (.iload_n 1, 1) := by decide +kernel
theorem dX10_requireAxiom_2 : decode cX10_requireAxiom 2 = .ok (.aload_n 0, 1) := by decide +kernel
theorem dX10_requireAxiom_3 : decode cX10_requireAxiom 3 = .ok (.getfield 19, 3) := by decide +kernel
theorem dX10_requireAxiom_6 : decode cX10_requireAxiom 6 = .ok (.getfield 102, 3) := by decide +kernel
theorem dX10_requireAxiom_9 : decode cX10_requireAxiom 9 = .ok (.invokevirtual 230, 3) := by decide +kernel
theorem dX10_requireAxiom_12 : decode cX10_requireAxiom 12 = .ok (.return_, 1) := by decide +kernel
theorem dX10_requireContext_0 : decode cX10_requireContext 0 = .ok (.aload_n 0, 1) := by decide +kernel
theorem dX10_requireContext_1 : decode cX10_requireContext 1 = .ok (.iload_n 1, 1) := by decide +kernel
theorem dX10_requireContext_2 : decode cX10_requireContext 2 = .ok (.aload_n 0, 1) := by decide +kernel
theorem dX10_requireContext_3 : decode cX10_requireContext 3 = .ok (.getfield 19, 3) := by decide +kernel
theorem dX10_requireContext_6 : decode cX10_requireContext 6 = .ok (.getfield 118, 3) := by decide +kernel
theorem dX10_requireContext_9 : decode cX10_requireContext 9 = .ok (.invokevirtual 230, 3) := by decide +kernel
theorem dX10_requireContext_12 : decode cX10_requireContext 12 = .ok (.return_, 1) := by decide +kernel
theorem dX10_requireIndex_0 : decode cX10_requireIndex 0 = .ok (.iload_n 1, 1) := by decide +kernel
theorem dX10_requireIndex_1 : decode cX10_requireIndex 1 = .ok (.ifCond .lt 8, 3) := by decide +kernel
theorem dX10_requireIndex_4 : decode cX10_requireIndex 4 = .ok (.iload_n 1, 1) := by decide +kernel
theorem dX10_requireIndex_5 : decode cX10_requireIndex 5 = .ok (.iload_n 2, 1) := by decide +kernel
theorem dX10_requireIndex_6 : decode cX10_requireIndex 6 = .ok (.if_icmp .lt 14, 3) := by decide +kernel
theorem dX10_requireIndex_9 : decode cX10_requireIndex 9 = .ok (.new 339, 3) := by decide +kernel
theorem dX10_requireIndex_12 : decode cX10_requireIndex 12 = .ok (.dup, 1) := by decide +kernel
theorem dX10_requireIndex_13 : decode cX10_requireIndex 13 = .ok (.ldc_w 341, 3) := by decide +kernel
theorem dX10_requireIndex_16 : decode cX10_requireIndex 16 = .ok (.invokespecial 343, 3) := by decide +kernel
theorem dX10_requireIndex_19 : decode cX10_requireIndex 19 = .ok (.athrow, 1) := by decide +kernel
theorem dX10_requireIndex_20 : decode cX10_requireIndex 20 = .ok (.return_, 1) := by decide +kernel
theorem dX10_requireLength_0 : decode cX10_requireLength 0 = .ok (.iload_n 1, 1) := by decide +kernel
theorem dX10_requireLength_1 : decode cX10_requireLength 1 = .ok (.ifCond .lt 14, 3) := by decide +kernel
theorem dX10_requireLength_4 : decode cX10_requireLength 4 = .ok (.iload_n 1, 1) := by decide +kernel
theorem dX10_requireLength_5 : decode cX10_requireLength 5 = .ok (.aload_n 0, 1) := by decide +kernel
theorem dX10_requireLength_6 : decode cX10_requireLength 6 = .ok (.getfield 19, 3) := by decide +kernel
theorem dX10_requireLength_9 : decode cX10_requireLength 9 = .ok (.getfield 150, 3) := by decide +kernel
theorem dX10_requireLength_12 : decode cX10_requireLength 12 = .ok (.if_icmp .le 14, 3) := by decide +kernel
theorem dX10_requireLength_15 : decode cX10_requireLength 15 = .ok (.new 80, 3) := by decide +kernel
theorem dX10_requireLength_18 : decode cX10_requireLength 18 = .ok (.dup, 1) := by decide +kernel
theorem dX10_requireLength_19 : decode cX10_requireLength 19 = .ok (.ldc_w 344, 3) := by decide +kernel
theorem dX10_requireLength_22 : decode cX10_requireLength 22 = .ok (.invokespecial 84, 3) := by decide +kernel
theorem dX10_requireLength_25 : decode cX10_requireLength 25 = .ok (.athrow, 1) := by decide +kernel
theorem dX10_requireLength_26 : decode cX10_requireLength 26 = .ok (.return_, 1) := by decide +kernel
theorem dX10_requireLanguage_0 : decode cX10_requireLanguage 0 = .ok (.aload_n 0, 1) := by decide +kernel
theorem dX10_requireLanguage_1 : decode cX10_requireLanguage 1 = .ok (.getfield 55, 3) := by decide +kernel
theorem dX10_requireLanguage_4 : decode cX10_requireLanguage 4 = .ok (.ifCond .eq 19, 3) := by decide +kernel
theorem dX10_requireLanguage_7 : decode cX10_requireLanguage 7 = .ok (.aload_n 0, 1) := by decide +kernel
theorem dX10_requireLanguage_8 : decode cX10_requireLanguage 8 = .ok (.getfield 29, 3) := by decide +kernel
theorem dX10_requireLanguage_11 : decode cX10_requireLanguage 11 = .ok (.aload_n 0, 1) := by decide +kernel
theorem dX10_requireLanguage_12 : decode cX10_requireLanguage 12 = .ok (.getfield 19, 3) := by decide +kernel
theorem dX10_requireLanguage_15 : decode cX10_requireLanguage 15 = .ok (.invokevirtual 346, 3) := by decide +kernel
theorem dX10_requireLanguage_18 : decode cX10_requireLanguage 18 = .ok (.aload_n 0, 1) := by decide +kernel
theorem dX10_requireLanguage_19 : decode cX10_requireLanguage 19 = .ok (.iconst 0, 1) := by decide +kernel
theorem dX10_requireLanguage_20 : decode cX10_requireLanguage 20 = .ok (.putfield 55, 3) := by decide +kernel
theorem dX10_requireLanguage_23 : decode cX10_requireLanguage 23 = .ok (.aload_n 0, 1) := by decide +kernel
theorem dX10_requireLanguage_24 : decode cX10_requireLanguage 24 = .ok (.getfield 29, 3) := by decide +kernel
theorem dX10_requireLanguage_27 : decode cX10_requireLanguage 27 = .ok (.getfield 349, 3) := by decide +kernel
theorem dX10_requireLanguage_30 : decode cX10_requireLanguage 30 = .ok (.ifCond .eq 14, 3) := by decide +kernel
theorem dX10_requireLanguage_33 : decode cX10_requireLanguage 33 = .ok (.new 352, 3) := by decide +kernel
theorem dX10_requireLanguage_36 : decode cX10_requireLanguage 36 = .ok (.dup, 1) := by decide +kernel
theorem dX10_requireLanguage_37 : decode cX10_requireLanguage 37 = .ok (.ldc_w 354, 3) := by decide +kernel
theorem dX10_requireLanguage_40 : decode cX10_requireLanguage 40 = .ok (.invokespecial 356, 3) := by decide +kernel
theorem dX10_requireLanguage_43 : decode cX10_requireLanguage 43 = .ok (.athrow, 1) := by decide +kernel
theorem dX10_requireLanguage_44 : decode cX10_requireLanguage 44 = .ok (.return_, 1) := by decide +kernel
theorem dX10_requirePlace_0 : decode cX10_requirePlace 0 = .ok (.aload_n 0, 1) := by decide +kernel
theorem dX10_requirePlace_1 : decode cX10_requirePlace 1 = .ok (.getfield 29, 3) := by decide +kernel
theorem dX10_requirePlace_4 : decode cX10_requirePlace 4 = .ok (.aload_n 0, 1) := by decide +kernel
theorem dX10_requirePlace_5 : decode cX10_requirePlace 5 = .ok (.getfield 217, 3) := by decide +kernel
theorem dX10_requirePlace_8 : decode cX10_requirePlace 8 = .ok (.invokevirtual 241, 3) := by decide +kernel
theorem dX10_requirePlace_11 : decode cX10_requirePlace 11 = .ok (.istore_n 1, 1) := by decide +kernel
theorem dX10_requirePlace_12 : decode cX10_requirePlace 12 = .ok (.iload_n 1, 1) := by decide +kernel
theorem dX10_requirePlace_13 : decode cX10_requirePlace 13 = .ok (.ifCond .ge 14, 3) := by decide +kernel
theorem dX10_requirePlace_16 : decode cX10_requirePlace 16 = .ok (.new 208, 3) := by decide +kernel
theorem dX10_requirePlace_19 : decode cX10_requirePlace 19 = .ok (.dup, 1) := by decide +kernel
theorem dX10_requirePlace_20 : decode cX10_requirePlace 20 = .ok (.ldc_w 357, 3) := by decide +kernel
theorem dX10_requirePlace_23 : decode cX10_requirePlace 23 = .ok (.invokespecial 212, 3) := by decide +kernel
theorem dX10_requirePlace_26 : decode cX10_requirePlace 26 = .ok (.athrow, 1) := by decide +kernel
theorem dX10_requirePlace_27 : decode cX10_requirePlace 27 = .ok (.iload_n 1, 1) := by decide +kernel
theorem dX10_requirePlace_28 : decode cX10_requirePlace 28 = .ok (.ireturn, 1) := by decide +kernel
theorem dX10_requireSlot_0 : decode cX10_requireSlot 0 = .ok (.iload_n 1, 1) := by decide +kernel
theorem dX10_requireSlot_1 : decode cX10_requireSlot 1 = .ok (.ifCond .lt 12, 3) := by decide +kernel
theorem dX10_requireSlot_4 : decode cX10_requireSlot 4 = .ok (.iload_n 1, 1) := by decide +kernel
theorem dX10_requireSlot_5 : decode cX10_requireSlot 5 = .ok (.aload_n 0, 1) := by decide +kernel
theorem dX10_requireSlot_6 : decode cX10_requireSlot 6 = .ok (.getfield 47, 3) := by decide +kernel
theorem dX10_requireSlot_9 : decode cX10_requireSlot 9 = .ok (.arraylength, 1) := by decide +kernel
theorem dX10_requireSlot_10 : decode cX10_requireSlot 10 = .ok (.if_icmp .lt 14, 3) := by decide +kernel
theorem dX10_requireSlot_13 : decode cX10_requireSlot 13 = .ok (.new 339, 3) := by decide +kernel
theorem dX10_requireSlot_16 : decode cX10_requireSlot 16 = .ok (.dup, 1) := by decide +kernel
theorem dX10_requireSlot_17 : decode cX10_requireSlot 17 = .ok (.ldc_w 359, 3) := by decide +kernel
theorem dX10_requireSlot_20 : decode cX10_requireSlot 20 = .ok (.invokespecial 343, 3) := by decide +kernel
theorem dX10_requireSlot_23 : decode cX10_requireSlot 23 = .ok (.athrow, 1) := by decide +kernel
theorem dX10_requireSlot_24 : decode cX10_requireSlot 24 = .ok (.aload_n 0, 1) := by decide +kernel
theorem dX10_requireSlot_25 : decode cX10_requireSlot 25 = .ok (.getfield 47, 3) := by decide +kernel
theorem dX10_requireSlot_28 : decode cX10_requireSlot 28 = .ok (.iload_n 1, 1) := by decide +kernel
theorem dX10_requireSlot_29 : decode cX10_requireSlot 29 = .ok (.aaload, 1) := by decide +kernel
theorem dX10_requireSlot_30 : decode cX10_requireSlot 30 = .ok (.areturn, 1) := by decide +kernel
theorem dX10_requireFilled_0 : decode cX10_requireFilled 0 = .ok (.aload_n 1, 1) := by decide +kernel
theorem dX10_requireFilled_1 : decode cX10_requireFilled 1 = .ok (.getfield 322, 3) := by decide +kernel
theorem dX10_requireFilled_4 : decode cX10_requireFilled 4 = .ok (.iconst (-1), 1) := by decide +kernel
theorem dX10_requireFilled_5 : decode cX10_requireFilled 5 = .ok (.if_icmp .ne 14, 3) := by decide +kernel
theorem dX10_requireFilled_8 : decode cX10_requireFilled 8 = .ok (.new 63, 3) := by decide +kernel
theorem dX10_requireFilled_11 : decode cX10_requireFilled 11 = .ok (.dup, 1) := by decide +kernel
theorem dX10_requireFilled_12 : decode cX10_requireFilled 12 = .ok (.ldc_w 361, 3) := by decide +kernel
theorem dX10_requireFilled_15 : decode cX10_requireFilled 15 = .ok (.invokespecial 67, 3) := by decide +kernel
theorem dX10_requireFilled_18 : decode cX10_requireFilled 18 = .ok (.athrow, 1) := by decide +kernel
theorem dX10_requireFilled_19 : decode cX10_requireFilled 19 = .ok (.return_, 1) := by decide +kernel
theorem dL_cell_0 : decode cL_cell 0 = .ok (.ldc 7, 2) := by decide +kernel
theorem dL_cell_2 : decode cL_cell 2 = .ok (.iload_n 1, 1) := by decide +kernel
theorem dL_cell_3 : decode cL_cell 3 = .ok (.aload_n 0, 1) := by decide +kernel
theorem dL_cell_4 : decode cL_cell 4 = .ok (.arraylength, 1) := by decide +kernel
theorem dL_cell_5 : decode cL_cell 5 = .ok (.if_icmp .ge 9, 3) := by decide +kernel
theorem dL_cell_8 : decode cL_cell 8 = .ok (.aload_n 0, 1) := by decide +kernel
theorem dL_cell_9 : decode cL_cell 9 = .ok (.iload_n 1, 1) := by decide +kernel
theorem dL_cell_10 : decode cL_cell 10 = .ok (.iaload, 1) := by decide +kernel
theorem dL_cell_11 : decode cL_cell 11 = .ok (.goto 4, 3) := by decide +kernel
theorem dL_cell_14 : decode cL_cell 14 = .ok (.iconst 0, 1) := by decide +kernel
theorem dL_cell_15 : decode cL_cell 15 = .ok (.sipush 1009, 3) := by decide +kernel
theorem dL_cell_18 : decode cL_cell 18 = .ok (.iload_n 1, 1) := by decide +kernel
theorem dL_cell_19 : decode cL_cell 19 = .ok (.imul, 1) := by decide +kernel
theorem dL_cell_20 : decode cL_cell 20 = .ok (.iadd, 1) := by decide +kernel
theorem dL_cell_21 : decode cL_cell 21 = .ok (.imul, 1) := by decide +kernel
theorem dL_cell_22 : decode cL_cell 22 = .ok (.sipush 12345, 3) := by decide +kernel
theorem dL_cell_25 : decode cL_cell 25 = .ok (.iadd, 1) := by decide +kernel
theorem dL_cell_26 : decode cL_cell 26 = .ok (.istore_n 2, 1) := by decide +kernel
theorem dL_cell_27 : decode cL_cell 27 = .ok (.iload_n 2, 1) := by decide +kernel
theorem dL_cell_28 : decode cL_cell 28 = .ok (.iload_n 2, 1) := by decide +kernel
theorem dL_cell_29 : decode cL_cell 29 = .ok (.bipush 13, 2) := by decide +kernel
theorem dL_cell_31 : decode cL_cell 31 = .ok (.iushr, 1) := by decide +kernel
theorem dL_cell_32 : decode cL_cell 32 = .ok (.ixor, 1) := by decide +kernel
theorem dL_cell_33 : decode cL_cell 33 = .ok (.ldc 8, 2) := by decide +kernel
theorem dL_cell_35 : decode cL_cell 35 = .ok (.imul, 1) := by decide +kernel
theorem dL_cell_36 : decode cL_cell 36 = .ok (.istore_n 2, 1) := by decide +kernel
theorem dL_cell_37 : decode cL_cell 37 = .ok (.iload_n 2, 1) := by decide +kernel
theorem dL_cell_38 : decode cL_cell 38 = .ok (.iload_n 2, 1) := by decide +kernel
theorem dL_cell_39 : decode cL_cell 39 = .ok (.bipush 16, 2) := by decide +kernel
theorem dL_cell_41 : decode cL_cell 41 = .ok (.iushr, 1) := by decide +kernel
theorem dL_cell_42 : decode cL_cell 42 = .ok (.ixor, 1) := by decide +kernel
theorem dL_cell_43 : decode cL_cell 43 = .ok (.ireturn, 1) := by decide +kernel
theorem dL_pick_0 : decode cL_pick 0 = .ok (.aload_n 0, 1) := by decide +kernel
theorem dL_pick_1 : decode cL_pick 1 = .ok (.iload_n 1, 1) := by decide +kernel
theorem dL_pick_2 : decode cL_pick 2 = .ok (.invokestatic 9, 3) := by decide +kernel
theorem dL_pick_5 : decode cL_pick 5 = .ok (.bipush 8, 2) := by decide +kernel
theorem dL_pick_7 : decode cL_pick 7 = .ok (.iushr, 1) := by decide +kernel
theorem dL_pick_8 : decode cL_pick 8 = .ok (.iload_n 2, 1) := by decide +kernel
theorem dL_pick_9 : decode cL_pick 9 = .ok (.irem, 1) := by decide +kernel
theorem dL_pick_10 : decode cL_pick 10 = .ok (.ireturn, 1) := by decide +kernel
theorem dL_define_0 : decode cL_define 0 = .ok (.iconst 0, 1) := by decide +kernel
theorem dL_define_1 : decode cL_define 1 = .ok (.istore_n 2, 1) := by decide +kernel
theorem dL_define_2 : decode cL_define 2 = .ok (.iload_n 2, 1) := by decide +kernel
theorem dL_define_3 : decode cL_define 3 = .ok (.aload_n 1, 1) := by decide +kernel
theorem dL_define_4 : decode cL_define 4 = .ok (.invokevirtual 15, 3) := by decide +kernel
theorem dL_define_7 : decode cL_define 7 = .ok (.if_icmp .ge 18, 3) := by decide +kernel
theorem dL_define_10 : decode cL_define 10 = .ok (.aload_n 0, 1) := by decide +kernel
theorem dL_define_11 : decode cL_define 11 = .ok (.aload_n 1, 1) := by decide +kernel
theorem dL_define_12 : decode cL_define 12 = .ok (.iload_n 2, 1) := by decide +kernel
theorem dL_define_13 : decode cL_define 13 = .ok (.invokevirtual 21, 3) := by decide +kernel
theorem dL_define_16 : decode cL_define 16 = .ok (.invokevirtual 25, 3) := by decide +kernel
theorem dL_define_19 : decode cL_define 19 = .ok (.iinc 2 1, 3) := by decide +kernel
theorem dL_define_22 : decode cL_define 22 = .ok (.goto (-20), 3) := by decide +kernel
theorem dL_define_25 : decode cL_define 25 = .ok (.aload_n 0, 1) := by decide +kernel
theorem dL_define_26 : decode cL_define 26 = .ok (.invokevirtual 31, 3) := by decide +kernel
theorem dL_define_29 : decode cL_define 29 = .ok (.ireturn, 1) := by decide +kernel
theorem dL_define_30 : decode cL_define 30 = .ok (.astore_n 2, 1) := by decide +kernel
theorem dL_define_31 : decode cL_define 31 = .ok (.iconst (-1), 1) := by decide +kernel
theorem dL_define_32 : decode cL_define 32 = .ok (.ireturn, 1) := by decide +kernel
theorem dL_define_33 : decode cL_define 33 = .ok (.astore_n 2, 1) := by decide +kernel
theorem dL_define_34 : decode cL_define 34 = .ok (.bipush (-2), 2) := by decide +kernel
theorem dL_define_36 : decode cL_define 36 = .ok (.ireturn, 1) := by decide +kernel
theorem dL_letters_0 : decode cL_letters 0 = .ok (.new 38, 3) := by decide +kernel
theorem dL_letters_3 : decode cL_letters 3 = .ok (.dup, 1) := by decide +kernel
theorem dL_letters_4 : decode cL_letters 4 = .ok (.invokespecial 40, 3) := by decide +kernel
theorem dL_letters_7 : decode cL_letters 7 = .ok (.astore 4, 2) := by decide +kernel
theorem dL_letters_9 : decode cL_letters 9 = .ok (.iconst 0, 1) := by decide +kernel
theorem dL_letters_10 : decode cL_letters 10 = .ok (.istore 5, 2) := by decide +kernel
theorem dL_letters_12 : decode cL_letters 12 = .ok (.iload 5, 2) := by decide +kernel
theorem dL_letters_14 : decode cL_letters 14 = .ok (.iload_n 2, 1) := by decide +kernel
theorem dL_letters_15 : decode cL_letters 15 = .ok (.if_icmp .ge 28, 3) := by decide +kernel
theorem dL_letters_18 : decode cL_letters 18 = .ok (.aload 4, 2) := by decide +kernel
theorem dL_letters_20 : decode cL_letters 20 = .ok (.bipush 97, 2) := by decide +kernel
theorem dL_letters_22 : decode cL_letters 22 = .ok (.aload_n 0, 1) := by decide +kernel
theorem dL_letters_23 : decode cL_letters 23 = .ok (.iload_n 1, 1) := by decide +kernel
theorem dL_letters_24 : decode cL_letters 24 = .ok (.iload 5, 2) := by decide +kernel
theorem dL_letters_26 : decode cL_letters 26 = .ok (.iadd, 1) := by decide +kernel
theorem dL_letters_27 : decode cL_letters 27 = .ok (.iload_n 3, 1) := by decide +kernel
theorem dL_letters_28 : decode cL_letters 28 = .ok (.invokestatic 41, 3) := by decide +kernel
theorem dL_letters_31 : decode cL_letters 31 = .ok (.iadd, 1) := by decide +kernel
theorem dL_letters_32 : decode cL_letters 32 = .ok (.i2c, 1) := by decide +kernel
theorem dL_letters_33 : decode cL_letters 33 = .ok (.invokevirtual 45, 3) := by decide +kernel
theorem dL_letters_36 : decode cL_letters 36 = .ok (.pop, 1) := by decide +kernel
theorem dL_letters_37 : decode cL_letters 37 = .ok (.iinc 5 1, 3) := by decide +kernel
theorem dL_letters_40 : decode cL_letters 40 = .ok (.goto (-28), 3) := by decide +kernel
theorem dL_letters_43 : decode cL_letters 43 = .ok (.aload 4, 2) := by decide +kernel
theorem dL_letters_45 : decode cL_letters 45 = .ok (.invokevirtual 48, 3) := by decide +kernel
theorem dL_letters_48 : decode cL_letters 48 = .ok (.areturn, 1) := by decide +kernel
theorem dL_selector_0 : decode cL_selector 0 = .ok (.aload_n 0, 1) := by decide +kernel
theorem dL_selector_1 : decode cL_selector 1 = .ok (.iload_n 1, 1) := by decide +kernel
theorem dL_selector_2 : decode cL_selector 2 = .ok (.bipush 7, 2) := by decide +kernel
theorem dL_selector_4 : decode cL_selector 4 = .ok (.invokestatic 41, 3) := by decide +kernel
theorem dL_selector_7 : decode cL_selector 7 = .ok (.tableswitch 227 0 5 #[37, 40, 67, 104, 141, 200], 37) := by decide +kernel
theorem dL_selector_44 : decode cL_selector 44 = .ok (.ldc 52, 2) := by decide +kernel
theorem dL_selector_46 : decode cL_selector 46 = .ok (.areturn, 1) := by decide +kernel
theorem dL_selector_47 : decode cL_selector 47 = .ok (.new 38, 3) := by decide +kernel
theorem dL_selector_50 : decode cL_selector 50 = .ok (.dup, 1) := by decide +kernel
theorem dL_selector_51 : decode cL_selector 51 = .ok (.invokespecial 40, 3) := by decide +kernel
theorem dL_selector_54 : decode cL_selector 54 = .ok (.ldc 54, 2) := by decide +kernel
theorem dL_selector_56 : decode cL_selector 56 = .ok (.invokevirtual 56, 3) := by decide +kernel
theorem dL_selector_59 : decode cL_selector 59 = .ok (.aload_n 0, 1) := by decide +kernel
theorem dL_selector_60 : decode cL_selector 60 = .ok (.iload_n 1, 1) := by decide +kernel
theorem dL_selector_61 : decode cL_selector 61 = .ok (.iconst 1, 1) := by decide +kernel
theorem dL_selector_62 : decode cL_selector 62 = .ok (.iadd, 1) := by decide +kernel
theorem dL_selector_63 : decode cL_selector 63 = .ok (.iconst 5, 1) := by decide +kernel
theorem dL_selector_64 : decode cL_selector 64 = .ok (.invokestatic 41, 3) := by decide +kernel
theorem dL_selector_67 : decode cL_selector 67 = .ok (.invokevirtual 59, 3) := by decide +kernel
theorem dL_selector_70 : decode cL_selector 70 = .ok (.invokevirtual 48, 3) := by decide +kernel
theorem dL_selector_73 : decode cL_selector 73 = .ok (.areturn, 1) := by decide +kernel
theorem dL_selector_74 : decode cL_selector 74 = .ok (.new 38, 3) := by decide +kernel
theorem dL_selector_77 : decode cL_selector 77 = .ok (.dup, 1) := by decide +kernel
theorem dL_selector_78 : decode cL_selector 78 = .ok (.invokespecial 40, 3) := by decide +kernel
theorem dL_selector_81 : decode cL_selector 81 = .ok (.ldc 62, 2) := by decide +kernel
theorem dL_selector_83 : decode cL_selector 83 = .ok (.invokevirtual 56, 3) := by decide +kernel
theorem dL_selector_86 : decode cL_selector 86 = .ok (.aload_n 0, 1) := by decide +kernel
theorem dL_selector_87 : decode cL_selector 87 = .ok (.iload_n 1, 1) := by decide +kernel
theorem dL_selector_88 : decode cL_selector 88 = .ok (.iconst 1, 1) := by decide +kernel
theorem dL_selector_89 : decode cL_selector 89 = .ok (.iadd, 1) := by decide +kernel
theorem dL_selector_90 : decode cL_selector 90 = .ok (.iconst 1, 1) := by decide +kernel
theorem dL_selector_91 : decode cL_selector 91 = .ok (.aload_n 0, 1) := by decide +kernel
theorem dL_selector_92 : decode cL_selector 92 = .ok (.iload_n 1, 1) := by decide +kernel
theorem dL_selector_93 : decode cL_selector 93 = .ok (.iconst 4, 1) := by decide +kernel
theorem dL_selector_94 : decode cL_selector 94 = .ok (.iadd, 1) := by decide +kernel
theorem dL_selector_95 : decode cL_selector 95 = .ok (.iconst 2, 1) := by decide +kernel
theorem dL_selector_96 : decode cL_selector 96 = .ok (.invokestatic 41, 3) := by decide +kernel
theorem dL_selector_99 : decode cL_selector 99 = .ok (.iadd, 1) := by decide +kernel
theorem dL_selector_100 : decode cL_selector 100 = .ok (.iconst 2, 1) := by decide +kernel
theorem dL_selector_101 : decode cL_selector 101 = .ok (.invokestatic 64, 3) := by decide +kernel
theorem dL_selector_104 : decode cL_selector 104 = .ok (.invokevirtual 56, 3) := by decide +kernel
theorem dL_selector_107 : decode cL_selector 107 = .ok (.invokevirtual 48, 3) := by decide +kernel
theorem dL_selector_110 : decode cL_selector 110 = .ok (.areturn, 1) := by decide +kernel
theorem dL_selector_111 : decode cL_selector 111 = .ok (.new 38, 3) := by decide +kernel
theorem dL_selector_114 : decode cL_selector 114 = .ok (.dup, 1) := by decide +kernel
theorem dL_selector_115 : decode cL_selector 115 = .ok (.invokespecial 40, 3) := by decide +kernel
theorem dL_selector_118 : decode cL_selector 118 = .ok (.ldc 68, 2) := by decide +kernel
theorem dL_selector_120 : decode cL_selector 120 = .ok (.invokevirtual 56, 3) := by decide +kernel
theorem dL_selector_123 : decode cL_selector 123 = .ok (.aload_n 0, 1) := by decide +kernel
theorem dL_selector_124 : decode cL_selector 124 = .ok (.iload_n 1, 1) := by decide +kernel
theorem dL_selector_125 : decode cL_selector 125 = .ok (.iconst 1, 1) := by decide +kernel
theorem dL_selector_126 : decode cL_selector 126 = .ok (.iadd, 1) := by decide +kernel
theorem dL_selector_127 : decode cL_selector 127 = .ok (.iconst 1, 1) := by decide +kernel
theorem dL_selector_128 : decode cL_selector 128 = .ok (.aload_n 0, 1) := by decide +kernel
theorem dL_selector_129 : decode cL_selector 129 = .ok (.iload_n 1, 1) := by decide +kernel
theorem dL_selector_130 : decode cL_selector 130 = .ok (.iconst 4, 1) := by decide +kernel
theorem dL_selector_131 : decode cL_selector 131 = .ok (.iadd, 1) := by decide +kernel
theorem dL_selector_132 : decode cL_selector 132 = .ok (.iconst 2, 1) := by decide +kernel
theorem dL_selector_133 : decode cL_selector 133 = .ok (.invokestatic 41, 3) := by decide +kernel
theorem dL_selector_136 : decode cL_selector 136 = .ok (.iadd, 1) := by decide +kernel
theorem dL_selector_137 : decode cL_selector 137 = .ok (.iconst 2, 1) := by decide +kernel
theorem dL_selector_138 : decode cL_selector 138 = .ok (.invokestatic 64, 3) := by decide +kernel
theorem dL_selector_141 : decode cL_selector 141 = .ok (.invokevirtual 56, 3) := by decide +kernel
theorem dL_selector_144 : decode cL_selector 144 = .ok (.invokevirtual 48, 3) := by decide +kernel
theorem dL_selector_147 : decode cL_selector 147 = .ok (.areturn, 1) := by decide +kernel
theorem dL_selector_148 : decode cL_selector 148 = .ok (.new 38, 3) := by decide +kernel
theorem dL_selector_151 : decode cL_selector 151 = .ok (.dup, 1) := by decide +kernel
theorem dL_selector_152 : decode cL_selector 152 = .ok (.invokespecial 40, 3) := by decide +kernel
theorem dL_selector_155 : decode cL_selector 155 = .ok (.ldc 70, 2) := by decide +kernel
theorem dL_selector_157 : decode cL_selector 157 = .ok (.invokevirtual 56, 3) := by decide +kernel
theorem dL_selector_160 : decode cL_selector 160 = .ok (.aload_n 0, 1) := by decide +kernel
theorem dL_selector_161 : decode cL_selector 161 = .ok (.iload_n 1, 1) := by decide +kernel
theorem dL_selector_162 : decode cL_selector 162 = .ok (.iconst 1, 1) := by decide +kernel
theorem dL_selector_163 : decode cL_selector 163 = .ok (.iadd, 1) := by decide +kernel
theorem dL_selector_164 : decode cL_selector 164 = .ok (.iconst 2, 1) := by decide +kernel
theorem dL_selector_165 : decode cL_selector 165 = .ok (.invokestatic 41, 3) := by decide +kernel
theorem dL_selector_168 : decode cL_selector 168 = .ok (.invokevirtual 59, 3) := by decide +kernel
theorem dL_selector_171 : decode cL_selector 171 = .ok (.ldc 72, 2) := by decide +kernel
theorem dL_selector_173 : decode cL_selector 173 = .ok (.invokevirtual 56, 3) := by decide +kernel
theorem dL_selector_176 : decode cL_selector 176 = .ok (.aload_n 0, 1) := by decide +kernel
theorem dL_selector_177 : decode cL_selector 177 = .ok (.iload_n 1, 1) := by decide +kernel
theorem dL_selector_178 : decode cL_selector 178 = .ok (.iconst 2, 1) := by decide +kernel
theorem dL_selector_179 : decode cL_selector 179 = .ok (.iadd, 1) := by decide +kernel
theorem dL_selector_180 : decode cL_selector 180 = .ok (.iconst 4, 1) := by decide +kernel
theorem dL_selector_181 : decode cL_selector 181 = .ok (.invokestatic 41, 3) := by decide +kernel
theorem dL_selector_184 : decode cL_selector 184 = .ok (.invokevirtual 59, 3) := by decide +kernel
theorem dL_selector_187 : decode cL_selector 187 = .ok (.ldc 74, 2) := by decide +kernel
theorem dL_selector_189 : decode cL_selector 189 = .ok (.invokevirtual 56, 3) := by decide +kernel
theorem dL_selector_192 : decode cL_selector 192 = .ok (.aload_n 0, 1) := by decide +kernel
theorem dL_selector_193 : decode cL_selector 193 = .ok (.iload_n 1, 1) := by decide +kernel
theorem dL_selector_194 : decode cL_selector 194 = .ok (.iconst 3, 1) := by decide +kernel
theorem dL_selector_195 : decode cL_selector 195 = .ok (.iadd, 1) := by decide +kernel
theorem dL_selector_196 : decode cL_selector 196 = .ok (.iconst 3, 1) := by decide +kernel
theorem dL_selector_197 : decode cL_selector 197 = .ok (.invokestatic 41, 3) := by decide +kernel
theorem dL_selector_200 : decode cL_selector 200 = .ok (.invokevirtual 59, 3) := by decide +kernel
theorem dL_selector_203 : decode cL_selector 203 = .ok (.invokevirtual 48, 3) := by decide +kernel
theorem dL_selector_206 : decode cL_selector 206 = .ok (.areturn, 1) := by decide +kernel
theorem dL_selector_207 : decode cL_selector 207 = .ok (.new 38, 3) := by decide +kernel
theorem dL_selector_210 : decode cL_selector 210 = .ok (.dup, 1) := by decide +kernel
theorem dL_selector_211 : decode cL_selector 211 = .ok (.invokespecial 40, 3) := by decide +kernel
theorem dL_selector_214 : decode cL_selector 214 = .ok (.ldc 76, 2) := by decide +kernel
theorem dL_selector_216 : decode cL_selector 216 = .ok (.invokevirtual 56, 3) := by decide +kernel
theorem dL_selector_219 : decode cL_selector 219 = .ok (.aload_n 0, 1) := by decide +kernel
theorem dL_selector_220 : decode cL_selector 220 = .ok (.iload_n 1, 1) := by decide +kernel
theorem dL_selector_221 : decode cL_selector 221 = .ok (.iconst 1, 1) := by decide +kernel
theorem dL_selector_222 : decode cL_selector 222 = .ok (.iadd, 1) := by decide +kernel
theorem dL_selector_223 : decode cL_selector 223 = .ok (.iconst 3, 1) := by decide +kernel
theorem dL_selector_224 : decode cL_selector 224 = .ok (.invokestatic 41, 3) := by decide +kernel
theorem dL_selector_227 : decode cL_selector 227 = .ok (.invokevirtual 59, 3) := by decide +kernel
theorem dL_selector_230 : decode cL_selector 230 = .ok (.invokevirtual 48, 3) := by decide +kernel
theorem dL_selector_233 : decode cL_selector 233 = .ok (.areturn, 1) := by decide +kernel
theorem dL_selector_234 : decode cL_selector 234 = .ok (.new 38, 3) := by decide +kernel
theorem dL_selector_237 : decode cL_selector 237 = .ok (.dup, 1) := by decide +kernel
theorem dL_selector_238 : decode cL_selector 238 = .ok (.invokespecial 40, 3) := by decide +kernel
theorem dL_selector_241 : decode cL_selector 241 = .ok (.ldc 78, 2) := by decide +kernel
theorem dL_selector_243 : decode cL_selector 243 = .ok (.invokevirtual 56, 3) := by decide +kernel
theorem dL_selector_246 : decode cL_selector 246 = .ok (.iconst 1, 1) := by decide +kernel
theorem dL_selector_247 : decode cL_selector 247 = .ok (.aload_n 0, 1) := by decide +kernel
theorem dL_selector_248 : decode cL_selector 248 = .ok (.iload_n 1, 1) := by decide +kernel
theorem dL_selector_249 : decode cL_selector 249 = .ok (.iconst 1, 1) := by decide +kernel
theorem dL_selector_250 : decode cL_selector 250 = .ok (.iadd, 1) := by decide +kernel
theorem dL_selector_251 : decode cL_selector 251 = .ok (.iconst 5, 1) := by decide +kernel
theorem dL_selector_252 : decode cL_selector 252 = .ok (.invokestatic 41, 3) := by decide +kernel
theorem dL_selector_255 : decode cL_selector 255 = .ok (.iadd, 1) := by decide +kernel
theorem dL_selector_256 : decode cL_selector 256 = .ok (.invokevirtual 59, 3) := by decide +kernel
theorem dL_selector_259 : decode cL_selector 259 = .ok (.invokevirtual 48, 3) := by decide +kernel
theorem dL_selector_262 : decode cL_selector 262 = .ok (.areturn, 1) := by decide +kernel
theorem dL_mode_0 : decode cL_mode 0 = .ok (.iload_n 0, 1) := by decide +kernel
theorem dL_mode_1 : decode cL_mode 1 = .ok (.ifCond .ne 8, 3) := by decide +kernel
theorem dL_mode_4 : decode cL_mode 4 = .ok (.ldc 80, 2) := by decide +kernel
theorem dL_mode_6 : decode cL_mode 6 = .ok (.goto 35, 3) := by decide +kernel
theorem dL_mode_9 : decode cL_mode 9 = .ok (.iload_n 0, 1) := by decide +kernel
theorem dL_mode_10 : decode cL_mode 10 = .ok (.iconst 1, 1) := by decide +kernel
theorem dL_mode_11 : decode cL_mode 11 = .ok (.if_icmp .ne 8, 3) := by decide +kernel
theorem dL_mode_14 : decode cL_mode 14 = .ok (.ldc 82, 2) := by decide +kernel
theorem dL_mode_16 : decode cL_mode 16 = .ok (.goto 25, 3) := by decide +kernel
theorem dL_mode_19 : decode cL_mode 19 = .ok (.iload_n 0, 1) := by decide +kernel
theorem dL_mode_20 : decode cL_mode 20 = .ok (.iconst 2, 1) := by decide +kernel
theorem dL_mode_21 : decode cL_mode 21 = .ok (.if_icmp .ne 8, 3) := by decide +kernel
theorem dL_mode_24 : decode cL_mode 24 = .ok (.ldc 84, 2) := by decide +kernel
theorem dL_mode_26 : decode cL_mode 26 = .ok (.goto 15, 3) := by decide +kernel
theorem dL_mode_29 : decode cL_mode 29 = .ok (.iload_n 0, 1) := by decide +kernel
theorem dL_mode_30 : decode cL_mode 30 = .ok (.iconst 3, 1) := by decide +kernel
theorem dL_mode_31 : decode cL_mode 31 = .ok (.if_icmp .ne 8, 3) := by decide +kernel
theorem dL_mode_34 : decode cL_mode 34 = .ok (.ldc 86, 2) := by decide +kernel
theorem dL_mode_36 : decode cL_mode 36 = .ok (.goto 5, 3) := by decide +kernel
theorem dL_mode_39 : decode cL_mode 39 = .ok (.ldc 88, 2) := by decide +kernel
theorem dL_mode_41 : decode cL_mode 41 = .ok (.areturn, 1) := by decide +kernel
theorem dL_build_0 : decode cL_build 0 = .ok (.aload_n 0, 1) := by decide +kernel
theorem dL_build_1 : decode cL_build 1 = .ok (.iconst 0, 1) := by decide +kernel
theorem dL_build_2 : decode cL_build 2 = .ok (.invokevirtual 90, 3) := by decide +kernel
theorem dL_build_5 : decode cL_build 5 = .ok (.ifCond .le 11, 3) := by decide +kernel
theorem dL_build_8 : decode cL_build 8 = .ok (.aload_n 0, 1) := by decide +kernel
theorem dL_build_9 : decode cL_build 9 = .ok (.iconst 0, 1) := by decide +kernel
theorem dL_build_10 : decode cL_build 10 = .ok (.invokevirtual 94, 3) := by decide +kernel
theorem dL_build_13 : decode cL_build 13 = .ok (.goto (-13), 3) := by decide +kernel
theorem dL_build_16 : decode cL_build 16 = .ok (.aload_n 0, 1) := by decide +kernel
theorem dL_build_17 : decode cL_build 17 = .ok (.iconst 1, 1) := by decide +kernel
theorem dL_build_18 : decode cL_build 18 = .ok (.invokevirtual 90, 3) := by decide +kernel
theorem dL_build_21 : decode cL_build 21 = .ok (.ifCond .le 11, 3) := by decide +kernel
theorem dL_build_24 : decode cL_build 24 = .ok (.aload_n 0, 1) := by decide +kernel
theorem dL_build_25 : decode cL_build 25 = .ok (.iconst 0, 1) := by decide +kernel
theorem dL_build_26 : decode cL_build 26 = .ok (.invokevirtual 98, 3) := by decide +kernel
theorem dL_build_29 : decode cL_build 29 = .ok (.goto (-13), 3) := by decide +kernel
theorem dL_build_32 : decode cL_build 32 = .ok (.aload_n 0, 1) := by decide +kernel
theorem dL_build_33 : decode cL_build 33 = .ok (.new 38, 3) := by decide +kernel
theorem dL_build_36 : decode cL_build 36 = .ok (.dup, 1) := by decide +kernel
theorem dL_build_37 : decode cL_build 37 = .ok (.invokespecial 40, 3) := by decide +kernel
theorem dL_build_40 : decode cL_build 40 = .ok (.ldc 101, 2) := by decide +kernel
theorem dL_build_42 : decode cL_build 42 = .ok (.invokevirtual 56, 3) := by decide +kernel
theorem dL_build_45 : decode cL_build 45 = .ok (.aload_n 1, 1) := by decide +kernel
theorem dL_build_46 : decode cL_build 46 = .ok (.iload_n 2, 1) := by decide +kernel
theorem dL_build_47 : decode cL_build 47 = .ok (.iconst 5, 1) := by decide +kernel
theorem dL_build_48 : decode cL_build 48 = .ok (.invokestatic 41, 3) := by decide +kernel
theorem dL_build_51 : decode cL_build 51 = .ok (.invokestatic 103, 3) := by decide +kernel
theorem dL_build_54 : decode cL_build 54 = .ok (.invokevirtual 56, 3) := by decide +kernel
theorem dL_build_57 : decode cL_build 57 = .ok (.invokevirtual 48, 3) := by decide +kernel
theorem dL_build_60 : decode cL_build 60 = .ok (.invokestatic 107, 3) := by decide +kernel
theorem dL_build_63 : decode cL_build 63 = .ok (.pop, 1) := by decide +kernel
theorem dL_build_64 : decode cL_build 64 = .ok (.aload_n 0, 1) := by decide +kernel
theorem dL_build_65 : decode cL_build 65 = .ok (.new 38, 3) := by decide +kernel
theorem dL_build_68 : decode cL_build 68 = .ok (.dup, 1) := by decide +kernel
theorem dL_build_69 : decode cL_build 69 = .ok (.invokespecial 40, 3) := by decide +kernel
theorem dL_build_72 : decode cL_build 72 = .ok (.ldc 110, 2) := by decide +kernel
theorem dL_build_74 : decode cL_build 74 = .ok (.invokevirtual 56, 3) := by decide +kernel
theorem dL_build_77 : decode cL_build 77 = .ok (.iconst 3, 1) := by decide +kernel
theorem dL_build_78 : decode cL_build 78 = .ok (.aload_n 1, 1) := by decide +kernel
theorem dL_build_79 : decode cL_build 79 = .ok (.iload_n 2, 1) := by decide +kernel
theorem dL_build_80 : decode cL_build 80 = .ok (.iconst 1, 1) := by decide +kernel
theorem dL_build_81 : decode cL_build 81 = .ok (.iadd, 1) := by decide +kernel
theorem dL_build_82 : decode cL_build 82 = .ok (.iconst 4, 1) := by decide +kernel
theorem dL_build_83 : decode cL_build 83 = .ok (.invokestatic 41, 3) := by decide +kernel
theorem dL_build_86 : decode cL_build 86 = .ok (.iadd, 1) := by decide +kernel
theorem dL_build_87 : decode cL_build 87 = .ok (.invokevirtual 59, 3) := by decide +kernel
theorem dL_build_90 : decode cL_build 90 = .ok (.invokevirtual 48, 3) := by decide +kernel
theorem dL_build_93 : decode cL_build 93 = .ok (.invokestatic 107, 3) := by decide +kernel
theorem dL_build_96 : decode cL_build 96 = .ok (.pop, 1) := by decide +kernel
theorem dL_build_97 : decode cL_build 97 = .ok (.iconst 1, 1) := by decide +kernel
theorem dL_build_98 : decode cL_build 98 = .ok (.aload_n 1, 1) := by decide +kernel
theorem dL_build_99 : decode cL_build 99 = .ok (.iload_n 2, 1) := by decide +kernel
theorem dL_build_100 : decode cL_build 100 = .ok (.iconst 2, 1) := by decide +kernel
theorem dL_build_101 : decode cL_build 101 = .ok (.iadd, 1) := by decide +kernel
theorem dL_build_102 : decode cL_build 102 = .ok (.iconst 3, 1) := by decide +kernel
theorem dL_build_103 : decode cL_build 103 = .ok (.invokestatic 41, 3) := by decide +kernel
theorem dL_build_106 : decode cL_build 106 = .ok (.iadd, 1) := by decide +kernel
theorem dL_build_107 : decode cL_build 107 = .ok (.istore_n 3, 1) := by decide +kernel
theorem dL_build_108 : decode cL_build 108 = .ok (.iconst 0, 1) := by decide +kernel
theorem dL_build_109 : decode cL_build 109 = .ok (.istore 4, 2) := by decide +kernel
theorem dL_build_111 : decode cL_build 111 = .ok (.iload 4, 2) := by decide +kernel
theorem dL_build_113 : decode cL_build 113 = .ok (.iload_n 3, 1) := by decide +kernel
theorem dL_build_114 : decode cL_build 114 = .ok (.if_icmp .ge 61, 3) := by decide +kernel
theorem dL_build_117 : decode cL_build 117 = .ok (.aload_n 0, 1) := by decide +kernel
theorem dL_build_118 : decode cL_build 118 = .ok (.new 38, 3) := by decide +kernel
theorem dL_build_121 : decode cL_build 121 = .ok (.dup, 1) := by decide +kernel
theorem dL_build_122 : decode cL_build 122 = .ok (.invokespecial 40, 3) := by decide +kernel
theorem dL_build_125 : decode cL_build 125 = .ok (.ldc 112, 2) := by decide +kernel
theorem dL_build_127 : decode cL_build 127 = .ok (.invokevirtual 56, 3) := by decide +kernel
theorem dL_build_130 : decode cL_build 130 = .ok (.aload_n 1, 1) := by decide +kernel
theorem dL_build_131 : decode cL_build 131 = .ok (.iload_n 2, 1) := by decide +kernel
theorem dL_build_132 : decode cL_build 132 = .ok (.iconst 3, 1) := by decide +kernel
theorem dL_build_133 : decode cL_build 133 = .ok (.iadd, 1) := by decide +kernel
theorem dL_build_134 : decode cL_build 134 = .ok (.iconst 4, 1) := by decide +kernel
theorem dL_build_135 : decode cL_build 135 = .ok (.iload 4, 2) := by decide +kernel
theorem dL_build_137 : decode cL_build 137 = .ok (.imul, 1) := by decide +kernel
theorem dL_build_138 : decode cL_build 138 = .ok (.iadd, 1) := by decide +kernel
theorem dL_build_139 : decode cL_build 139 = .ok (.iconst 1, 1) := by decide +kernel
theorem dL_build_140 : decode cL_build 140 = .ok (.aload_n 1, 1) := by decide +kernel
theorem dL_build_141 : decode cL_build 141 = .ok (.iload_n 2, 1) := by decide +kernel
theorem dL_build_142 : decode cL_build 142 = .ok (.bipush 6, 2) := by decide +kernel
theorem dL_build_144 : decode cL_build 144 = .ok (.iadd, 1) := by decide +kernel
theorem dL_build_145 : decode cL_build 145 = .ok (.iconst 4, 1) := by decide +kernel
theorem dL_build_146 : decode cL_build 146 = .ok (.iload 4, 2) := by decide +kernel
theorem dL_build_148 : decode cL_build 148 = .ok (.imul, 1) := by decide +kernel
theorem dL_build_149 : decode cL_build 149 = .ok (.iadd, 1) := by decide +kernel
theorem dL_build_150 : decode cL_build 150 = .ok (.iconst 3, 1) := by decide +kernel
theorem dL_build_151 : decode cL_build 151 = .ok (.invokestatic 41, 3) := by decide +kernel
theorem dL_build_154 : decode cL_build 154 = .ok (.iadd, 1) := by decide +kernel
theorem dL_build_155 : decode cL_build 155 = .ok (.iconst 2, 1) := by decide +kernel
theorem dL_build_156 : decode cL_build 156 = .ok (.invokestatic 64, 3) := by decide +kernel
theorem dL_build_159 : decode cL_build 159 = .ok (.invokevirtual 56, 3) := by decide +kernel
theorem dL_build_162 : decode cL_build 162 = .ok (.invokevirtual 48, 3) := by decide +kernel
theorem dL_build_165 : decode cL_build 165 = .ok (.invokestatic 107, 3) := by decide +kernel
theorem dL_build_168 : decode cL_build 168 = .ok (.pop, 1) := by decide +kernel
theorem dL_build_169 : decode cL_build 169 = .ok (.iinc 4 1, 3) := by decide +kernel
theorem dL_build_172 : decode cL_build 172 = .ok (.goto (-61), 3) := by decide +kernel
theorem dL_build_175 : decode cL_build 175 = .ok (.aload_n 1, 1) := by decide +kernel
theorem dL_build_176 : decode cL_build 176 = .ok (.iload_n 2, 1) := by decide +kernel
theorem dL_build_177 : decode cL_build 177 = .ok (.bipush 20, 2) := by decide +kernel
theorem dL_build_179 : decode cL_build 179 = .ok (.iadd, 1) := by decide +kernel
theorem dL_build_180 : decode cL_build 180 = .ok (.iconst 4, 1) := by decide +kernel
theorem dL_build_181 : decode cL_build 181 = .ok (.invokestatic 41, 3) := by decide +kernel
theorem dL_build_184 : decode cL_build 184 = .ok (.istore 4, 2) := by decide +kernel
theorem dL_build_186 : decode cL_build 186 = .ok (.iconst 0, 1) := by decide +kernel
theorem dL_build_187 : decode cL_build 187 = .ok (.istore 5, 2) := by decide +kernel
theorem dL_build_189 : decode cL_build 189 = .ok (.iload 5, 2) := by decide +kernel
theorem dL_build_191 : decode cL_build 191 = .ok (.iload 4, 2) := by decide +kernel
theorem dL_build_193 : decode cL_build 193 = .ok (.if_icmp .ge 106, 3) := by decide +kernel
theorem dL_build_196 : decode cL_build 196 = .ok (.iload_n 2, 1) := by decide +kernel
theorem dL_build_197 : decode cL_build 197 = .ok (.bipush 21, 2) := by decide +kernel
theorem dL_build_199 : decode cL_build 199 = .ok (.iadd, 1) := by decide +kernel
theorem dL_build_200 : decode cL_build 200 = .ok (.bipush 20, 2) := by decide +kernel
theorem dL_build_202 : decode cL_build 202 = .ok (.iload 5, 2) := by decide +kernel
theorem dL_build_204 : decode cL_build 204 = .ok (.imul, 1) := by decide +kernel
theorem dL_build_205 : decode cL_build 205 = .ok (.iadd, 1) := by decide +kernel
theorem dL_build_206 : decode cL_build 206 = .ok (.istore 6, 2) := by decide +kernel
theorem dL_build_208 : decode cL_build 208 = .ok (.aload_n 0, 1) := by decide +kernel
theorem dL_build_209 : decode cL_build 209 = .ok (.new 38, 3) := by decide +kernel
theorem dL_build_212 : decode cL_build 212 = .ok (.dup, 1) := by decide +kernel
theorem dL_build_213 : decode cL_build 213 = .ok (.invokespecial 40, 3) := by decide +kernel
theorem dL_build_216 : decode cL_build 216 = .ok (.ldc 114, 2) := by decide +kernel
theorem dL_build_218 : decode cL_build 218 = .ok (.invokevirtual 56, 3) := by decide +kernel
theorem dL_build_221 : decode cL_build 221 = .ok (.aload_n 1, 1) := by decide +kernel
theorem dL_build_222 : decode cL_build 222 = .ok (.iload 6, 2) := by decide +kernel
theorem dL_build_224 : decode cL_build 224 = .ok (.iconst 1, 1) := by decide +kernel
theorem dL_build_225 : decode cL_build 225 = .ok (.aload_n 1, 1) := by decide +kernel
theorem dL_build_226 : decode cL_build 226 = .ok (.iload 6, 2) := by decide +kernel
theorem dL_build_228 : decode cL_build 228 = .ok (.iconst 3, 1) := by decide +kernel
theorem dL_build_229 : decode cL_build 229 = .ok (.iadd, 1) := by decide +kernel
theorem dL_build_230 : decode cL_build 230 = .ok (.iconst 2, 1) := by decide +kernel
theorem dL_build_231 : decode cL_build 231 = .ok (.invokestatic 41, 3) := by decide +kernel
theorem dL_build_234 : decode cL_build 234 = .ok (.iadd, 1) := by decide +kernel
theorem dL_build_235 : decode cL_build 235 = .ok (.iconst 2, 1) := by decide +kernel
theorem dL_build_236 : decode cL_build 236 = .ok (.invokestatic 64, 3) := by decide +kernel
theorem dL_build_239 : decode cL_build 239 = .ok (.invokevirtual 56, 3) := by decide +kernel
theorem dL_build_242 : decode cL_build 242 = .ok (.ldc 116, 2) := by decide +kernel
theorem dL_build_244 : decode cL_build 244 = .ok (.invokevirtual 56, 3) := by decide +kernel
theorem dL_build_247 : decode cL_build 247 = .ok (.aload_n 1, 1) := by decide +kernel
theorem dL_build_248 : decode cL_build 248 = .ok (.iload 6, 2) := by decide +kernel
theorem dL_build_250 : decode cL_build 250 = .ok (.iconst 4, 1) := by decide +kernel
theorem dL_build_251 : decode cL_build 251 = .ok (.iadd, 1) := by decide +kernel
theorem dL_build_252 : decode cL_build 252 = .ok (.aload_n 1, 1) := by decide +kernel
theorem dL_build_253 : decode cL_build 253 = .ok (.iload 6, 2) := by decide +kernel
theorem dL_build_255 : decode cL_build 255 = .ok (.bipush 7, 2) := by decide +kernel
theorem dL_build_257 : decode cL_build 257 = .ok (.iadd, 1) := by decide +kernel
theorem dL_build_258 : decode cL_build 258 = .ok (.iconst 2, 1) := by decide +kernel
theorem dL_build_259 : decode cL_build 259 = .ok (.invokestatic 41, 3) := by decide +kernel
theorem dL_build_262 : decode cL_build 262 = .ok (.iconst 2, 1) := by decide +kernel
theorem dL_build_263 : decode cL_build 263 = .ok (.invokestatic 64, 3) := by decide +kernel
theorem dL_build_266 : decode cL_build 266 = .ok (.invokevirtual 56, 3) := by decide +kernel
theorem dL_build_269 : decode cL_build 269 = .ok (.ldc 118, 2) := by decide +kernel
theorem dL_build_271 : decode cL_build 271 = .ok (.invokevirtual 56, 3) := by decide +kernel
theorem dL_build_274 : decode cL_build 274 = .ok (.aload_n 1, 1) := by decide +kernel
theorem dL_build_275 : decode cL_build 275 = .ok (.iload 6, 2) := by decide +kernel
theorem dL_build_277 : decode cL_build 277 = .ok (.bipush 8, 2) := by decide +kernel
theorem dL_build_279 : decode cL_build 279 = .ok (.iadd, 1) := by decide +kernel
theorem dL_build_280 : decode cL_build 280 = .ok (.invokestatic 120, 3) := by decide +kernel
theorem dL_build_283 : decode cL_build 283 = .ok (.invokevirtual 56, 3) := by decide +kernel
theorem dL_build_286 : decode cL_build 286 = .ok (.invokevirtual 48, 3) := by decide +kernel
theorem dL_build_289 : decode cL_build 289 = .ok (.invokestatic 107, 3) := by decide +kernel
theorem dL_build_292 : decode cL_build 292 = .ok (.pop, 1) := by decide +kernel
theorem dL_build_293 : decode cL_build 293 = .ok (.iinc 5 1, 3) := by decide +kernel
theorem dL_build_296 : decode cL_build 296 = .ok (.goto (-107), 3) := by decide +kernel
theorem dL_build_299 : decode cL_build 299 = .ok (.return_, 1) := by decide +kernel
theorem dL_size_0 : decode cL_size 0 = .ok (.aload_n 0, 1) := by decide +kernel
theorem dL_size_1 : decode cL_size 1 = .ok (.invokevirtual 124, 3) := by decide +kernel
theorem dL_size_4 : decode cL_size 4 = .ok (.ireturn, 1) := by decide +kernel
theorem dL_size_5 : decode cL_size 5 = .ok (.astore_n 1, 1) := by decide +kernel
theorem dL_size_6 : decode cL_size 6 = .ok (.iconst (-1), 1) := by decide +kernel
theorem dL_size_7 : decode cL_size 7 = .ok (.ireturn, 1) := by decide +kernel
theorem dL_word_0 : decode cL_word 0 = .ok (.new 38, 3) := by decide +kernel
theorem dL_word_3 : decode cL_word 3 = .ok (.dup, 1) := by decide +kernel
theorem dL_word_4 : decode cL_word 4 = .ok (.invokespecial 40, 3) := by decide +kernel
theorem dL_word_7 : decode cL_word 7 = .ok (.astore_n 1, 1) := by decide +kernel
theorem dL_word_8 : decode cL_word 8 = .ok (.iconst 0, 1) := by decide +kernel
theorem dL_word_9 : decode cL_word 9 = .ok (.istore_n 2, 1) := by decide +kernel
theorem dL_word_10 : decode cL_word 10 = .ok (.iload_n 2, 1) := by decide +kernel
theorem dL_word_11 : decode cL_word 11 = .ok (.aload_n 0, 1) := by decide +kernel
theorem dL_word_12 : decode cL_word 12 = .ok (.invokevirtual 129, 3) := by decide +kernel
theorem dL_word_15 : decode cL_word 15 = .ok (.if_icmp .ge 19, 3) := by decide +kernel
theorem dL_word_18 : decode cL_word 18 = .ok (.aload_n 1, 1) := by decide +kernel
theorem dL_word_19 : decode cL_word 19 = .ok (.aload_n 0, 1) := by decide +kernel
theorem dL_word_20 : decode cL_word 20 = .ok (.iload_n 2, 1) := by decide +kernel
theorem dL_word_21 : decode cL_word 21 = .ok (.invokevirtual 132, 3) := by decide +kernel
theorem dL_word_24 : decode cL_word 24 = .ok (.invokevirtual 45, 3) := by decide +kernel
theorem dL_word_27 : decode cL_word 27 = .ok (.pop, 1) := by decide +kernel
theorem dL_word_28 : decode cL_word 28 = .ok (.iinc 2 1, 3) := by decide +kernel
theorem dL_word_31 : decode cL_word 31 = .ok (.goto (-21), 3) := by decide +kernel
theorem dL_word_34 : decode cL_word 34 = .ok (.aload_n 1, 1) := by decide +kernel
theorem dL_word_35 : decode cL_word 35 = .ok (.invokevirtual 48, 3) := by decide +kernel
theorem dL_word_38 : decode cL_word 38 = .ok (.areturn, 1) := by decide +kernel
theorem dL_rank_0 : decode cL_rank 0 = .ok (.aload_n 0, 1) := by decide +kernel
theorem dL_rank_1 : decode cL_rank 1 = .ok (.invokevirtual 135, 3) := by decide +kernel
theorem dL_rank_4 : decode cL_rank 4 = .ok (.ireturn, 1) := by decide +kernel
theorem dL_rank_5 : decode cL_rank 5 = .ok (.astore_n 1, 1) := by decide +kernel
theorem dL_rank_6 : decode cL_rank 6 = .ok (.iconst (-1), 1) := by decide +kernel
theorem dL_rank_7 : decode cL_rank 7 = .ok (.ireturn, 1) := by decide +kernel
theorem dL_isOrdered_0 : decode cL_isOrdered 0 = .ok (.aload_n 0, 1) := by decide +kernel
theorem dL_isOrdered_1 : decode cL_isOrdered 1 = .ok (.invokevirtual 15, 3) := by decide +kernel
theorem dL_isOrdered_4 : decode cL_isOrdered 4 = .ok (.aload_n 1, 1) := by decide +kernel
theorem dL_isOrdered_5 : decode cL_isOrdered 5 = .ok (.invokevirtual 15, 3) := by decide +kernel
theorem dL_isOrdered_8 : decode cL_isOrdered 8 = .ok (.if_icmp .lt 22, 3) := by decide +kernel
theorem dL_isOrdered_11 : decode cL_isOrdered 11 = .ok (.aload_n 0, 1) := by decide +kernel
theorem dL_isOrdered_12 : decode cL_isOrdered 12 = .ok (.invokevirtual 15, 3) := by decide +kernel
theorem dL_isOrdered_15 : decode cL_isOrdered 15 = .ok (.aload_n 1, 1) := by decide +kernel
theorem dL_isOrdered_16 : decode cL_isOrdered 16 = .ok (.invokevirtual 15, 3) := by decide +kernel
theorem dL_isOrdered_19 : decode cL_isOrdered 19 = .ok (.if_icmp .ne 15, 3) := by decide +kernel
theorem dL_isOrdered_22 : decode cL_isOrdered 22 = .ok (.aload_n 0, 1) := by decide +kernel
theorem dL_isOrdered_23 : decode cL_isOrdered 23 = .ok (.aload_n 1, 1) := by decide +kernel
theorem dL_isOrdered_24 : decode cL_isOrdered 24 = .ok (.invokevirtual 140, 3) := by decide +kernel
theorem dL_isOrdered_27 : decode cL_isOrdered 27 = .ok (.ifCond .ge 7, 3) := by decide +kernel
theorem dL_isOrdered_30 : decode cL_isOrdered 30 = .ok (.iconst 1, 1) := by decide +kernel
theorem dL_isOrdered_31 : decode cL_isOrdered 31 = .ok (.goto 4, 3) := by decide +kernel
theorem dL_isOrdered_34 : decode cL_isOrdered 34 = .ok (.iconst 0, 1) := by decide +kernel
theorem dL_isOrdered_35 : decode cL_isOrdered 35 = .ok (.ireturn, 1) := by decide +kernel
theorem dL_areWords_0 : decode cL_areWords 0 = .ok (.ldc 144, 2) := by decide +kernel
theorem dL_areWords_2 : decode cL_areWords 2 = .ok (.astore 4, 2) := by decide +kernel
theorem dL_areWords_4 : decode cL_areWords 4 = .ok (.iconst 1, 1) := by decide +kernel
theorem dL_areWords_5 : decode cL_areWords 5 = .ok (.istore 5, 2) := by decide +kernel
theorem dL_areWords_7 : decode cL_areWords 7 = .ok (.iconst 0, 1) := by decide +kernel
theorem dL_areWords_8 : decode cL_areWords 8 = .ok (.istore 6, 2) := by decide +kernel
theorem dL_areWords_10 : decode cL_areWords 10 = .ok (.iload 6, 2) := by decide +kernel
theorem dL_areWords_12 : decode cL_areWords 12 = .ok (.iload_n 1, 1) := by decide +kernel
theorem dL_areWords_13 : decode cL_areWords 13 = .ok (.if_icmp .ge 188, 3) := by decide +kernel
theorem dL_areWords_16 : decode cL_areWords 16 = .ok (.iload 5, 2) := by decide +kernel
theorem dL_areWords_18 : decode cL_areWords 18 = .ok (.ifCond .eq 183, 3) := by decide +kernel
theorem dL_areWords_21 : decode cL_areWords 21 = .ok (.aload_n 0, 1) := by decide +kernel
theorem dL_areWords_22 : decode cL_areWords 22 = .ok (.iload 6, 2) := by decide +kernel
theorem dL_areWords_24 : decode cL_areWords 24 = .ok (.invokevirtual 146, 3) := by decide +kernel
theorem dL_areWords_27 : decode cL_areWords 27 = .ok (.aload_n 0, 1) := by decide +kernel
theorem dL_areWords_28 : decode cL_areWords 28 = .ok (.invokestatic 149, 3) := by decide +kernel
theorem dL_areWords_31 : decode cL_areWords 31 = .ok (.astore 7, 2) := by decide +kernel
theorem dL_areWords_33 : decode cL_areWords 33 = .ok (.aload_n 0, 1) := by decide +kernel
theorem dL_areWords_34 : decode cL_areWords 34 = .ok (.invokevirtual 153, 3) := by decide +kernel
theorem dL_areWords_37 : decode cL_areWords 37 = .ok (.ifCond .eq 39, 3) := by decide +kernel
theorem dL_areWords_40 : decode cL_areWords 40 = .ok (.aload_n 0, 1) := by decide +kernel
theorem dL_areWords_41 : decode cL_areWords 41 = .ok (.invokestatic 157, 3) := by decide +kernel
theorem dL_areWords_44 : decode cL_areWords 44 = .ok (.iload 6, 2) := by decide +kernel
theorem dL_areWords_46 : decode cL_areWords 46 = .ok (.if_icmp .ne 30, 3) := by decide +kernel
theorem dL_areWords_49 : decode cL_areWords 49 = .ok (.aload 4, 2) := by decide +kernel
theorem dL_areWords_51 : decode cL_areWords 51 = .ok (.aload 7, 2) := by decide +kernel
theorem dL_areWords_53 : decode cL_areWords 53 = .ok (.invokestatic 160, 3) := by decide +kernel
theorem dL_areWords_56 : decode cL_areWords 56 = .ok (.ifCond .eq 20, 3) := by decide +kernel
theorem dL_areWords_59 : decode cL_areWords 59 = .ok (.aload 7, 2) := by decide +kernel
theorem dL_areWords_61 : decode cL_areWords 61 = .ok (.invokevirtual 15, 3) := by decide +kernel
theorem dL_areWords_64 : decode cL_areWords 64 = .ok (.aload_n 0, 1) := by decide +kernel
theorem dL_areWords_65 : decode cL_areWords 65 = .ok (.iconst 3, 1) := by decide +kernel
theorem dL_areWords_66 : decode cL_areWords 66 = .ok (.invokevirtual 90, 3) := by decide +kernel
theorem dL_areWords_69 : decode cL_areWords 69 = .ok (.if_icmp .gt 7, 3) := by decide +kernel
theorem dL_areWords_72 : decode cL_areWords 72 = .ok (.iconst 1, 1) := by decide +kernel
theorem dL_areWords_73 : decode cL_areWords 73 = .ok (.goto 4, 3) := by decide +kernel
theorem dL_areWords_76 : decode cL_areWords 76 = .ok (.iconst 0, 1) := by decide +kernel
theorem dL_areWords_77 : decode cL_areWords 77 = .ok (.istore 5, 2) := by decide +kernel
theorem dL_areWords_79 : decode cL_areWords 79 = .ok (.aload_n 2, 1) := by decide +kernel
theorem dL_areWords_80 : decode cL_areWords 80 = .ok (.aload 7, 2) := by decide +kernel
theorem dL_areWords_82 : decode cL_areWords 82 = .ok (.invokevirtual 15, 3) := by decide +kernel
theorem dL_areWords_85 : decode cL_areWords 85 = .ok (.dup2, 1) := by decide +kernel
theorem dL_areWords_86 : decode cL_areWords 86 = .ok (.iaload, 1) := by decide +kernel
theorem dL_areWords_87 : decode cL_areWords 87 = .ok (.iconst 1, 1) := by decide +kernel
theorem dL_areWords_88 : decode cL_areWords 88 = .ok (.iadd, 1) := by decide +kernel
theorem dL_areWords_89 : decode cL_areWords 89 = .ok (.iastore, 1) := by decide +kernel
theorem dL_areWords_90 : decode cL_areWords 90 = .ok (.aload 7, 2) := by decide +kernel
theorem dL_areWords_92 : decode cL_areWords 92 = .ok (.astore 4, 2) := by decide +kernel
theorem dL_areWords_94 : decode cL_areWords 94 = .ok (.aload_n 0, 1) := by decide +kernel
theorem dL_areWords_95 : decode cL_areWords 95 = .ok (.invokevirtual 164, 3) := by decide +kernel
theorem dL_areWords_98 : decode cL_areWords 98 = .ok (.istore 8, 2) := by decide +kernel
theorem dL_areWords_100 : decode cL_areWords 100 = .ok (.iconst 0, 1) := by decide +kernel
theorem dL_areWords_101 : decode cL_areWords 101 = .ok (.istore 9, 2) := by decide +kernel
theorem dL_areWords_103 : decode cL_areWords 103 = .ok (.iload 9, 2) := by decide +kernel
theorem dL_areWords_105 : decode cL_areWords 105 = .ok (.iload 8, 2) := by decide +kernel
theorem dL_areWords_107 : decode cL_areWords 107 = .ok (.if_icmp .ge 56, 3) := by decide +kernel
theorem dL_areWords_110 : decode cL_areWords 110 = .ok (.iload 9, 2) := by decide +kernel
theorem dL_areWords_112 : decode cL_areWords 112 = .ok (.bipush 12, 2) := by decide +kernel
theorem dL_areWords_114 : decode cL_areWords 114 = .ok (.if_icmp .ge 49, 3) := by decide +kernel
theorem dL_areWords_117 : decode cL_areWords 117 = .ok (.aload_n 0, 1) := by decide +kernel
theorem dL_areWords_118 : decode cL_areWords 118 = .ok (.iload 6, 2) := by decide +kernel
theorem dL_areWords_120 : decode cL_areWords 120 = .ok (.invokevirtual 146, 3) := by decide +kernel
theorem dL_areWords_123 : decode cL_areWords 123 = .ok (.aload_n 0, 1) := by decide +kernel
theorem dL_areWords_124 : decode cL_areWords 124 = .ok (.iload 9, 2) := by decide +kernel
theorem dL_areWords_126 : decode cL_areWords 126 = .ok (.invokevirtual 167, 3) := by decide +kernel
theorem dL_areWords_129 : decode cL_areWords 129 = .ok (.istore 10, 2) := by decide +kernel
theorem dL_areWords_131 : decode cL_areWords 131 = .ok (.aload_n 3, 1) := by decide +kernel
theorem dL_areWords_132 : decode cL_areWords 132 = .ok (.iload 10, 2) := by decide +kernel
theorem dL_areWords_134 : decode cL_areWords 134 = .ok (.iconst 1, 1) := by decide +kernel
theorem dL_areWords_135 : decode cL_areWords 135 = .ok (.bastore, 1) := by decide +kernel
theorem dL_areWords_136 : decode cL_areWords 136 = .ok (.iload 5, 2) := by decide +kernel
theorem dL_areWords_138 : decode cL_areWords 138 = .ok (.ifCond .eq 16, 3) := by decide +kernel
theorem dL_areWords_141 : decode cL_areWords 141 = .ok (.aload_n 0, 1) := by decide +kernel
theorem dL_areWords_142 : decode cL_areWords 142 = .ok (.invokestatic 157, 3) := by decide +kernel
theorem dL_areWords_145 : decode cL_areWords 145 = .ok (.iload 6, 2) := by decide +kernel
theorem dL_areWords_147 : decode cL_areWords 147 = .ok (.if_icmp .le 7, 3) := by decide +kernel
theorem dL_areWords_150 : decode cL_areWords 150 = .ok (.iconst 1, 1) := by decide +kernel
theorem dL_areWords_151 : decode cL_areWords 151 = .ok (.goto 4, 3) := by decide +kernel
theorem dL_areWords_154 : decode cL_areWords 154 = .ok (.iconst 0, 1) := by decide +kernel
theorem dL_areWords_155 : decode cL_areWords 155 = .ok (.istore 5, 2) := by decide +kernel
theorem dL_areWords_157 : decode cL_areWords 157 = .ok (.iinc 9 1, 3) := by decide +kernel
theorem dL_areWords_160 : decode cL_areWords 160 = .ok (.goto (-57), 3) := by decide +kernel
theorem dL_areWords_163 : decode cL_areWords 163 = .ok (.bipush 12, 2) := by decide +kernel
theorem dL_areWords_165 : decode cL_areWords 165 = .ok (.istore 9, 2) := by decide +kernel
theorem dL_areWords_167 : decode cL_areWords 167 = .ok (.iload 9, 2) := by decide +kernel
theorem dL_areWords_169 : decode cL_areWords 169 = .ok (.iload 8, 2) := by decide +kernel
theorem dL_areWords_171 : decode cL_areWords 171 = .ok (.if_icmp .ge 24, 3) := by decide +kernel
theorem dL_areWords_174 : decode cL_areWords 174 = .ok (.aload_n 0, 1) := by decide +kernel
theorem dL_areWords_175 : decode cL_areWords 175 = .ok (.iload 6, 2) := by decide +kernel
theorem dL_areWords_177 : decode cL_areWords 177 = .ok (.invokevirtual 146, 3) := by decide +kernel
theorem dL_areWords_180 : decode cL_areWords 180 = .ok (.aload_n 3, 1) := by decide +kernel
theorem dL_areWords_181 : decode cL_areWords 181 = .ok (.aload_n 0, 1) := by decide +kernel
theorem dL_areWords_182 : decode cL_areWords 182 = .ok (.iload 9, 2) := by decide +kernel
theorem dL_areWords_184 : decode cL_areWords 184 = .ok (.invokevirtual 167, 3) := by decide +kernel
theorem dL_areWords_187 : decode cL_areWords 187 = .ok (.iconst 1, 1) := by decide +kernel
theorem dL_areWords_188 : decode cL_areWords 188 = .ok (.bastore, 1) := by decide +kernel
theorem dL_areWords_189 : decode cL_areWords 189 = .ok (.iinc 9 1, 3) := by decide +kernel
theorem dL_areWords_192 : decode cL_areWords 192 = .ok (.goto (-25), 3) := by decide +kernel
theorem dL_areWords_195 : decode cL_areWords 195 = .ok (.iinc 6 1, 3) := by decide +kernel
theorem dL_areWords_198 : decode cL_areWords 198 = .ok (.goto (-188), 3) := by decide +kernel
theorem dL_areWords_201 : decode cL_areWords 201 = .ok (.iload 5, 2) := by decide +kernel
theorem dL_areWords_203 : decode cL_areWords 203 = .ok (.ireturn, 1) := by decide +kernel
theorem dL_take_0 : decode cL_take 0 = .ok (.aload_n 0, 1) := by decide +kernel
theorem dL_take_1 : decode cL_take 1 = .ok (.iload_n 1, 1) := by decide +kernel
theorem dL_take_2 : decode cL_take 2 = .ok (.invokevirtual 146, 3) := by decide +kernel
theorem dL_take_5 : decode cL_take 5 = .ok (.iconst 0, 1) := by decide +kernel
theorem dL_take_6 : decode cL_take 6 = .ok (.ireturn, 1) := by decide +kernel
theorem dL_take_7 : decode cL_take 7 = .ok (.astore_n 2, 1) := by decide +kernel
theorem dL_take_8 : decode cL_take 8 = .ok (.iconst 1, 1) := by decide +kernel
theorem dL_take_9 : decode cL_take 9 = .ok (.ireturn, 1) := by decide +kernel
theorem dL_areSizes_0 : decode cL_areSizes 0 = .ok (.aload_n 0, 1) := by decide +kernel
theorem dL_areSizes_1 : decode cL_areSizes 1 = .ok (.iconst 3, 1) := by decide +kernel
theorem dL_areSizes_2 : decode cL_areSizes 2 = .ok (.invokevirtual 90, 3) := by decide +kernel
theorem dL_areSizes_5 : decode cL_areSizes 5 = .ok (.istore_n 3, 1) := by decide +kernel
theorem dL_areSizes_6 : decode cL_areSizes 6 = .ok (.iconst 0, 1) := by decide +kernel
theorem dL_areSizes_7 : decode cL_areSizes 7 = .ok (.istore 4, 2) := by decide +kernel
theorem dL_areSizes_9 : decode cL_areSizes 9 = .ok (.iconst 1, 1) := by decide +kernel
theorem dL_areSizes_10 : decode cL_areSizes 10 = .ok (.istore 5, 2) := by decide +kernel
theorem dL_areSizes_12 : decode cL_areSizes 12 = .ok (.aload_n 0, 1) := by decide +kernel
theorem dL_areSizes_13 : decode cL_areSizes 13 = .ok (.iconst 0, 1) := by decide +kernel
theorem dL_areSizes_14 : decode cL_areSizes 14 = .ok (.iconst 2, 1) := by decide +kernel
theorem dL_areSizes_15 : decode cL_areSizes 15 = .ok (.bipush 10, 2) := by decide +kernel
theorem dL_areSizes_17 : decode cL_areSizes 17 = .ok (.invokevirtual 172, 3) := by decide +kernel
theorem dL_areSizes_20 : decode cL_areSizes 20 = .ok (.iconst 0, 1) := by decide +kernel
theorem dL_areSizes_21 : decode cL_areSizes 21 = .ok (.istore 6, 2) := by decide +kernel
theorem dL_areSizes_23 : decode cL_areSizes 23 = .ok (.iload 6, 2) := by decide +kernel
theorem dL_areSizes_25 : decode cL_areSizes 25 = .ok (.iload_n 3, 1) := by decide +kernel
theorem dL_areSizes_26 : decode cL_areSizes 26 = .ok (.if_icmp .gt 101, 3) := by decide +kernel
theorem dL_areSizes_29 : decode cL_areSizes 29 = .ok (.iload 4, 2) := by decide +kernel
theorem dL_areSizes_31 : decode cL_areSizes 31 = .ok (.aload_n 0, 1) := by decide +kernel
theorem dL_areSizes_32 : decode cL_areSizes 32 = .ok (.iload 6, 2) := by decide +kernel
theorem dL_areSizes_34 : decode cL_areSizes 34 = .ok (.invokevirtual 176, 3) := by decide +kernel
theorem dL_areSizes_37 : decode cL_areSizes 37 = .ok (.iadd, 1) := by decide +kernel
theorem dL_areSizes_38 : decode cL_areSizes 38 = .ok (.istore 4, 2) := by decide +kernel
theorem dL_areSizes_40 : decode cL_areSizes 40 = .ok (.dconst 1, 1) := by decide +kernel
theorem dL_areSizes_41 : decode cL_areSizes 41 = .ok (.dstore 7, 2) := by decide +kernel
theorem dL_areSizes_43 : decode cL_areSizes 43 = .ok (.iconst 0, 1) := by decide +kernel
theorem dL_areSizes_44 : decode cL_areSizes 44 = .ok (.istore 9, 2) := by decide +kernel
theorem dL_areSizes_46 : decode cL_areSizes 46 = .ok (.iload 9, 2) := by decide +kernel
theorem dL_areSizes_48 : decode cL_areSizes 48 = .ok (.iload 6, 2) := by decide +kernel
theorem dL_areSizes_50 : decode cL_areSizes 50 = .ok (.if_icmp .ge 17, 3) := by decide +kernel
theorem dL_areSizes_53 : decode cL_areSizes 53 = .ok (.dload 7, 2) := by decide +kernel
theorem dL_areSizes_55 : decode cL_areSizes 55 = .ok (.ldc2_w 179, 3) := by decide +kernel
theorem dL_areSizes_58 : decode cL_areSizes 58 = .ok (.dmul, 1) := by decide +kernel
theorem dL_areSizes_59 : decode cL_areSizes 59 = .ok (.dstore 7, 2) := by decide +kernel
theorem dL_areSizes_61 : decode cL_areSizes 61 = .ok (.iinc 9 1, 3) := by decide +kernel
theorem dL_areSizes_64 : decode cL_areSizes 64 = .ok (.goto (-18), 3) := by decide +kernel
theorem dL_areSizes_67 : decode cL_areSizes 67 = .ok (.iload 5, 2) := by decide +kernel
theorem dL_areSizes_69 : decode cL_areSizes 69 = .ok (.ifCond .eq 38, 3) := by decide +kernel
theorem dL_areSizes_72 : decode cL_areSizes 72 = .ok (.aload_n 0, 1) := by decide +kernel
theorem dL_areSizes_73 : decode cL_areSizes 73 = .ok (.iload 6, 2) := by decide +kernel
theorem dL_areSizes_75 : decode cL_areSizes 75 = .ok (.invokevirtual 176, 3) := by decide +kernel
theorem dL_areSizes_78 : decode cL_areSizes 78 = .ok (.aload_n 2, 1) := by decide +kernel
theorem dL_areSizes_79 : decode cL_areSizes 79 = .ok (.iload 6, 2) := by decide +kernel
theorem dL_areSizes_81 : decode cL_areSizes 81 = .ok (.iaload, 1) := by decide +kernel
theorem dL_areSizes_82 : decode cL_areSizes 82 = .ok (.if_icmp .ne 25, 3) := by decide +kernel
theorem dL_areSizes_85 : decode cL_areSizes 85 = .ok (.aload_n 0, 1) := by decide +kernel
theorem dL_areSizes_86 : decode cL_areSizes 86 = .ok (.iload 6, 2) := by decide +kernel
theorem dL_areSizes_88 : decode cL_areSizes 88 = .ok (.invokevirtual 181, 3) := by decide +kernel
theorem dL_areSizes_91 : decode cL_areSizes 91 = .ok (.aload_n 2, 1) := by decide +kernel
theorem dL_areSizes_92 : decode cL_areSizes 92 = .ok (.iload 6, 2) := by decide +kernel
theorem dL_areSizes_94 : decode cL_areSizes 94 = .ok (.iaload, 1) := by decide +kernel
theorem dL_areSizes_95 : decode cL_areSizes 95 = .ok (.i2d, 1) := by decide +kernel
theorem dL_areSizes_96 : decode cL_areSizes 96 = .ok (.dload 7, 2) := by decide +kernel
theorem dL_areSizes_98 : decode cL_areSizes 98 = .ok (.ddiv, 1) := by decide +kernel
theorem dL_areSizes_99 : decode cL_areSizes 99 = .ok (.dcmp .l, 1) := by decide +kernel
theorem dL_areSizes_100 : decode cL_areSizes 100 = .ok (.ifCond .ne 7, 3) := by decide +kernel
theorem dL_areSizes_103 : decode cL_areSizes 103 = .ok (.iconst 1, 1) := by decide +kernel
theorem dL_areSizes_104 : decode cL_areSizes 104 = .ok (.goto 4, 3) := by decide +kernel
theorem dL_areSizes_107 : decode cL_areSizes 107 = .ok (.iconst 0, 1) := by decide +kernel
theorem dL_areSizes_108 : decode cL_areSizes 108 = .ok (.istore 5, 2) := by decide +kernel
theorem dL_areSizes_110 : decode cL_areSizes 110 = .ok (.aload_n 0, 1) := by decide +kernel
theorem dL_areSizes_111 : decode cL_areSizes 111 = .ok (.iconst 0, 1) := by decide +kernel
theorem dL_areSizes_112 : decode cL_areSizes 112 = .ok (.iload 6, 2) := by decide +kernel
theorem dL_areSizes_114 : decode cL_areSizes 114 = .ok (.aload_n 2, 1) := by decide +kernel
theorem dL_areSizes_115 : decode cL_areSizes 115 = .ok (.iload 6, 2) := by decide +kernel
theorem dL_areSizes_117 : decode cL_areSizes 117 = .ok (.iaload, 1) := by decide +kernel
theorem dL_areSizes_118 : decode cL_areSizes 118 = .ok (.invokevirtual 185, 3) := by decide +kernel
theorem dL_areSizes_121 : decode cL_areSizes 121 = .ok (.iinc 6 1, 3) := by decide +kernel
theorem dL_areSizes_124 : decode cL_areSizes 124 = .ok (.goto (-101), 3) := by decide +kernel
theorem dL_areSizes_127 : decode cL_areSizes 127 = .ok (.iload 5, 2) := by decide +kernel
theorem dL_areSizes_129 : decode cL_areSizes 129 = .ok (.ifCond .eq 22, 3) := by decide +kernel
theorem dL_areSizes_132 : decode cL_areSizes 132 = .ok (.aload_n 0, 1) := by decide +kernel
theorem dL_areSizes_133 : decode cL_areSizes 133 = .ok (.iconst 0, 1) := by decide +kernel
theorem dL_areSizes_134 : decode cL_areSizes 134 = .ok (.invokevirtual 188, 3) := by decide +kernel
theorem dL_areSizes_137 : decode cL_areSizes 137 = .ok (.iconst (-1), 1) := by decide +kernel
theorem dL_areSizes_138 : decode cL_areSizes 138 = .ok (.if_icmp .ne 13, 3) := by decide +kernel
theorem dL_areSizes_141 : decode cL_areSizes 141 = .ok (.iload 4, 2) := by decide +kernel
theorem dL_areSizes_143 : decode cL_areSizes 143 = .ok (.iload_n 1, 1) := by decide +kernel
theorem dL_areSizes_144 : decode cL_areSizes 144 = .ok (.if_icmp .ne 7, 3) := by decide +kernel
theorem dL_areSizes_147 : decode cL_areSizes 147 = .ok (.iconst 1, 1) := by decide +kernel
theorem dL_areSizes_148 : decode cL_areSizes 148 = .ok (.goto 4, 3) := by decide +kernel
theorem dL_areSizes_151 : decode cL_areSizes 151 = .ok (.iconst 0, 1) := by decide +kernel
theorem dL_areSizes_152 : decode cL_areSizes 152 = .ok (.istore 5, 2) := by decide +kernel
theorem dL_areSizes_154 : decode cL_areSizes 154 = .ok (.aload_n 0, 1) := by decide +kernel
theorem dL_areSizes_155 : decode cL_areSizes 155 = .ok (.iconst 0, 1) := by decide +kernel
theorem dL_areSizes_156 : decode cL_areSizes 156 = .ok (.iload_n 3, 1) := by decide +kernel
theorem dL_areSizes_157 : decode cL_areSizes 157 = .ok (.aload_n 2, 1) := by decide +kernel
theorem dL_areSizes_158 : decode cL_areSizes 158 = .ok (.iload_n 3, 1) := by decide +kernel
theorem dL_areSizes_159 : decode cL_areSizes 159 = .ok (.iaload, 1) := by decide +kernel
theorem dL_areSizes_160 : decode cL_areSizes 160 = .ok (.iconst 1, 1) := by decide +kernel
theorem dL_areSizes_161 : decode cL_areSizes 161 = .ok (.iadd, 1) := by decide +kernel
theorem dL_areSizes_162 : decode cL_areSizes 162 = .ok (.invokevirtual 185, 3) := by decide +kernel
theorem dL_areSizes_165 : decode cL_areSizes 165 = .ok (.iload 5, 2) := by decide +kernel
theorem dL_areSizes_167 : decode cL_areSizes 167 = .ok (.ifCond .eq 16, 3) := by decide +kernel
theorem dL_areSizes_170 : decode cL_areSizes 170 = .ok (.aload_n 0, 1) := by decide +kernel
theorem dL_areSizes_171 : decode cL_areSizes 171 = .ok (.iconst 0, 1) := by decide +kernel
theorem dL_areSizes_172 : decode cL_areSizes 172 = .ok (.invokevirtual 188, 3) := by decide +kernel
theorem dL_areSizes_175 : decode cL_areSizes 175 = .ok (.iload_n 3, 1) := by decide +kernel
theorem dL_areSizes_176 : decode cL_areSizes 176 = .ok (.if_icmp .ne 7, 3) := by decide +kernel
theorem dL_areSizes_179 : decode cL_areSizes 179 = .ok (.iconst 1, 1) := by decide +kernel
theorem dL_areSizes_180 : decode cL_areSizes 180 = .ok (.goto 4, 3) := by decide +kernel
theorem dL_areSizes_183 : decode cL_areSizes 183 = .ok (.iconst 0, 1) := by decide +kernel
theorem dL_areSizes_184 : decode cL_areSizes 184 = .ok (.ireturn, 1) := by decide +kernel
theorem dL_areContexts_0 : decode cL_areContexts 0 = .ok (.aload_n 0, 1) := by decide +kernel
theorem dL_areContexts_1 : decode cL_areContexts 1 = .ok (.iconst 1, 1) := by decide +kernel
theorem dL_areContexts_2 : decode cL_areContexts 2 = .ok (.invokevirtual 90, 3) := by decide +kernel
theorem dL_areContexts_5 : decode cL_areContexts 5 = .ok (.istore 5, 2) := by decide +kernel
theorem dL_areContexts_7 : decode cL_areContexts 7 = .ok (.iconst 1, 1) := by decide +kernel
theorem dL_areContexts_8 : decode cL_areContexts 8 = .ok (.istore 6, 2) := by decide +kernel
theorem dL_areContexts_10 : decode cL_areContexts 10 = .ok (.aload_n 0, 1) := by decide +kernel
theorem dL_areContexts_11 : decode cL_areContexts 11 = .ok (.invokevirtual 191, 3) := by decide +kernel
theorem dL_areContexts_14 : decode cL_areContexts 14 = .ok (.istore 7, 2) := by decide +kernel
theorem dL_areContexts_16 : decode cL_areContexts 16 = .ok (.iload 6, 2) := by decide +kernel
theorem dL_areContexts_18 : decode cL_areContexts 18 = .ok (.ifCond .eq 16, 3) := by decide +kernel
theorem dL_areContexts_21 : decode cL_areContexts 21 = .ok (.iload 7, 2) := by decide +kernel
theorem dL_areContexts_23 : decode cL_areContexts 23 = .ok (.iconst 1, 1) := by decide +kernel
theorem dL_areContexts_24 : decode cL_areContexts 24 = .ok (.iload 5, 2) := by decide +kernel
theorem dL_areContexts_26 : decode cL_areContexts 26 = .ok (.ishl, 1) := by decide +kernel
theorem dL_areContexts_27 : decode cL_areContexts 27 = .ok (.if_icmp .ge 7, 3) := by decide +kernel
theorem dL_areContexts_30 : decode cL_areContexts 30 = .ok (.iconst 1, 1) := by decide +kernel
theorem dL_areContexts_31 : decode cL_areContexts 31 = .ok (.goto 4, 3) := by decide +kernel
theorem dL_areContexts_34 : decode cL_areContexts 34 = .ok (.iconst 0, 1) := by decide +kernel
theorem dL_areContexts_35 : decode cL_areContexts 35 = .ok (.istore 6, 2) := by decide +kernel
theorem dL_areContexts_37 : decode cL_areContexts 37 = .ok (.iconst 0, 1) := by decide +kernel
theorem dL_areContexts_38 : decode cL_areContexts 38 = .ok (.istore 8, 2) := by decide +kernel
theorem dL_areContexts_40 : decode cL_areContexts 40 = .ok (.iload 8, 2) := by decide +kernel
theorem dL_areContexts_42 : decode cL_areContexts 42 = .ok (.iload 5, 2) := by decide +kernel
theorem dL_areContexts_44 : decode cL_areContexts 44 = .ok (.if_icmp .ge 71, 3) := by decide +kernel
theorem dL_areContexts_47 : decode cL_areContexts 47 = .ok (.iload 6, 2) := by decide +kernel
theorem dL_areContexts_49 : decode cL_areContexts 49 = .ok (.ifCond .eq 57, 3) := by decide +kernel
theorem dL_areContexts_52 : decode cL_areContexts 52 = .ok (.aload_n 0, 1) := by decide +kernel
theorem dL_areContexts_53 : decode cL_areContexts 53 = .ok (.iload 8, 2) := by decide +kernel
theorem dL_areContexts_55 : decode cL_areContexts 55 = .ok (.invokevirtual 194, 3) := by decide +kernel
theorem dL_areContexts_58 : decode cL_areContexts 58 = .ok (.aload 4, 2) := by decide +kernel
theorem dL_areContexts_60 : decode cL_areContexts 60 = .ok (.iload 8, 2) := by decide +kernel
theorem dL_areContexts_62 : decode cL_areContexts 62 = .ok (.baload, 1) := by decide +kernel
theorem dL_areContexts_63 : decode cL_areContexts 63 = .ok (.if_icmp .ne 43, 3) := by decide +kernel
theorem dL_areContexts_66 : decode cL_areContexts 66 = .ok (.aload 4, 2) := by decide +kernel
theorem dL_areContexts_68 : decode cL_areContexts 68 = .ok (.iload 8, 2) := by decide +kernel
theorem dL_areContexts_70 : decode cL_areContexts 70 = .ok (.baload, 1) := by decide +kernel
theorem dL_areContexts_71 : decode cL_areContexts 71 = .ok (.ifCond .ne 12, 3) := by decide +kernel
theorem dL_areContexts_74 : decode cL_areContexts 74 = .ok (.aload_n 0, 1) := by decide +kernel
theorem dL_areContexts_75 : decode cL_areContexts 75 = .ok (.iload 8, 2) := by decide +kernel
theorem dL_areContexts_77 : decode cL_areContexts 77 = .ok (.invokevirtual 198, 3) := by decide +kernel
theorem dL_areContexts_80 : decode cL_areContexts 80 = .ok (.ifCond .eq 26, 3) := by decide +kernel
theorem dL_areContexts_83 : decode cL_areContexts 83 = .ok (.aload_n 0, 1) := by decide +kernel
theorem dL_areContexts_84 : decode cL_areContexts 84 = .ok (.iload 8, 2) := by decide +kernel
theorem dL_areContexts_86 : decode cL_areContexts 86 = .ok (.invokevirtual 198, 3) := by decide +kernel
theorem dL_areContexts_89 : decode cL_areContexts 89 = .ok (.ifCond .eq 13, 3) := by decide +kernel
theorem dL_areContexts_92 : decode cL_areContexts 92 = .ok (.iload 7, 2) := by decide +kernel
theorem dL_areContexts_94 : decode cL_areContexts 94 = .ok (.invokestatic 201, 3) := by decide +kernel
theorem dL_areContexts_97 : decode cL_areContexts 97 = .ok (.iload 5, 2) := by decide +kernel
theorem dL_areContexts_99 : decode cL_areContexts 99 = .ok (.if_icmp .ge 7, 3) := by decide +kernel
theorem dL_areContexts_102 : decode cL_areContexts 102 = .ok (.iconst 1, 1) := by decide +kernel
theorem dL_areContexts_103 : decode cL_areContexts 103 = .ok (.goto 4, 3) := by decide +kernel
theorem dL_areContexts_106 : decode cL_areContexts 106 = .ok (.iconst 0, 1) := by decide +kernel
theorem dL_areContexts_107 : decode cL_areContexts 107 = .ok (.istore 6, 2) := by decide +kernel
theorem dL_areContexts_109 : decode cL_areContexts 109 = .ok (.iinc 8 1, 3) := by decide +kernel
theorem dL_areContexts_112 : decode cL_areContexts 112 = .ok (.goto (-72), 3) := by decide +kernel
theorem dL_areContexts_115 : decode cL_areContexts 115 = .ok (.aload_n 0, 1) := by decide +kernel
theorem dL_areContexts_116 : decode cL_areContexts 116 = .ok (.invokevirtual 206, 3) := by decide +kernel
theorem dL_areContexts_119 : decode cL_areContexts 119 = .ok (.iload 5, 2) := by decide +kernel
theorem dL_areContexts_121 : decode cL_areContexts 121 = .ok (.iconst 1, 1) := by decide +kernel
theorem dL_areContexts_122 : decode cL_areContexts 122 = .ok (.isub, 1) := by decide +kernel
theorem dL_areContexts_123 : decode cL_areContexts 123 = .ok (.istore 8, 2) := by decide +kernel
theorem dL_areContexts_125 : decode cL_areContexts 125 = .ok (.iload 8, 2) := by decide +kernel
theorem dL_areContexts_127 : decode cL_areContexts 127 = .ok (.ifCond .lt 65, 3) := by decide +kernel
theorem dL_areContexts_130 : decode cL_areContexts 130 = .ok (.aload_n 0, 1) := by decide +kernel
theorem dL_areContexts_131 : decode cL_areContexts 131 = .ok (.iload 8, 2) := by decide +kernel
theorem dL_areContexts_133 : decode cL_areContexts 133 = .ok (.invokevirtual 198, 3) := by decide +kernel
theorem dL_areContexts_136 : decode cL_areContexts 136 = .ok (.istore 9, 2) := by decide +kernel
theorem dL_areContexts_138 : decode cL_areContexts 138 = .ok (.aload_n 0, 1) := by decide +kernel
theorem dL_areContexts_139 : decode cL_areContexts 139 = .ok (.iload 8, 2) := by decide +kernel
theorem dL_areContexts_141 : decode cL_areContexts 141 = .ok (.invokevirtual 98, 3) := by decide +kernel
theorem dL_areContexts_144 : decode cL_areContexts 144 = .ok (.iload 6, 2) := by decide +kernel
theorem dL_areContexts_146 : decode cL_areContexts 146 = .ok (.ifCond .eq 33, 3) := by decide +kernel
theorem dL_areContexts_149 : decode cL_areContexts 149 = .ok (.aload_n 0, 1) := by decide +kernel
theorem dL_areContexts_150 : decode cL_areContexts 150 = .ok (.invokestatic 209, 3) := by decide +kernel
theorem dL_areContexts_153 : decode cL_areContexts 153 = .ok (.iload_n 3, 1) := by decide +kernel
theorem dL_areContexts_154 : decode cL_areContexts 154 = .ok (.if_icmp .ne 7, 3) := by decide +kernel
theorem dL_areContexts_157 : decode cL_areContexts 157 = .ok (.iconst 1, 1) := by decide +kernel
theorem dL_areContexts_158 : decode cL_areContexts 158 = .ok (.goto 4, 3) := by decide +kernel
theorem dL_areContexts_161 : decode cL_areContexts 161 = .ok (.iconst 0, 1) := by decide +kernel
theorem dL_areContexts_162 : decode cL_areContexts 162 = .ok (.iload 9, 2) := by decide +kernel
theorem dL_areContexts_164 : decode cL_areContexts 164 = .ok (.if_icmp .ne 15, 3) := by decide +kernel
theorem dL_areContexts_167 : decode cL_areContexts 167 = .ok (.aload_n 0, 1) := by decide +kernel
theorem dL_areContexts_168 : decode cL_areContexts 168 = .ok (.invokestatic 209, 3) := by decide +kernel
theorem dL_areContexts_171 : decode cL_areContexts 171 = .ok (.iload_n 3, 1) := by decide +kernel
theorem dL_areContexts_172 : decode cL_areContexts 172 = .ok (.if_icmp .gt 7, 3) := by decide +kernel
theorem dL_areContexts_175 : decode cL_areContexts 175 = .ok (.iconst 1, 1) := by decide +kernel
theorem dL_areContexts_176 : decode cL_areContexts 176 = .ok (.goto 4, 3) := by decide +kernel
theorem dL_areContexts_179 : decode cL_areContexts 179 = .ok (.iconst 0, 1) := by decide +kernel
theorem dL_areContexts_180 : decode cL_areContexts 180 = .ok (.istore 6, 2) := by decide +kernel
theorem dL_areContexts_182 : decode cL_areContexts 182 = .ok (.aload_n 0, 1) := by decide +kernel
theorem dL_areContexts_183 : decode cL_areContexts 183 = .ok (.invokevirtual 211, 3) := by decide +kernel
theorem dL_areContexts_186 : decode cL_areContexts 186 = .ok (.iinc 8 (-1), 3) := by decide +kernel
theorem dL_areContexts_189 : decode cL_areContexts 189 = .ok (.goto (-64), 3) := by decide +kernel
theorem dL_areContexts_192 : decode cL_areContexts 192 = .ok (.iload 5, 2) := by decide +kernel
theorem dL_areContexts_194 : decode cL_areContexts 194 = .ok (.iconst 1, 1) := by decide +kernel
theorem dL_areContexts_195 : decode cL_areContexts 195 = .ok (.isub, 1) := by decide +kernel
theorem dL_areContexts_196 : decode cL_areContexts 196 = .ok (.istore 8, 2) := by decide +kernel
theorem dL_areContexts_198 : decode cL_areContexts 198 = .ok (.iload 8, 2) := by decide +kernel
theorem dL_areContexts_200 : decode cL_areContexts 200 = .ok (.ifCond .lt 25, 3) := by decide +kernel
theorem dL_areContexts_203 : decode cL_areContexts 203 = .ok (.iload 7, 2) := by decide +kernel
theorem dL_areContexts_205 : decode cL_areContexts 205 = .ok (.iload 8, 2) := by decide +kernel
theorem dL_areContexts_207 : decode cL_areContexts 207 = .ok (.ishr, 1) := by decide +kernel
theorem dL_areContexts_208 : decode cL_areContexts 208 = .ok (.iconst 1, 1) := by decide +kernel
theorem dL_areContexts_209 : decode cL_areContexts 209 = .ok (.iand, 1) := by decide +kernel
theorem dL_areContexts_210 : decode cL_areContexts 210 = .ok (.ifCond .ne 9, 3) := by decide +kernel
theorem dL_areContexts_213 : decode cL_areContexts 213 = .ok (.aload_n 0, 1) := by decide +kernel
theorem dL_areContexts_214 : decode cL_areContexts 214 = .ok (.iload 8, 2) := by decide +kernel
theorem dL_areContexts_216 : decode cL_areContexts 216 = .ok (.invokevirtual 98, 3) := by decide +kernel
theorem dL_areContexts_219 : decode cL_areContexts 219 = .ok (.iinc 8 (-1), 3) := by decide +kernel
theorem dL_areContexts_222 : decode cL_areContexts 222 = .ok (.goto (-24), 3) := by decide +kernel
theorem dL_areContexts_225 : decode cL_areContexts 225 = .ok (.iload 6, 2) := by decide +kernel
theorem dL_areContexts_227 : decode cL_areContexts 227 = .ok (.ifCond .eq 15, 3) := by decide +kernel
theorem dL_areContexts_230 : decode cL_areContexts 230 = .ok (.aload_n 0, 1) := by decide +kernel
theorem dL_areContexts_231 : decode cL_areContexts 231 = .ok (.invokestatic 209, 3) := by decide +kernel
theorem dL_areContexts_234 : decode cL_areContexts 234 = .ok (.iload_n 3, 1) := by decide +kernel
theorem dL_areContexts_235 : decode cL_areContexts 235 = .ok (.if_icmp .ne 7, 3) := by decide +kernel
theorem dL_areContexts_238 : decode cL_areContexts 238 = .ok (.iconst 1, 1) := by decide +kernel
theorem dL_areContexts_239 : decode cL_areContexts 239 = .ok (.goto 4, 3) := by decide +kernel
theorem dL_areContexts_242 : decode cL_areContexts 242 = .ok (.iconst 0, 1) := by decide +kernel
theorem dL_areContexts_243 : decode cL_areContexts 243 = .ok (.istore 6, 2) := by decide +kernel
theorem dL_areContexts_245 : decode cL_areContexts 245 = .ok (.aload_n 0, 1) := by decide +kernel
theorem dL_areContexts_246 : decode cL_areContexts 246 = .ok (.invokevirtual 211, 3) := by decide +kernel
theorem dL_areContexts_249 : decode cL_areContexts 249 = .ok (.iload 6, 2) := by decide +kernel
theorem dL_areContexts_251 : decode cL_areContexts 251 = .ok (.ireturn, 1) := by decide +kernel
theorem dL_areFollowing_0 : decode cL_areFollowing 0 = .ok (.aload_n 0, 1) := by decide +kernel
theorem dL_areFollowing_1 : decode cL_areFollowing 1 = .ok (.iconst 1, 1) := by decide +kernel
theorem dL_areFollowing_2 : decode cL_areFollowing 2 = .ok (.invokevirtual 90, 3) := by decide +kernel
theorem dL_areFollowing_5 : decode cL_areFollowing 5 = .ok (.istore_n 2, 1) := by decide +kernel
theorem dL_areFollowing_6 : decode cL_areFollowing 6 = .ok (.bipush 25, 2) := by decide +kernel
theorem dL_areFollowing_8 : decode cL_areFollowing 8 = .ok (.newarray .boolean, 2) := by decide +kernel
theorem dL_areFollowing_10 : decode cL_areFollowing 10 = .ok (.astore_n 3, 1) := by decide +kernel
theorem dL_areFollowing_11 : decode cL_areFollowing 11 = .ok (.iconst 0, 1) := by decide +kernel
theorem dL_areFollowing_12 : decode cL_areFollowing 12 = .ok (.istore 4, 2) := by decide +kernel
theorem dL_areFollowing_14 : decode cL_areFollowing 14 = .ok (.iload 4, 2) := by decide +kernel
theorem dL_areFollowing_16 : decode cL_areFollowing 16 = .ok (.iload_n 1, 1) := by decide +kernel
theorem dL_areFollowing_17 : decode cL_areFollowing 17 = .ok (.if_icmp .ge 106, 3) := by decide +kernel
theorem dL_areFollowing_20 : decode cL_areFollowing 20 = .ok (.iload 4, 2) := by decide +kernel
theorem dL_areFollowing_22 : decode cL_areFollowing 22 = .ok (.bipush 40, 2) := by decide +kernel
theorem dL_areFollowing_24 : decode cL_areFollowing 24 = .ok (.if_icmp .ge 99, 3) := by decide +kernel
theorem dL_areFollowing_27 : decode cL_areFollowing 27 = .ok (.aload_n 0, 1) := by decide +kernel
theorem dL_areFollowing_28 : decode cL_areFollowing 28 = .ok (.iload 4, 2) := by decide +kernel
theorem dL_areFollowing_30 : decode cL_areFollowing 30 = .ok (.invokevirtual 146, 3) := by decide +kernel
theorem dL_areFollowing_33 : decode cL_areFollowing 33 = .ok (.aload_n 0, 1) := by decide +kernel
theorem dL_areFollowing_34 : decode cL_areFollowing 34 = .ok (.invokevirtual 164, 3) := by decide +kernel
theorem dL_areFollowing_37 : decode cL_areFollowing 37 = .ok (.istore 5, 2) := by decide +kernel
theorem dL_areFollowing_39 : decode cL_areFollowing 39 = .ok (.iconst 0, 1) := by decide +kernel
theorem dL_areFollowing_40 : decode cL_areFollowing 40 = .ok (.istore 6, 2) := by decide +kernel
theorem dL_areFollowing_42 : decode cL_areFollowing 42 = .ok (.iload 6, 2) := by decide +kernel
theorem dL_areFollowing_44 : decode cL_areFollowing 44 = .ok (.iload 5, 2) := by decide +kernel
theorem dL_areFollowing_46 : decode cL_areFollowing 46 = .ok (.if_icmp .ge 71, 3) := by decide +kernel
theorem dL_areFollowing_49 : decode cL_areFollowing 49 = .ok (.aload_n 0, 1) := by decide +kernel
theorem dL_areFollowing_50 : decode cL_areFollowing 50 = .ok (.iload 4, 2) := by decide +kernel
theorem dL_areFollowing_52 : decode cL_areFollowing 52 = .ok (.invokevirtual 146, 3) := by decide +kernel
theorem dL_areFollowing_55 : decode cL_areFollowing 55 = .ok (.aload_n 0, 1) := by decide +kernel
theorem dL_areFollowing_56 : decode cL_areFollowing 56 = .ok (.iload 6, 2) := by decide +kernel
theorem dL_areFollowing_58 : decode cL_areFollowing 58 = .ok (.invokevirtual 167, 3) := by decide +kernel
theorem dL_areFollowing_61 : decode cL_areFollowing 61 = .ok (.istore 7, 2) := by decide +kernel
theorem dL_areFollowing_63 : decode cL_areFollowing 63 = .ok (.aload_n 0, 1) := by decide +kernel
theorem dL_areFollowing_64 : decode cL_areFollowing 64 = .ok (.invokestatic 157, 3) := by decide +kernel
theorem dL_areFollowing_67 : decode cL_areFollowing 67 = .ok (.istore 8, 2) := by decide +kernel
theorem dL_areFollowing_69 : decode cL_areFollowing 69 = .ok (.aload_n 0, 1) := by decide +kernel
theorem dL_areFollowing_70 : decode cL_areFollowing 70 = .ok (.invokevirtual 164, 3) := by decide +kernel
theorem dL_areFollowing_73 : decode cL_areFollowing 73 = .ok (.istore 9, 2) := by decide +kernel
theorem dL_areFollowing_75 : decode cL_areFollowing 75 = .ok (.iconst 0, 1) := by decide +kernel
theorem dL_areFollowing_76 : decode cL_areFollowing 76 = .ok (.istore 10, 2) := by decide +kernel
theorem dL_areFollowing_78 : decode cL_areFollowing 78 = .ok (.iload 10, 2) := by decide +kernel
theorem dL_areFollowing_80 : decode cL_areFollowing 80 = .ok (.iload 9, 2) := by decide +kernel
theorem dL_areFollowing_82 : decode cL_areFollowing 82 = .ok (.if_icmp .ge 29, 3) := by decide +kernel
theorem dL_areFollowing_85 : decode cL_areFollowing 85 = .ok (.aload_n 0, 1) := by decide +kernel
theorem dL_areFollowing_86 : decode cL_areFollowing 86 = .ok (.iload 8, 2) := by decide +kernel
theorem dL_areFollowing_88 : decode cL_areFollowing 88 = .ok (.invokevirtual 146, 3) := by decide +kernel
theorem dL_areFollowing_91 : decode cL_areFollowing 91 = .ok (.aload_n 3, 1) := by decide +kernel
theorem dL_areFollowing_92 : decode cL_areFollowing 92 = .ok (.iconst 5, 1) := by decide +kernel
theorem dL_areFollowing_93 : decode cL_areFollowing 93 = .ok (.iload 7, 2) := by decide +kernel
theorem dL_areFollowing_95 : decode cL_areFollowing 95 = .ok (.imul, 1) := by decide +kernel
theorem dL_areFollowing_96 : decode cL_areFollowing 96 = .ok (.aload_n 0, 1) := by decide +kernel
theorem dL_areFollowing_97 : decode cL_areFollowing 97 = .ok (.iload 10, 2) := by decide +kernel
theorem dL_areFollowing_99 : decode cL_areFollowing 99 = .ok (.invokevirtual 167, 3) := by decide +kernel
theorem dL_areFollowing_102 : decode cL_areFollowing 102 = .ok (.iadd, 1) := by decide +kernel
theorem dL_areFollowing_103 : decode cL_areFollowing 103 = .ok (.iconst 1, 1) := by decide +kernel
theorem dL_areFollowing_104 : decode cL_areFollowing 104 = .ok (.bastore, 1) := by decide +kernel
theorem dL_areFollowing_105 : decode cL_areFollowing 105 = .ok (.iinc 10 1, 3) := by decide +kernel
theorem dL_areFollowing_108 : decode cL_areFollowing 108 = .ok (.goto (-30), 3) := by decide +kernel
theorem dL_areFollowing_111 : decode cL_areFollowing 111 = .ok (.iinc 6 1, 3) := by decide +kernel
theorem dL_areFollowing_114 : decode cL_areFollowing 114 = .ok (.goto (-72), 3) := by decide +kernel
theorem dL_areFollowing_117 : decode cL_areFollowing 117 = .ok (.iinc 4 1, 3) := by decide +kernel
theorem dL_areFollowing_120 : decode cL_areFollowing 120 = .ok (.goto (-106), 3) := by decide +kernel
theorem dL_areFollowing_123 : decode cL_areFollowing 123 = .ok (.iconst 1, 1) := by decide +kernel
theorem dL_areFollowing_124 : decode cL_areFollowing 124 = .ok (.istore 4, 2) := by decide +kernel
theorem dL_areFollowing_126 : decode cL_areFollowing 126 = .ok (.iconst 0, 1) := by decide +kernel
theorem dL_areFollowing_127 : decode cL_areFollowing 127 = .ok (.istore 5, 2) := by decide +kernel
theorem dL_areFollowing_129 : decode cL_areFollowing 129 = .ok (.iload 5, 2) := by decide +kernel
theorem dL_areFollowing_131 : decode cL_areFollowing 131 = .ok (.iload_n 2, 1) := by decide +kernel
theorem dL_areFollowing_132 : decode cL_areFollowing 132 = .ok (.if_icmp .ge 85, 3) := by decide +kernel
theorem dL_areFollowing_135 : decode cL_areFollowing 135 = .ok (.iconst 0, 1) := by decide +kernel
theorem dL_areFollowing_136 : decode cL_areFollowing 136 = .ok (.istore 6, 2) := by decide +kernel
theorem dL_areFollowing_138 : decode cL_areFollowing 138 = .ok (.iload 6, 2) := by decide +kernel
theorem dL_areFollowing_140 : decode cL_areFollowing 140 = .ok (.iload_n 2, 1) := by decide +kernel
theorem dL_areFollowing_141 : decode cL_areFollowing 141 = .ok (.if_icmp .ge 70, 3) := by decide +kernel
theorem dL_areFollowing_144 : decode cL_areFollowing 144 = .ok (.iload 4, 2) := by decide +kernel
theorem dL_areFollowing_146 : decode cL_areFollowing 146 = .ok (.ifCond .eq 56, 3) := by decide +kernel
theorem dL_areFollowing_149 : decode cL_areFollowing 149 = .ok (.aload_n 0, 1) := by decide +kernel
theorem dL_areFollowing_150 : decode cL_areFollowing 150 = .ok (.iload 5, 2) := by decide +kernel
theorem dL_areFollowing_152 : decode cL_areFollowing 152 = .ok (.iload 6, 2) := by decide +kernel
theorem dL_areFollowing_154 : decode cL_areFollowing 154 = .ok (.invokevirtual 214, 3) := by decide +kernel
theorem dL_areFollowing_157 : decode cL_areFollowing 157 = .ok (.ifCond .ne 15, 3) := by decide +kernel
theorem dL_areFollowing_160 : decode cL_areFollowing 160 = .ok (.aload_n 3, 1) := by decide +kernel
theorem dL_areFollowing_161 : decode cL_areFollowing 161 = .ok (.iconst 5, 1) := by decide +kernel
theorem dL_areFollowing_162 : decode cL_areFollowing 162 = .ok (.iload 5, 2) := by decide +kernel
theorem dL_areFollowing_164 : decode cL_areFollowing 164 = .ok (.imul, 1) := by decide +kernel
theorem dL_areFollowing_165 : decode cL_areFollowing 165 = .ok (.iload 6, 2) := by decide +kernel
theorem dL_areFollowing_167 : decode cL_areFollowing 167 = .ok (.iadd, 1) := by decide +kernel
theorem dL_areFollowing_168 : decode cL_areFollowing 168 = .ok (.baload, 1) := by decide +kernel
theorem dL_areFollowing_169 : decode cL_areFollowing 169 = .ok (.ifCond .ne 33, 3) := by decide +kernel
theorem dL_areFollowing_172 : decode cL_areFollowing 172 = .ok (.iload_n 1, 1) := by decide +kernel
theorem dL_areFollowing_173 : decode cL_areFollowing 173 = .ok (.bipush 40, 2) := by decide +kernel
theorem dL_areFollowing_175 : decode cL_areFollowing 175 = .ok (.if_icmp .gt 23, 3) := by decide +kernel
theorem dL_areFollowing_178 : decode cL_areFollowing 178 = .ok (.aload_n 0, 1) := by decide +kernel
theorem dL_areFollowing_179 : decode cL_areFollowing 179 = .ok (.iload 5, 2) := by decide +kernel
theorem dL_areFollowing_181 : decode cL_areFollowing 181 = .ok (.iload 6, 2) := by decide +kernel
theorem dL_areFollowing_183 : decode cL_areFollowing 183 = .ok (.invokevirtual 214, 3) := by decide +kernel
theorem dL_areFollowing_186 : decode cL_areFollowing 186 = .ok (.aload_n 3, 1) := by decide +kernel
theorem dL_areFollowing_187 : decode cL_areFollowing 187 = .ok (.iconst 5, 1) := by decide +kernel
theorem dL_areFollowing_188 : decode cL_areFollowing 188 = .ok (.iload 5, 2) := by decide +kernel
theorem dL_areFollowing_190 : decode cL_areFollowing 190 = .ok (.imul, 1) := by decide +kernel
theorem dL_areFollowing_191 : decode cL_areFollowing 191 = .ok (.iload 6, 2) := by decide +kernel
theorem dL_areFollowing_193 : decode cL_areFollowing 193 = .ok (.iadd, 1) := by decide +kernel
theorem dL_areFollowing_194 : decode cL_areFollowing 194 = .ok (.baload, 1) := by decide +kernel
theorem dL_areFollowing_195 : decode cL_areFollowing 195 = .ok (.if_icmp .ne 7, 3) := by decide +kernel
theorem dL_areFollowing_198 : decode cL_areFollowing 198 = .ok (.iconst 1, 1) := by decide +kernel
theorem dL_areFollowing_199 : decode cL_areFollowing 199 = .ok (.goto 4, 3) := by decide +kernel
theorem dL_areFollowing_202 : decode cL_areFollowing 202 = .ok (.iconst 0, 1) := by decide +kernel
theorem dL_areFollowing_203 : decode cL_areFollowing 203 = .ok (.istore 4, 2) := by decide +kernel
theorem dL_areFollowing_205 : decode cL_areFollowing 205 = .ok (.iinc 6 1, 3) := by decide +kernel
theorem dL_areFollowing_208 : decode cL_areFollowing 208 = .ok (.goto (-70), 3) := by decide +kernel
theorem dL_areFollowing_211 : decode cL_areFollowing 211 = .ok (.iinc 5 1, 3) := by decide +kernel
theorem dL_areFollowing_214 : decode cL_areFollowing 214 = .ok (.goto (-85), 3) := by decide +kernel
theorem dL_areFollowing_217 : decode cL_areFollowing 217 = .ok (.iload 4, 2) := by decide +kernel
theorem dL_areFollowing_219 : decode cL_areFollowing 219 = .ok (.ireturn, 1) := by decide +kernel
theorem dL_law_0 : decode cL_law 0 = .ok (.new 26, 3) := by decide +kernel
theorem dL_law_3 : decode cL_law 3 = .ok (.dup, 1) := by decide +kernel
theorem dL_law_4 : decode cL_law 4 = .ok (.invokespecial 218, 3) := by decide +kernel
theorem dL_law_7 : decode cL_law 7 = .ok (.astore_n 1, 1) := by decide +kernel
theorem dL_law_8 : decode cL_law 8 = .ok (.aload_n 1, 1) := by decide +kernel
theorem dL_law_9 : decode cL_law 9 = .ok (.invokestatic 209, 3) := by decide +kernel
theorem dL_law_12 : decode cL_law 12 = .ok (.ifCond .ne 51, 3) := by decide +kernel
theorem dL_law_15 : decode cL_law 15 = .ok (.aload_n 1, 1) := by decide +kernel
theorem dL_law_16 : decode cL_law 16 = .ok (.iconst 2, 1) := by decide +kernel
theorem dL_law_17 : decode cL_law 17 = .ok (.invokevirtual 90, 3) := by decide +kernel
theorem dL_law_20 : decode cL_law 20 = .ok (.iconst 1, 1) := by decide +kernel
theorem dL_law_21 : decode cL_law 21 = .ok (.if_icmp .ne 42, 3) := by decide +kernel
theorem dL_law_24 : decode cL_law 24 = .ok (.aload_n 1, 1) := by decide +kernel
theorem dL_law_25 : decode cL_law 25 = .ok (.iconst 3, 1) := by decide +kernel
theorem dL_law_26 : decode cL_law 26 = .ok (.invokevirtual 90, 3) := by decide +kernel
theorem dL_law_29 : decode cL_law 29 = .ok (.bipush 6, 2) := by decide +kernel
theorem dL_law_31 : decode cL_law 31 = .ok (.if_icmp .ne 32, 3) := by decide +kernel
theorem dL_law_34 : decode cL_law 34 = .ok (.aload_n 1, 1) := by decide +kernel
theorem dL_law_35 : decode cL_law 35 = .ok (.invokevirtual 191, 3) := by decide +kernel
theorem dL_law_38 : decode cL_law 38 = .ok (.ifCond .ne 25, 3) := by decide +kernel
theorem dL_law_41 : decode cL_law 41 = .ok (.aload_n 1, 1) := by decide +kernel
theorem dL_law_42 : decode cL_law 42 = .ok (.invokevirtual 153, 3) := by decide +kernel
theorem dL_law_45 : decode cL_law 45 = .ok (.ifCond .ne 18, 3) := by decide +kernel
theorem dL_law_48 : decode cL_law 48 = .ok (.aload_n 1, 1) := by decide +kernel
theorem dL_law_49 : decode cL_law 49 = .ok (.invokestatic 157, 3) := by decide +kernel
theorem dL_law_52 : decode cL_law 52 = .ok (.iconst (-1), 1) := by decide +kernel
theorem dL_law_53 : decode cL_law 53 = .ok (.if_icmp .ne 10, 3) := by decide +kernel
theorem dL_law_56 : decode cL_law 56 = .ok (.aload_n 1, 1) := by decide +kernel
theorem dL_law_57 : decode cL_law 57 = .ok (.invokevirtual 219, 3) := by decide +kernel
theorem dL_law_60 : decode cL_law 60 = .ok (.ifCond .ne 5, 3) := by decide +kernel
theorem dL_law_63 : decode cL_law 63 = .ok (.iconst 0, 1) := by decide +kernel
theorem dL_law_64 : decode cL_law 64 = .ok (.ireturn, 1) := by decide +kernel
theorem dL_law_65 : decode cL_law 65 = .ok (.iconst 0, 1) := by decide +kernel
theorem dL_law_66 : decode cL_law 66 = .ok (.istore_n 2, 1) := by decide +kernel
theorem dL_law_67 : decode cL_law 67 = .ok (.iload_n 2, 1) := by decide +kernel
theorem dL_law_68 : decode cL_law 68 = .ok (.iconst 2, 1) := by decide +kernel
theorem dL_law_69 : decode cL_law 69 = .ok (.if_icmp .ge 115, 3) := by decide +kernel
theorem dL_law_72 : decode cL_law 72 = .ok (.bipush 10, 2) := by decide +kernel
theorem dL_law_74 : decode cL_law 74 = .ok (.bipush 100, 2) := by decide +kernel
theorem dL_law_76 : decode cL_law 76 = .ok (.iload_n 2, 1) := by decide +kernel
theorem dL_law_77 : decode cL_law 77 = .ok (.imul, 1) := by decide +kernel
theorem dL_law_78 : decode cL_law 78 = .ok (.iadd, 1) := by decide +kernel
theorem dL_law_79 : decode cL_law 79 = .ok (.istore_n 3, 1) := by decide +kernel
theorem dL_law_80 : decode cL_law 80 = .ok (.aload_n 1, 1) := by decide +kernel
theorem dL_law_81 : decode cL_law 81 = .ok (.aload_n 0, 1) := by decide +kernel
theorem dL_law_82 : decode cL_law 82 = .ok (.iload_n 3, 1) := by decide +kernel
theorem dL_law_83 : decode cL_law 83 = .ok (.invokestatic 222, 3) := by decide +kernel
theorem dL_law_86 : decode cL_law 86 = .ok (.aload_n 1, 1) := by decide +kernel
theorem dL_law_87 : decode cL_law 87 = .ok (.invokestatic 209, 3) := by decide +kernel
theorem dL_law_90 : decode cL_law 90 = .ok (.istore 4, 2) := by decide +kernel
theorem dL_law_92 : decode cL_law 92 = .ok (.iload 4, 2) := by decide +kernel
theorem dL_law_94 : decode cL_law 94 = .ok (.ifCond .ge 6, 3) := by decide +kernel
theorem dL_law_97 : decode cL_law 97 = .ok (.goto 81, 3) := by decide +kernel
theorem dL_law_100 : decode cL_law 100 = .ok (.bipush 10, 2) := by decide +kernel
theorem dL_law_102 : decode cL_law 102 = .ok (.newarray .int, 2) := by decide +kernel
theorem dL_law_104 : decode cL_law 104 = .ok (.astore 5, 2) := by decide +kernel
theorem dL_law_106 : decode cL_law 106 = .ok (.iconst 5, 1) := by decide +kernel
theorem dL_law_107 : decode cL_law 107 = .ok (.newarray .boolean, 2) := by decide +kernel
theorem dL_law_109 : decode cL_law 109 = .ok (.astore 6, 2) := by decide +kernel
theorem dL_law_111 : decode cL_law 111 = .ok (.aload_n 1, 1) := by decide +kernel
theorem dL_law_112 : decode cL_law 112 = .ok (.iload 4, 2) := by decide +kernel
theorem dL_law_114 : decode cL_law 114 = .ok (.aload 5, 2) := by decide +kernel
theorem dL_law_116 : decode cL_law 116 = .ok (.aload 6, 2) := by decide +kernel
theorem dL_law_118 : decode cL_law 118 = .ok (.invokestatic 226, 3) := by decide +kernel
theorem dL_law_121 : decode cL_law 121 = .ok (.ifCond .eq 55, 3) := by decide +kernel
theorem dL_law_124 : decode cL_law 124 = .ok (.aload_n 1, 1) := by decide +kernel
theorem dL_law_125 : decode cL_law 125 = .ok (.iload 4, 2) := by decide +kernel
theorem dL_law_127 : decode cL_law 127 = .ok (.invokestatic 230, 3) := by decide +kernel
theorem dL_law_130 : decode cL_law 130 = .ok (.iconst 1, 1) := by decide +kernel
theorem dL_law_131 : decode cL_law 131 = .ok (.if_icmp .ne 45, 3) := by decide +kernel
theorem dL_law_134 : decode cL_law 134 = .ok (.aload_n 1, 1) := by decide +kernel
theorem dL_law_135 : decode cL_law 135 = .ok (.iconst (-1), 1) := by decide +kernel
theorem dL_law_136 : decode cL_law 136 = .ok (.invokestatic 230, 3) := by decide +kernel
theorem dL_law_139 : decode cL_law 139 = .ok (.iconst 1, 1) := by decide +kernel
theorem dL_law_140 : decode cL_law 140 = .ok (.if_icmp .ne 36, 3) := by decide +kernel
theorem dL_law_143 : decode cL_law 143 = .ok (.aload_n 1, 1) := by decide +kernel
theorem dL_law_144 : decode cL_law 144 = .ok (.iload 4, 2) := by decide +kernel
theorem dL_law_146 : decode cL_law 146 = .ok (.aload 5, 2) := by decide +kernel
theorem dL_law_148 : decode cL_law 148 = .ok (.invokestatic 234, 3) := by decide +kernel
theorem dL_law_151 : decode cL_law 151 = .ok (.ifCond .eq 25, 3) := by decide +kernel
theorem dL_law_154 : decode cL_law 154 = .ok (.aload_n 1, 1) := by decide +kernel
theorem dL_law_155 : decode cL_law 155 = .ok (.aload_n 0, 1) := by decide +kernel
theorem dL_law_156 : decode cL_law 156 = .ok (.iload_n 3, 1) := by decide +kernel
theorem dL_law_157 : decode cL_law 157 = .ok (.iload 4, 2) := by decide +kernel
theorem dL_law_159 : decode cL_law 159 = .ok (.aload 6, 2) := by decide +kernel
theorem dL_law_161 : decode cL_law 161 = .ok (.invokestatic 238, 3) := by decide +kernel
theorem dL_law_164 : decode cL_law 164 = .ok (.ifCond .eq 12, 3) := by decide +kernel
theorem dL_law_167 : decode cL_law 167 = .ok (.aload_n 1, 1) := by decide +kernel
theorem dL_law_168 : decode cL_law 168 = .ok (.iload 4, 2) := by decide +kernel
theorem dL_law_170 : decode cL_law 170 = .ok (.invokestatic 242, 3) := by decide +kernel
theorem dL_law_173 : decode cL_law 173 = .ok (.ifCond .ne 5, 3) := by decide +kernel
theorem dL_law_176 : decode cL_law 176 = .ok (.iconst 0, 1) := by decide +kernel
theorem dL_law_177 : decode cL_law 177 = .ok (.ireturn, 1) := by decide +kernel
theorem dL_law_178 : decode cL_law 178 = .ok (.iinc 2 1, 3) := by decide +kernel
theorem dL_law_181 : decode cL_law 181 = .ok (.goto (-114), 3) := by decide +kernel
theorem dL_law_184 : decode cL_law 184 = .ok (.iconst 1, 1) := by decide +kernel
theorem dL_law_185 : decode cL_law 185 = .ok (.ireturn, 1) := by decide +kernel
