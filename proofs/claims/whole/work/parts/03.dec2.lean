theorem dX10_init_0 : decode cX10_init 0 = .ok (.aload_n 0, 1) := by decide +kernel
theorem dX10_init_1 : decode cX10_init 1 = .ok (.invokespecial 1, 3) := by decide +kernel
theorem dX10_init_4 : decode cX10_init 4 = .ok (.aload_n 0, 1) := by decide +kernel
theorem dX10_init_5 : decode cX10_init 5 = .ok (.new 7, 3) := by decide +kernel
theorem dX10_init_8 : decode cX10_init 8 = .ok (.dup, 1) := by decide +kernel
theorem dX10_init_9 : decode cX10_init 9 = .ok (.invokespecial 9, 3) := by decide +kernel
theorem dX10_init_12 : decode cX10_init 12 = .ok (.putfield 10, 3) := by decide +kernel
theorem dX10_init_15 : decode cX10_init 15 = .ok (.aload_n 0, 1) := by decide +kernel
theorem dX10_init_16 : decode cX10_init 16 = .ok (.new 16, 3) := by decide +kernel
theorem dX10_init_19 : decode cX10_init 19 = .ok (.dup, 1) := by decide +kernel
theorem dX10_init_20 : decode cX10_init 20 = .ok (.invokespecial 18, 3) := by decide +kernel
theorem dX10_init_23 : decode cX10_init 23 = .ok (.putfield 19, 3) := by decide +kernel
theorem dX10_init_26 : decode cX10_init 26 = .ok (.aload_n 0, 1) := by decide +kernel
theorem dX10_init_27 : decode cX10_init 27 = .ok (.new 16, 3) := by decide +kernel
theorem dX10_init_30 : decode cX10_init 30 = .ok (.dup, 1) := by decide +kernel
theorem dX10_init_31 : decode cX10_init 31 = .ok (.invokespecial 18, 3) := by decide +kernel
theorem dX10_init_34 : decode cX10_init 34 = .ok (.putfield 23, 3) := by decide +kernel
theorem dX10_init_37 : decode cX10_init 37 = .ok (.aload_n 0, 1) := by decide +kernel
theorem dX10_init_38 : decode cX10_init 38 = .ok (.new 26, 3) := by decide +kernel
theorem dX10_init_41 : decode cX10_init 41 = .ok (.dup, 1) := by decide +kernel
theorem dX10_init_42 : decode cX10_init 42 = .ok (.invokespecial 28, 3) := by decide +kernel
theorem dX10_init_45 : decode cX10_init 45 = .ok (.putfield 29, 3) := by decide +kernel
theorem dX10_init_48 : decode cX10_init 48 = .ok (.aload_n 0, 1) := by decide +kernel
theorem dX10_init_49 : decode cX10_init 49 = .ok (.new 33, 3) := by decide +kernel
theorem dX10_init_52 : decode cX10_init 52 = .ok (.dup, 1) := by decide +kernel
theorem dX10_init_53 : decode cX10_init 53 = .ok (.invokespecial 35, 3) := by decide +kernel
theorem dX10_init_56 : decode cX10_init 56 = .ok (.putfield 36, 3) := by decide +kernel
theorem dX10_init_59 : decode cX10_init 59 = .ok (.aload_n 0, 1) := by decide +kernel
theorem dX10_init_60 : decode cX10_init 60 = .ok (.sipush 225, 3) := by decide +kernel
theorem dX10_init_63 : decode cX10_init 63 = .ok (.newarray .int, 2) := by decide +kernel
theorem dX10_init_65 : decode cX10_init 65 = .ok (.putfield 40, 3) := by decide +kernel
theorem dX10_init_68 : decode cX10_init 68 = .ok (.aload_n 0, 1) := by decide +kernel
theorem dX10_init_69 : decode cX10_init 69 = .ok (.iconst 3, 1) := by decide +kernel
theorem dX10_init_70 : decode cX10_init 70 = .ok (.anewarray 44, 3) := by decide +kernel
theorem dX10_init_73 : decode cX10_init 73 = .ok (.dup, 1) := by decide +kernel
theorem dX10_init_74 : decode cX10_init 74 = .ok (.iconst 0, 1) := by decide +kernel
theorem dX10_init_75 : decode cX10_init 75 = .ok (.new 44, 3) := by decide +kernel
theorem dX10_init_78 : decode cX10_init 78 = .ok (.dup, 1) := by decide +kernel
theorem dX10_init_79 : decode cX10_init 79 = .ok (.invokespecial 46, 3) := by decide +kernel
theorem dX10_init_82 : decode cX10_init 82 = .ok (.aastore, 1) := by decide +kernel
theorem dX10_init_83 : decode cX10_init 83 = .ok (.dup, 1) := by decide +kernel
theorem dX10_init_84 : decode cX10_init 84 = .ok (.iconst 1, 1) := by decide +kernel
theorem dX10_init_85 : decode cX10_init 85 = .ok (.new 44, 3) := by decide +kernel
theorem dX10_init_88 : decode cX10_init 88 = .ok (.dup, 1) := by decide +kernel
theorem dX10_init_89 : decode cX10_init 89 = .ok (.invokespecial 46, 3) := by decide +kernel
theorem dX10_init_92 : decode cX10_init 92 = .ok (.aastore, 1) := by decide +kernel
theorem dX10_init_93 : decode cX10_init 93 = .ok (.dup, 1) := by decide +kernel
theorem dX10_init_94 : decode cX10_init 94 = .ok (.iconst 2, 1) := by decide +kernel
theorem dX10_init_95 : decode cX10_init 95 = .ok (.new 44, 3) := by decide +kernel
theorem dX10_init_98 : decode cX10_init 98 = .ok (.dup, 1) := by decide +kernel
theorem dX10_init_99 : decode cX10_init 99 = .ok (.invokespecial 46, 3) := by decide +kernel
theorem dX10_init_102 : decode cX10_init 102 = .ok (.aastore, 1) := by decide +kernel
theorem dX10_init_103 : decode cX10_init 103 = .ok (.putfield 47, 3) := by decide +kernel
theorem dX10_init_106 : decode cX10_init 106 = .ok (.aload_n 0, 1) := by decide +kernel
theorem dX10_init_107 : decode cX10_init 107 = .ok (.iconst (-1), 1) := by decide +kernel
theorem dX10_init_108 : decode cX10_init 108 = .ok (.putfield 51, 3) := by decide +kernel
theorem dX10_init_111 : decode cX10_init 111 = .ok (.aload_n 0, 1) := by decide +kernel
theorem dX10_init_112 : decode cX10_init 112 = .ok (.iconst 1, 1) := by decide +kernel
theorem dX10_init_113 : decode cX10_init 113 = .ok (.putfield 55, 3) := by decide +kernel
theorem dX10_init_116 : decode cX10_init 116 = .ok (.return_, 1) := by decide +kernel
theorem dX10_append_0 : decode cX10_append 0 = .ok (.aload_n 0, 1) := by decide +kernel
theorem dX10_append_1 : decode cX10_append 1 = .ok (.getfield 10, 3) := by decide +kernel
theorem dX10_append_4 : decode cX10_append 4 = .ok (.iload_n 1, 1) := by decide +kernel
theorem dX10_append_5 : decode cX10_append 5 = .ok (.invokevirtual 59, 3) := by decide +kernel
theorem dX10_append_8 : decode cX10_append 8 = .ok (.ifCond .ne 13, 3) := by decide +kernel
theorem dX10_append_11 : decode cX10_append 11 = .ok (.new 63, 3) := by decide +kernel
theorem dX10_append_14 : decode cX10_append 14 = .ok (.dup, 1) := by decide +kernel
theorem dX10_append_15 : decode cX10_append 15 = .ok (.ldc 65, 2) := by decide +kernel
theorem dX10_append_17 : decode cX10_append 17 = .ok (.invokespecial 67, 3) := by decide +kernel
theorem dX10_append_20 : decode cX10_append 20 = .ok (.athrow, 1) := by decide +kernel
theorem dX10_append_21 : decode cX10_append 21 = .ok (.return_, 1) := by decide +kernel
theorem dX10_define_0 : decode cX10_define 0 = .ok (.aload_n 0, 1) := by decide +kernel
theorem dX10_define_1 : decode cX10_define 1 = .ok (.getfield 10, 3) := by decide +kernel
theorem dX10_define_4 : decode cX10_define 4 = .ok (.invokevirtual 70, 3) := by decide +kernel
theorem dX10_define_7 : decode cX10_define 7 = .ok (.istore_n 1, 1) := by decide +kernel
theorem dX10_define_8 : decode cX10_define 8 = .ok (.aload_n 0, 1) := by decide +kernel
theorem dX10_define_9 : decode cX10_define 9 = .ok (.iload_n 1, 1) := by decide +kernel
theorem dX10_define_10 : decode cX10_define 10 = .ok (.iconst (-1), 1) := by decide +kernel
theorem dX10_define_11 : decode cX10_define 11 = .ok (.if_icmp .ne 13, 3) := by decide +kernel
theorem dX10_define_14 : decode cX10_define 14 = .ok (.aload_n 0, 1) := by decide +kernel
theorem dX10_define_15 : decode cX10_define 15 = .ok (.getfield 10, 3) := by decide +kernel
theorem dX10_define_18 : decode cX10_define 18 = .ok (.getfield 74, 3) := by decide +kernel
theorem dX10_define_21 : decode cX10_define 21 = .ok (.goto 4, 3) := by decide +kernel
theorem dX10_define_24 : decode cX10_define 24 = .ok (.iconst (-1), 1) := by decide +kernel
theorem dX10_define_25 : decode cX10_define 25 = .ok (.putfield 51, 3) := by decide +kernel
theorem dX10_define_28 : decode cX10_define 28 = .ok (.aload_n 0, 1) := by decide +kernel
theorem dX10_define_29 : decode cX10_define 29 = .ok (.getfield 10, 3) := by decide +kernel
theorem dX10_define_32 : decode cX10_define 32 = .ok (.invokevirtual 77, 3) := by decide +kernel
theorem dX10_define_35 : decode cX10_define 35 = .ok (.iload_n 1, 1) := by decide +kernel
theorem dX10_define_36 : decode cX10_define 36 = .ok (.iconst (-1), 1) := by decide +kernel
theorem dX10_define_37 : decode cX10_define 37 = .ok (.if_icmp .ne 13, 3) := by decide +kernel
theorem dX10_define_40 : decode cX10_define 40 = .ok (.new 80, 3) := by decide +kernel
theorem dX10_define_43 : decode cX10_define 43 = .ok (.dup, 1) := by decide +kernel
theorem dX10_define_44 : decode cX10_define 44 = .ok (.ldc 82, 2) := by decide +kernel
theorem dX10_define_46 : decode cX10_define 46 = .ok (.invokespecial 84, 3) := by decide +kernel
theorem dX10_define_49 : decode cX10_define 49 = .ok (.athrow, 1) := by decide +kernel
theorem dX10_define_50 : decode cX10_define 50 = .ok (.iload_n 1, 1) := by decide +kernel
theorem dX10_define_51 : decode cX10_define 51 = .ok (.ifCond .ne 15, 3) := by decide +kernel
theorem dX10_define_54 : decode cX10_define 54 = .ok (.aload_n 0, 1) := by decide +kernel
theorem dX10_define_55 : decode cX10_define 55 = .ok (.aload_n 0, 1) := by decide +kernel
theorem dX10_define_56 : decode cX10_define 56 = .ok (.getfield 10, 3) := by decide +kernel
theorem dX10_define_59 : decode cX10_define 59 = .ok (.getfield 85, 3) := by decide +kernel
theorem dX10_define_62 : decode cX10_define 62 = .ok (.invokevirtual 88, 3) := by decide +kernel
theorem dX10_define_65 : decode cX10_define 65 = .ok (.ireturn, 1) := by decide +kernel
theorem dX10_define_66 : decode cX10_define 66 = .ok (.iload_n 1, 1) := by decide +kernel
theorem dX10_define_67 : decode cX10_define 67 = .ok (.iconst 1, 1) := by decide +kernel
theorem dX10_define_68 : decode cX10_define 68 = .ok (.if_icmp .ne 8, 3) := by decide +kernel
theorem dX10_define_71 : decode cX10_define 71 = .ok (.aload_n 0, 1) := by decide +kernel
theorem dX10_define_72 : decode cX10_define 72 = .ok (.invokevirtual 92, 3) := by decide +kernel
theorem dX10_define_75 : decode cX10_define 75 = .ok (.ireturn, 1) := by decide +kernel
theorem dX10_define_76 : decode cX10_define 76 = .ok (.aload_n 0, 1) := by decide +kernel
theorem dX10_define_77 : decode cX10_define 77 = .ok (.iload_n 1, 1) := by decide +kernel
theorem dX10_define_78 : decode cX10_define 78 = .ok (.aload_n 0, 1) := by decide +kernel
theorem dX10_define_79 : decode cX10_define 79 = .ok (.getfield 10, 3) := by decide +kernel
theorem dX10_define_82 : decode cX10_define 82 = .ok (.getfield 95, 3) := by decide +kernel
theorem dX10_define_85 : decode cX10_define 85 = .ok (.invokevirtual 98, 3) := by decide +kernel
theorem dX10_define_88 : decode cX10_define 88 = .ok (.ireturn, 1) := by decide +kernel
theorem dX10_defineAxiom_0 : decode cX10_defineAxiom 0 = .ok (.aload_n 0, 1) := by decide +kernel
theorem dX10_defineAxiom_1 : decode cX10_defineAxiom 1 = .ok (.getfield 19, 3) := by decide +kernel
theorem dX10_defineAxiom_4 : decode cX10_defineAxiom 4 = .ok (.getfield 102, 3) := by decide +kernel
theorem dX10_defineAxiom_7 : decode cX10_defineAxiom 7 = .ok (.bipush 6, 2) := by decide +kernel
theorem dX10_defineAxiom_9 : decode cX10_defineAxiom 9 = .ok (.if_icmp .ge 14, 3) := by decide +kernel
theorem dX10_defineAxiom_12 : decode cX10_defineAxiom 12 = .ok (.aload_n 0, 1) := by decide +kernel
theorem dX10_defineAxiom_13 : decode cX10_defineAxiom 13 = .ok (.getfield 19, 3) := by decide +kernel
theorem dX10_defineAxiom_16 : decode cX10_defineAxiom 16 = .ok (.iload_n 1, 1) := by decide +kernel
theorem dX10_defineAxiom_17 : decode cX10_defineAxiom 17 = .ok (.invokevirtual 105, 3) := by decide +kernel
theorem dX10_defineAxiom_20 : decode cX10_defineAxiom 20 = .ok (.ifCond .eq 13, 3) := by decide +kernel
theorem dX10_defineAxiom_23 : decode cX10_defineAxiom 23 = .ok (.new 63, 3) := by decide +kernel
theorem dX10_defineAxiom_26 : decode cX10_defineAxiom 26 = .ok (.dup, 1) := by decide +kernel
theorem dX10_defineAxiom_27 : decode cX10_defineAxiom 27 = .ok (.ldc 109, 2) := by decide +kernel
theorem dX10_defineAxiom_29 : decode cX10_defineAxiom 29 = .ok (.invokespecial 67, 3) := by decide +kernel
theorem dX10_defineAxiom_32 : decode cX10_defineAxiom 32 = .ok (.athrow, 1) := by decide +kernel
theorem dX10_defineAxiom_33 : decode cX10_defineAxiom 33 = .ok (.aload_n 0, 1) := by decide +kernel
theorem dX10_defineAxiom_34 : decode cX10_defineAxiom 34 = .ok (.getfield 19, 3) := by decide +kernel
theorem dX10_defineAxiom_37 : decode cX10_defineAxiom 37 = .ok (.iload_n 1, 1) := by decide +kernel
theorem dX10_defineAxiom_38 : decode cX10_defineAxiom 38 = .ok (.invokevirtual 111, 3) := by decide +kernel
theorem dX10_defineAxiom_41 : decode cX10_defineAxiom 41 = .ok (.aload_n 0, 1) := by decide +kernel
theorem dX10_defineAxiom_42 : decode cX10_defineAxiom 42 = .ok (.invokevirtual 115, 3) := by decide +kernel
theorem dX10_defineAxiom_45 : decode cX10_defineAxiom 45 = .ok (.aload_n 0, 1) := by decide +kernel
theorem dX10_defineAxiom_46 : decode cX10_defineAxiom 46 = .ok (.getfield 19, 3) := by decide +kernel
theorem dX10_defineAxiom_49 : decode cX10_defineAxiom 49 = .ok (.getfield 102, 3) := by decide +kernel
theorem dX10_defineAxiom_52 : decode cX10_defineAxiom 52 = .ok (.iconst 1, 1) := by decide +kernel
theorem dX10_defineAxiom_53 : decode cX10_defineAxiom 53 = .ok (.isub, 1) := by decide +kernel
theorem dX10_defineAxiom_54 : decode cX10_defineAxiom 54 = .ok (.ireturn, 1) := by decide +kernel
theorem dX10_defineContext_0 : decode cX10_defineContext 0 = .ok (.aload_n 0, 1) := by decide +kernel
theorem dX10_defineContext_1 : decode cX10_defineContext 1 = .ok (.getfield 19, 3) := by decide +kernel
theorem dX10_defineContext_4 : decode cX10_defineContext 4 = .ok (.getfield 118, 3) := by decide +kernel
theorem dX10_defineContext_7 : decode cX10_defineContext 7 = .ok (.iconst 5, 1) := by decide +kernel
theorem dX10_defineContext_8 : decode cX10_defineContext 8 = .ok (.if_icmp .lt 13, 3) := by decide +kernel
theorem dX10_defineContext_11 : decode cX10_defineContext 11 = .ok (.new 63, 3) := by decide +kernel
theorem dX10_defineContext_14 : decode cX10_defineContext 14 = .ok (.dup, 1) := by decide +kernel
theorem dX10_defineContext_15 : decode cX10_defineContext 15 = .ok (.ldc 121, 2) := by decide +kernel
theorem dX10_defineContext_17 : decode cX10_defineContext 17 = .ok (.invokespecial 67, 3) := by decide +kernel
theorem dX10_defineContext_20 : decode cX10_defineContext 20 = .ok (.athrow, 1) := by decide +kernel
theorem dX10_defineContext_21 : decode cX10_defineContext 21 = .ok (.aload_n 0, 1) := by decide +kernel
theorem dX10_defineContext_22 : decode cX10_defineContext 22 = .ok (.getfield 19, 3) := by decide +kernel
theorem dX10_defineContext_25 : decode cX10_defineContext 25 = .ok (.new 123, 3) := by decide +kernel
theorem dX10_defineContext_28 : decode cX10_defineContext 28 = .ok (.dup, 1) := by decide +kernel
theorem dX10_defineContext_29 : decode cX10_defineContext 29 = .ok (.aload_n 0, 1) := by decide +kernel
theorem dX10_defineContext_30 : decode cX10_defineContext 30 = .ok (.getfield 10, 3) := by decide +kernel
theorem dX10_defineContext_33 : decode cX10_defineContext 33 = .ok (.getfield 125, 3) := by decide +kernel
theorem dX10_defineContext_36 : decode cX10_defineContext 36 = .ok (.aload_n 0, 1) := by decide +kernel
theorem dX10_defineContext_37 : decode cX10_defineContext 37 = .ok (.getfield 10, 3) := by decide +kernel
theorem dX10_defineContext_40 : decode cX10_defineContext 40 = .ok (.getfield 128, 3) := by decide +kernel
theorem dX10_defineContext_43 : decode cX10_defineContext 43 = .ok (.new 131, 3) := by decide +kernel
theorem dX10_defineContext_46 : decode cX10_defineContext 46 = .ok (.dup, 1) := by decide +kernel
theorem dX10_defineContext_47 : decode cX10_defineContext 47 = .ok (.aload_n 0, 1) := by decide +kernel
theorem dX10_defineContext_48 : decode cX10_defineContext 48 = .ok (.getfield 10, 3) := by decide +kernel
theorem dX10_defineContext_51 : decode cX10_defineContext 51 = .ok (.invokevirtual 133, 3) := by decide +kernel
theorem dX10_defineContext_54 : decode cX10_defineContext 54 = .ok (.invokespecial 137, 3) := by decide +kernel
theorem dX10_defineContext_57 : decode cX10_defineContext 57 = .ok (.invokespecial 140, 3) := by decide +kernel
theorem dX10_defineContext_60 : decode cX10_defineContext 60 = .ok (.invokevirtual 143, 3) := by decide +kernel
theorem dX10_defineContext_63 : decode cX10_defineContext 63 = .ok (.aload_n 0, 1) := by decide +kernel
theorem dX10_defineContext_64 : decode cX10_defineContext 64 = .ok (.invokevirtual 115, 3) := by decide +kernel
theorem dX10_defineContext_67 : decode cX10_defineContext 67 = .ok (.aload_n 0, 1) := by decide +kernel
theorem dX10_defineContext_68 : decode cX10_defineContext 68 = .ok (.getfield 19, 3) := by decide +kernel
theorem dX10_defineContext_71 : decode cX10_defineContext 71 = .ok (.getfield 118, 3) := by decide +kernel
theorem dX10_defineContext_74 : decode cX10_defineContext 74 = .ok (.iconst 1, 1) := by decide +kernel
theorem dX10_defineContext_75 : decode cX10_defineContext 75 = .ok (.isub, 1) := by decide +kernel
theorem dX10_defineContext_76 : decode cX10_defineContext 76 = .ok (.ireturn, 1) := by decide +kernel
theorem dX10_replaceNumber_0 : decode cX10_replaceNumber 0 = .ok (.iload_n 1, 1) := by decide +kernel
theorem dX10_replaceNumber_1 : decode cX10_replaceNumber 1 = .ok (.iconst 2, 1) := by decide +kernel
theorem dX10_replaceNumber_2 : decode cX10_replaceNumber 2 = .ok (.if_icmp .ne 22, 3) := by decide +kernel
theorem dX10_replaceNumber_5 : decode cX10_replaceNumber 5 = .ok (.aload_n 0, 1) := by decide +kernel
theorem dX10_replaceNumber_6 : decode cX10_replaceNumber 6 = .ok (.getfield 19, 3) := by decide +kernel
theorem dX10_replaceNumber_9 : decode cX10_replaceNumber 9 = .ok (.getfield 147, 3) := by decide +kernel
theorem dX10_replaceNumber_12 : decode cX10_replaceNumber 12 = .ok (.istore_n 3, 1) := by decide +kernel
theorem dX10_replaceNumber_13 : decode cX10_replaceNumber 13 = .ok (.aload_n 0, 1) := by decide +kernel
theorem dX10_replaceNumber_14 : decode cX10_replaceNumber 14 = .ok (.getfield 19, 3) := by decide +kernel
theorem dX10_replaceNumber_17 : decode cX10_replaceNumber 17 = .ok (.iload_n 2, 1) := by decide +kernel
theorem dX10_replaceNumber_18 : decode cX10_replaceNumber 18 = .ok (.putfield 147, 3) := by decide +kernel
theorem dX10_replaceNumber_21 : decode cX10_replaceNumber 21 = .ok (.goto 19, 3) := by decide +kernel
theorem dX10_replaceNumber_24 : decode cX10_replaceNumber 24 = .ok (.aload_n 0, 1) := by decide +kernel
theorem dX10_replaceNumber_25 : decode cX10_replaceNumber 25 = .ok (.getfield 19, 3) := by decide +kernel
theorem dX10_replaceNumber_28 : decode cX10_replaceNumber 28 = .ok (.getfield 150, 3) := by decide +kernel
theorem dX10_replaceNumber_31 : decode cX10_replaceNumber 31 = .ok (.istore_n 3, 1) := by decide +kernel
theorem dX10_replaceNumber_32 : decode cX10_replaceNumber 32 = .ok (.aload_n 0, 1) := by decide +kernel
theorem dX10_replaceNumber_33 : decode cX10_replaceNumber 33 = .ok (.getfield 19, 3) := by decide +kernel
theorem dX10_replaceNumber_36 : decode cX10_replaceNumber 36 = .ok (.iload_n 2, 1) := by decide +kernel
theorem dX10_replaceNumber_37 : decode cX10_replaceNumber 37 = .ok (.putfield 150, 3) := by decide +kernel
theorem dX10_replaceNumber_40 : decode cX10_replaceNumber 40 = .ok (.aload_n 0, 1) := by decide +kernel
theorem dX10_replaceNumber_41 : decode cX10_replaceNumber 41 = .ok (.invokevirtual 115, 3) := by decide +kernel
theorem dX10_replaceNumber_44 : decode cX10_replaceNumber 44 = .ok (.iload_n 3, 1) := by decide +kernel
theorem dX10_replaceNumber_45 : decode cX10_replaceNumber 45 = .ok (.ireturn, 1) := by decide +kernel
theorem dX10_grammarChanged_0 : decode cX10_grammarChanged 0 = .ok (.aload_n 0, 1) := by decide +kernel
theorem dX10_grammarChanged_1 : decode cX10_grammarChanged 1 = .ok (.iconst 1, 1) := by decide +kernel
theorem dX10_grammarChanged_2 : decode cX10_grammarChanged 2 = .ok (.putfield 55, 3) := by decide +kernel
theorem dX10_grammarChanged_5 : decode cX10_grammarChanged 5 = .ok (.aload_n 0, 1) := by decide +kernel
theorem dX10_grammarChanged_6 : decode cX10_grammarChanged 6 = .ok (.getfield 36, 3) := by decide +kernel
theorem dX10_grammarChanged_9 : decode cX10_grammarChanged 9 = .ok (.invokevirtual 153, 3) := by decide +kernel
theorem dX10_grammarChanged_12 : decode cX10_grammarChanged 12 = .ok (.return_, 1) := by decide +kernel
theorem dX10_faultPosition_0 : decode cX10_faultPosition 0 = .ok (.aload_n 0, 1) := by decide +kernel
theorem dX10_faultPosition_1 : decode cX10_faultPosition 1 = .ok (.getfield 51, 3) := by decide +kernel
theorem dX10_faultPosition_4 : decode cX10_faultPosition 4 = .ok (.ireturn, 1) := by decide +kernel
theorem dX10_removeAxiom_0 : decode cX10_removeAxiom 0 = .ok (.aload_n 0, 1) := by decide +kernel
theorem dX10_removeAxiom_1 : decode cX10_removeAxiom 1 = .ok (.iload_n 1, 1) := by decide +kernel
theorem dX10_removeAxiom_2 : decode cX10_removeAxiom 2 = .ok (.invokevirtual 156, 3) := by decide +kernel
theorem dX10_removeAxiom_5 : decode cX10_removeAxiom 5 = .ok (.aload_n 0, 1) := by decide +kernel
theorem dX10_removeAxiom_6 : decode cX10_removeAxiom 6 = .ok (.getfield 19, 3) := by decide +kernel
theorem dX10_removeAxiom_9 : decode cX10_removeAxiom 9 = .ok (.iload_n 1, 1) := by decide +kernel
theorem dX10_removeAxiom_10 : decode cX10_removeAxiom 10 = .ok (.invokevirtual 159, 3) := by decide +kernel
theorem dX10_removeAxiom_13 : decode cX10_removeAxiom 13 = .ok (.aload_n 0, 1) := by decide +kernel
theorem dX10_removeAxiom_14 : decode cX10_removeAxiom 14 = .ok (.invokevirtual 115, 3) := by decide +kernel
theorem dX10_removeAxiom_17 : decode cX10_removeAxiom 17 = .ok (.return_, 1) := by decide +kernel
theorem dX10_removeContext_0 : decode cX10_removeContext 0 = .ok (.aload_n 0, 1) := by decide +kernel
theorem dX10_removeContext_1 : decode cX10_removeContext 1 = .ok (.iload_n 1, 1) := by decide +kernel
theorem dX10_removeContext_2 : decode cX10_removeContext 2 = .ok (.invokevirtual 162, 3) := by decide +kernel
theorem dX10_removeContext_5 : decode cX10_removeContext 5 = .ok (.aload_n 0, 1) := by decide +kernel
theorem dX10_removeContext_6 : decode cX10_removeContext 6 = .ok (.getfield 19, 3) := by decide +kernel
theorem dX10_removeContext_9 : decode cX10_removeContext 9 = .ok (.iload_n 1, 1) := by decide +kernel
theorem dX10_removeContext_10 : decode cX10_removeContext 10 = .ok (.invokevirtual 165, 3) := by decide +kernel
theorem dX10_removeContext_13 : decode cX10_removeContext 13 = .ok (.aload_n 0, 1) := by decide +kernel
theorem dX10_removeContext_14 : decode cX10_removeContext 14 = .ok (.invokevirtual 115, 3) := by decide +kernel
theorem dX10_removeContext_17 : decode cX10_removeContext 17 = .ok (.return_, 1) := by decide +kernel
theorem dX10_count_0 : decode cX10_count 0 = .ok (.iload_n 1, 1) := by decide +kernel
theorem dX10_count_1 : decode cX10_count 1 = .ok (.tableswitch 75 0 4 #[35, 43, 51, 59, 67], 35) := by decide +kernel
theorem dX10_count_36 : decode cX10_count 36 = .ok (.aload_n 0, 1) := by decide +kernel
theorem dX10_count_37 : decode cX10_count 37 = .ok (.getfield 19, 3) := by decide +kernel
theorem dX10_count_40 : decode cX10_count 40 = .ok (.getfield 102, 3) := by decide +kernel
theorem dX10_count_43 : decode cX10_count 43 = .ok (.ireturn, 1) := by decide +kernel
theorem dX10_count_44 : decode cX10_count 44 = .ok (.aload_n 0, 1) := by decide +kernel
theorem dX10_count_45 : decode cX10_count 45 = .ok (.getfield 19, 3) := by decide +kernel
theorem dX10_count_48 : decode cX10_count 48 = .ok (.getfield 118, 3) := by decide +kernel
theorem dX10_count_51 : decode cX10_count 51 = .ok (.ireturn, 1) := by decide +kernel
theorem dX10_count_52 : decode cX10_count 52 = .ok (.aload_n 0, 1) := by decide +kernel
theorem dX10_count_53 : decode cX10_count 53 = .ok (.getfield 19, 3) := by decide +kernel
theorem dX10_count_56 : decode cX10_count 56 = .ok (.getfield 147, 3) := by decide +kernel
theorem dX10_count_59 : decode cX10_count 59 = .ok (.ireturn, 1) := by decide +kernel
theorem dX10_count_60 : decode cX10_count 60 = .ok (.aload_n 0, 1) := by decide +kernel
theorem dX10_count_61 : decode cX10_count 61 = .ok (.getfield 19, 3) := by decide +kernel
theorem dX10_count_64 : decode cX10_count 64 = .ok (.getfield 150, 3) := by decide +kernel
theorem dX10_count_67 : decode cX10_count 67 = .ok (.ireturn, 1) := by decide +kernel
theorem dX10_count_68 : decode cX10_count 68 = .ok (.aload_n 0, 1) := by decide +kernel
theorem dX10_count_69 : decode cX10_count 69 = .ok (.getfield 10, 3) := by decide +kernel
theorem dX10_count_72 : decode cX10_count 72 = .ok (.getfield 168, 3) := by decide +kernel
theorem dX10_count_75 : decode cX10_count 75 = .ok (.ireturn, 1) := by decide +kernel
theorem dX10_count_76 : decode cX10_count 76 = .ok (.new 80, 3) := by decide +kernel
theorem dX10_count_79 : decode cX10_count 79 = .ok (.dup, 1) := by decide +kernel
theorem dX10_count_80 : decode cX10_count 80 = .ok (.ldc 171, 2) := by decide +kernel
theorem dX10_count_82 : decode cX10_count 82 = .ok (.invokespecial 84, 3) := by decide +kernel
theorem dX10_count_85 : decode cX10_count 85 = .ok (.athrow, 1) := by decide +kernel
theorem dX10_size_0 : decode cX10_size 0 = .ok (.aload_n 0, 1) := by decide +kernel
theorem dX10_size_1 : decode cX10_size 1 = .ok (.invokevirtual 173, 3) := by decide +kernel
theorem dX10_size_4 : decode cX10_size 4 = .ok (.aload_n 0, 1) := by decide +kernel
theorem dX10_size_5 : decode cX10_size 5 = .ok (.getfield 29, 3) := by decide +kernel
theorem dX10_size_8 : decode cX10_size 8 = .ok (.getfield 176, 3) := by decide +kernel
theorem dX10_size_11 : decode cX10_size 11 = .ok (.ireturn, 1) := by decide +kernel
theorem dX10_sizeOf_0 : decode cX10_sizeOf 0 = .ok (.aload_n 0, 1) := by decide +kernel
theorem dX10_sizeOf_1 : decode cX10_sizeOf 1 = .ok (.iload_n 1, 1) := by decide +kernel
theorem dX10_sizeOf_2 : decode cX10_sizeOf 2 = .ok (.invokevirtual 179, 3) := by decide +kernel
theorem dX10_sizeOf_5 : decode cX10_sizeOf 5 = .ok (.aload_n 0, 1) := by decide +kernel
theorem dX10_sizeOf_6 : decode cX10_sizeOf 6 = .ok (.invokevirtual 173, 3) := by decide +kernel
theorem dX10_sizeOf_9 : decode cX10_sizeOf 9 = .ok (.aload_n 0, 1) := by decide +kernel
theorem dX10_sizeOf_10 : decode cX10_sizeOf 10 = .ok (.getfield 29, 3) := by decide +kernel
theorem dX10_sizeOf_13 : decode cX10_sizeOf 13 = .ok (.iload_n 1, 1) := by decide +kernel
theorem dX10_sizeOf_14 : decode cX10_sizeOf 14 = .ok (.invokevirtual 182, 3) := by decide +kernel
theorem dX10_sizeOf_17 : decode cX10_sizeOf 17 = .ok (.ireturn, 1) := by decide +kernel
theorem dX10_density_0 : decode cX10_density 0 = .ok (.aload_n 0, 1) := by decide +kernel
theorem dX10_density_1 : decode cX10_density 1 = .ok (.iload_n 1, 1) := by decide +kernel
theorem dX10_density_2 : decode cX10_density 2 = .ok (.invokevirtual 179, 3) := by decide +kernel
theorem dX10_density_5 : decode cX10_density 5 = .ok (.aload_n 0, 1) := by decide +kernel
theorem dX10_density_6 : decode cX10_density 6 = .ok (.invokevirtual 173, 3) := by decide +kernel
theorem dX10_density_9 : decode cX10_density 9 = .ok (.aload_n 0, 1) := by decide +kernel
theorem dX10_density_10 : decode cX10_density 10 = .ok (.getfield 29, 3) := by decide +kernel
theorem dX10_density_13 : decode cX10_density 13 = .ok (.iload_n 1, 1) := by decide +kernel
theorem dX10_density_14 : decode cX10_density 14 = .ok (.invokevirtual 182, 3) := by decide +kernel
theorem dX10_density_17 : decode cX10_density 17 = .ok (.i2d, 1) := by decide +kernel
theorem dX10_density_18 : decode cX10_density 18 = .ok (.iload_n 1, 1) := by decide +kernel
theorem dX10_density_19 : decode cX10_density 19 = .ok (.invokestatic 185, 3) := by decide +kernel
theorem dX10_density_22 : decode cX10_density 22 = .ok (.i2d, 1) := by decide +kernel
theorem dX10_density_23 : decode cX10_density 23 = .ok (.ddiv, 1) := by decide +kernel
theorem dX10_density_24 : decode cX10_density 24 = .ok (.dreturn, 1) := by decide +kernel
theorem dX10_isUsed_0 : decode cX10_isUsed 0 = .ok (.aload_n 0, 1) := by decide +kernel
theorem dX10_isUsed_1 : decode cX10_isUsed 1 = .ok (.iload_n 1, 1) := by decide +kernel
theorem dX10_isUsed_2 : decode cX10_isUsed 2 = .ok (.invokevirtual 162, 3) := by decide +kernel
theorem dX10_isUsed_5 : decode cX10_isUsed 5 = .ok (.aload_n 0, 1) := by decide +kernel
theorem dX10_isUsed_6 : decode cX10_isUsed 6 = .ok (.invokevirtual 173, 3) := by decide +kernel
theorem dX10_isUsed_9 : decode cX10_isUsed 9 = .ok (.aload_n 0, 1) := by decide +kernel
theorem dX10_isUsed_10 : decode cX10_isUsed 10 = .ok (.getfield 29, 3) := by decide +kernel
theorem dX10_isUsed_13 : decode cX10_isUsed 13 = .ok (.getfield 190, 3) := by decide +kernel
theorem dX10_isUsed_16 : decode cX10_isUsed 16 = .ok (.iconst 1, 1) := by decide +kernel
theorem dX10_isUsed_17 : decode cX10_isUsed 17 = .ok (.iload_n 1, 1) := by decide +kernel
theorem dX10_isUsed_18 : decode cX10_isUsed 18 = .ok (.ishl, 1) := by decide +kernel
theorem dX10_isUsed_19 : decode cX10_isUsed 19 = .ok (.iand, 1) := by decide +kernel
theorem dX10_isUsed_20 : decode cX10_isUsed 20 = .ok (.ifCond .eq 7, 3) := by decide +kernel
theorem dX10_isUsed_23 : decode cX10_isUsed 23 = .ok (.iconst 1, 1) := by decide +kernel
theorem dX10_isUsed_24 : decode cX10_isUsed 24 = .ok (.goto 4, 3) := by decide +kernel
theorem dX10_isUsed_27 : decode cX10_isUsed 27 = .ok (.iconst 0, 1) := by decide +kernel
theorem dX10_isUsed_28 : decode cX10_isUsed 28 = .ok (.ireturn, 1) := by decide +kernel
theorem dX10_isRedundant_0 : decode cX10_isRedundant 0 = .ok (.aload_n 0, 1) := by decide +kernel
theorem dX10_isRedundant_1 : decode cX10_isRedundant 1 = .ok (.iload_n 1, 1) := by decide +kernel
theorem dX10_isRedundant_2 : decode cX10_isRedundant 2 = .ok (.invokevirtual 162, 3) := by decide +kernel
theorem dX10_isRedundant_5 : decode cX10_isRedundant 5 = .ok (.aload_n 0, 1) := by decide +kernel
theorem dX10_isRedundant_6 : decode cX10_isRedundant 6 = .ok (.invokevirtual 173, 3) := by decide +kernel
theorem dX10_isRedundant_9 : decode cX10_isRedundant 9 = .ok (.aload_n 0, 1) := by decide +kernel
theorem dX10_isRedundant_10 : decode cX10_isRedundant 10 = .ok (.getfield 29, 3) := by decide +kernel
theorem dX10_isRedundant_13 : decode cX10_isRedundant 13 = .ok (.aload_n 0, 1) := by decide +kernel
theorem dX10_isRedundant_14 : decode cX10_isRedundant 14 = .ok (.getfield 19, 3) := by decide +kernel
theorem dX10_isRedundant_17 : decode cX10_isRedundant 17 = .ok (.invokevirtual 193, 3) := by decide +kernel
theorem dX10_isRedundant_20 : decode cX10_isRedundant 20 = .ok (.iconst 1, 1) := by decide +kernel
theorem dX10_isRedundant_21 : decode cX10_isRedundant 21 = .ok (.iload_n 1, 1) := by decide +kernel
theorem dX10_isRedundant_22 : decode cX10_isRedundant 22 = .ok (.ishl, 1) := by decide +kernel
theorem dX10_isRedundant_23 : decode cX10_isRedundant 23 = .ok (.iconst (-1), 1) := by decide +kernel
theorem dX10_isRedundant_24 : decode cX10_isRedundant 24 = .ok (.ixor, 1) := by decide +kernel
theorem dX10_isRedundant_25 : decode cX10_isRedundant 25 = .ok (.iand, 1) := by decide +kernel
theorem dX10_isRedundant_26 : decode cX10_isRedundant 26 = .ok (.invokevirtual 196, 3) := by decide +kernel
theorem dX10_isRedundant_29 : decode cX10_isRedundant 29 = .ok (.ireturn, 1) := by decide +kernel
theorem dX10_minimalContexts_0 : decode cX10_minimalContexts 0 = .ok (.aload_n 0, 1) := by decide +kernel
theorem dX10_minimalContexts_1 : decode cX10_minimalContexts 1 = .ok (.invokevirtual 173, 3) := by decide +kernel
theorem dX10_minimalContexts_4 : decode cX10_minimalContexts 4 = .ok (.aload_n 0, 1) := by decide +kernel
theorem dX10_minimalContexts_5 : decode cX10_minimalContexts 5 = .ok (.getfield 29, 3) := by decide +kernel
theorem dX10_minimalContexts_8 : decode cX10_minimalContexts 8 = .ok (.aload_n 0, 1) := by decide +kernel
theorem dX10_minimalContexts_9 : decode cX10_minimalContexts 9 = .ok (.getfield 19, 3) := by decide +kernel
theorem dX10_minimalContexts_12 : decode cX10_minimalContexts 12 = .ok (.invokevirtual 193, 3) := by decide +kernel
theorem dX10_minimalContexts_15 : decode cX10_minimalContexts 15 = .ok (.invokevirtual 199, 3) := by decide +kernel
theorem dX10_minimalContexts_18 : decode cX10_minimalContexts 18 = .ok (.ireturn, 1) := by decide +kernel
theorem dX10_canFollow_0 : decode cX10_canFollow 0 = .ok (.aload_n 0, 1) := by decide +kernel
theorem dX10_canFollow_1 : decode cX10_canFollow 1 = .ok (.iload_n 1, 1) := by decide +kernel
theorem dX10_canFollow_2 : decode cX10_canFollow 2 = .ok (.invokevirtual 162, 3) := by decide +kernel
theorem dX10_canFollow_5 : decode cX10_canFollow 5 = .ok (.aload_n 0, 1) := by decide +kernel
theorem dX10_canFollow_6 : decode cX10_canFollow 6 = .ok (.iload_n 2, 1) := by decide +kernel
theorem dX10_canFollow_7 : decode cX10_canFollow 7 = .ok (.invokevirtual 162, 3) := by decide +kernel
theorem dX10_canFollow_10 : decode cX10_canFollow 10 = .ok (.aload_n 0, 1) := by decide +kernel
theorem dX10_canFollow_11 : decode cX10_canFollow 11 = .ok (.invokevirtual 173, 3) := by decide +kernel
theorem dX10_canFollow_14 : decode cX10_canFollow 14 = .ok (.aload_n 0, 1) := by decide +kernel
theorem dX10_canFollow_15 : decode cX10_canFollow 15 = .ok (.getfield 29, 3) := by decide +kernel
theorem dX10_canFollow_18 : decode cX10_canFollow 18 = .ok (.iload_n 1, 1) := by decide +kernel
theorem dX10_canFollow_19 : decode cX10_canFollow 19 = .ok (.invokevirtual 202, 3) := by decide +kernel
theorem dX10_canFollow_22 : decode cX10_canFollow 22 = .ok (.iconst 1, 1) := by decide +kernel
theorem dX10_canFollow_23 : decode cX10_canFollow 23 = .ok (.iload_n 2, 1) := by decide +kernel
theorem dX10_canFollow_24 : decode cX10_canFollow 24 = .ok (.ishl, 1) := by decide +kernel
theorem dX10_canFollow_25 : decode cX10_canFollow 25 = .ok (.iand, 1) := by decide +kernel
theorem dX10_canFollow_26 : decode cX10_canFollow 26 = .ok (.ifCond .eq 7, 3) := by decide +kernel
theorem dX10_canFollow_29 : decode cX10_canFollow 29 = .ok (.iconst 1, 1) := by decide +kernel
theorem dX10_canFollow_30 : decode cX10_canFollow 30 = .ok (.goto 4, 3) := by decide +kernel
theorem dX10_canFollow_33 : decode cX10_canFollow 33 = .ok (.iconst 0, 1) := by decide +kernel
theorem dX10_canFollow_34 : decode cX10_canFollow 34 = .ok (.ireturn, 1) := by decide +kernel
theorem dX10_shortestLoop_0 : decode cX10_shortestLoop 0 = .ok (.aload_n 0, 1) := by decide +kernel
theorem dX10_shortestLoop_1 : decode cX10_shortestLoop 1 = .ok (.iload_n 1, 1) := by decide +kernel
theorem dX10_shortestLoop_2 : decode cX10_shortestLoop 2 = .ok (.invokevirtual 162, 3) := by decide +kernel
theorem dX10_shortestLoop_5 : decode cX10_shortestLoop 5 = .ok (.aload_n 0, 1) := by decide +kernel
theorem dX10_shortestLoop_6 : decode cX10_shortestLoop 6 = .ok (.invokevirtual 173, 3) := by decide +kernel
theorem dX10_shortestLoop_9 : decode cX10_shortestLoop 9 = .ok (.aload_n 0, 1) := by decide +kernel
theorem dX10_shortestLoop_10 : decode cX10_shortestLoop 10 = .ok (.getfield 29, 3) := by decide +kernel
theorem dX10_shortestLoop_13 : decode cX10_shortestLoop 13 = .ok (.iload_n 1, 1) := by decide +kernel
theorem dX10_shortestLoop_14 : decode cX10_shortestLoop 14 = .ok (.invokevirtual 205, 3) := by decide +kernel
theorem dX10_shortestLoop_17 : decode cX10_shortestLoop 17 = .ok (.istore_n 2, 1) := by decide +kernel
theorem dX10_shortestLoop_18 : decode cX10_shortestLoop 18 = .ok (.iload_n 2, 1) := by decide +kernel
theorem dX10_shortestLoop_19 : decode cX10_shortestLoop 19 = .ok (.ifCond .ne 13, 3) := by decide +kernel
theorem dX10_shortestLoop_22 : decode cX10_shortestLoop 22 = .ok (.new 208, 3) := by decide +kernel
theorem dX10_shortestLoop_25 : decode cX10_shortestLoop 25 = .ok (.dup, 1) := by decide +kernel
theorem dX10_shortestLoop_26 : decode cX10_shortestLoop 26 = .ok (.ldc 210, 2) := by decide +kernel
theorem dX10_shortestLoop_28 : decode cX10_shortestLoop 28 = .ok (.invokespecial 212, 3) := by decide +kernel
theorem dX10_shortestLoop_31 : decode cX10_shortestLoop 31 = .ok (.athrow, 1) := by decide +kernel
theorem dX10_shortestLoop_32 : decode cX10_shortestLoop 32 = .ok (.iload_n 2, 1) := by decide +kernel
theorem dX10_shortestLoop_33 : decode cX10_shortestLoop 33 = .ok (.ireturn, 1) := by decide +kernel
theorem dX10_isConfluent_0 : decode cX10_isConfluent 0 = .ok (.aload_n 0, 1) := by decide +kernel
theorem dX10_isConfluent_1 : decode cX10_isConfluent 1 = .ok (.invokevirtual 173, 3) := by decide +kernel
theorem dX10_isConfluent_4 : decode cX10_isConfluent 4 = .ok (.aload_n 0, 1) := by decide +kernel
theorem dX10_isConfluent_5 : decode cX10_isConfluent 5 = .ok (.getfield 36, 3) := by decide +kernel
theorem dX10_isConfluent_8 : decode cX10_isConfluent 8 = .ok (.aload_n 0, 1) := by decide +kernel
theorem dX10_isConfluent_9 : decode cX10_isConfluent 9 = .ok (.getfield 19, 3) := by decide +kernel
theorem dX10_isConfluent_12 : decode cX10_isConfluent 12 = .ok (.aload_n 0, 1) := by decide +kernel
theorem dX10_isConfluent_13 : decode cX10_isConfluent 13 = .ok (.getfield 29, 3) := by decide +kernel
theorem dX10_isConfluent_16 : decode cX10_isConfluent 16 = .ok (.invokevirtual 213, 3) := by decide +kernel
theorem dX10_isConfluent_19 : decode cX10_isConfluent 19 = .ok (.ireturn, 1) := by decide +kernel
theorem dX10_clearWord_0 : decode cX10_clearWord 0 = .ok (.aload_n 0, 1) := by decide +kernel
theorem dX10_clearWord_1 : decode cX10_clearWord 1 = .ok (.iconst 0, 1) := by decide +kernel
theorem dX10_clearWord_2 : decode cX10_clearWord 2 = .ok (.putfield 217, 3) := by decide +kernel
theorem dX10_clearWord_5 : decode cX10_clearWord 5 = .ok (.return_, 1) := by decide +kernel
theorem dX10_addLetter_0 : decode cX10_addLetter 0 = .ok (.iload_n 1, 1) := by decide +kernel
theorem dX10_addLetter_1 : decode cX10_addLetter 1 = .ok (.bipush 97, 2) := by decide +kernel
theorem dX10_addLetter_3 : decode cX10_addLetter 3 = .ok (.if_icmp .lt 9, 3) := by decide +kernel
theorem dX10_addLetter_6 : decode cX10_addLetter 6 = .ok (.iload_n 1, 1) := by decide +kernel
theorem dX10_addLetter_7 : decode cX10_addLetter 7 = .ok (.bipush 99, 2) := by decide +kernel
theorem dX10_addLetter_9 : decode cX10_addLetter 9 = .ok (.if_icmp .le 13, 3) := by decide +kernel
theorem dX10_addLetter_12 : decode cX10_addLetter 12 = .ok (.new 80, 3) := by decide +kernel
theorem dX10_addLetter_15 : decode cX10_addLetter 15 = .ok (.dup, 1) := by decide +kernel
theorem dX10_addLetter_16 : decode cX10_addLetter 16 = .ok (.ldc 218, 2) := by decide +kernel
theorem dX10_addLetter_18 : decode cX10_addLetter 18 = .ok (.invokespecial 84, 3) := by decide +kernel
theorem dX10_addLetter_21 : decode cX10_addLetter 21 = .ok (.athrow, 1) := by decide +kernel
theorem dX10_addLetter_22 : decode cX10_addLetter 22 = .ok (.aload_n 0, 1) := by decide +kernel
theorem dX10_addLetter_23 : decode cX10_addLetter 23 = .ok (.getfield 217, 3) := by decide +kernel
theorem dX10_addLetter_26 : decode cX10_addLetter 26 = .ok (.invokestatic 220, 3) := by decide +kernel
theorem dX10_addLetter_29 : decode cX10_addLetter 29 = .ok (.bipush 9, 2) := by decide +kernel
theorem dX10_addLetter_31 : decode cX10_addLetter 31 = .ok (.if_icmp .lt 13, 3) := by decide +kernel
theorem dX10_addLetter_34 : decode cX10_addLetter 34 = .ok (.new 63, 3) := by decide +kernel
theorem dX10_addLetter_37 : decode cX10_addLetter 37 = .ok (.dup, 1) := by decide +kernel
theorem dX10_addLetter_38 : decode cX10_addLetter 38 = .ok (.ldc 222, 2) := by decide +kernel
theorem dX10_addLetter_40 : decode cX10_addLetter 40 = .ok (.invokespecial 67, 3) := by decide +kernel
theorem dX10_addLetter_43 : decode cX10_addLetter 43 = .ok (.athrow, 1) := by decide +kernel
theorem dX10_addLetter_44 : decode cX10_addLetter 44 = .ok (.aload_n 0, 1) := by decide +kernel
theorem dX10_addLetter_45 : decode cX10_addLetter 45 = .ok (.aload_n 0, 1) := by decide +kernel
theorem dX10_addLetter_46 : decode cX10_addLetter 46 = .ok (.getfield 217, 3) := by decide +kernel
theorem dX10_addLetter_49 : decode cX10_addLetter 49 = .ok (.iload_n 1, 1) := by decide +kernel
theorem dX10_addLetter_50 : decode cX10_addLetter 50 = .ok (.bipush 97, 2) := by decide +kernel
theorem dX10_addLetter_52 : decode cX10_addLetter 52 = .ok (.isub, 1) := by decide +kernel
theorem dX10_addLetter_53 : decode cX10_addLetter 53 = .ok (.invokestatic 224, 3) := by decide +kernel
theorem dX10_addLetter_56 : decode cX10_addLetter 56 = .ok (.putfield 217, 3) := by decide +kernel
theorem dX10_addLetter_59 : decode cX10_addLetter 59 = .ok (.return_, 1) := by decide +kernel
theorem dX10_takeAxiom_0 : decode cX10_takeAxiom 0 = .ok (.aload_n 0, 1) := by decide +kernel
theorem dX10_takeAxiom_1 : decode cX10_takeAxiom 1 = .ok (.iload_n 1, 1) := by decide +kernel
theorem dX10_takeAxiom_2 : decode cX10_takeAxiom 2 = .ok (.invokevirtual 156, 3) := by decide +kernel
theorem dX10_takeAxiom_5 : decode cX10_takeAxiom 5 = .ok (.aload_n 0, 1) := by decide +kernel
theorem dX10_takeAxiom_6 : decode cX10_takeAxiom 6 = .ok (.aload_n 0, 1) := by decide +kernel
theorem dX10_takeAxiom_7 : decode cX10_takeAxiom 7 = .ok (.getfield 19, 3) := by decide +kernel
theorem dX10_takeAxiom_10 : decode cX10_takeAxiom 10 = .ok (.iload_n 1, 1) := by decide +kernel
theorem dX10_takeAxiom_11 : decode cX10_takeAxiom 11 = .ok (.invokevirtual 227, 3) := by decide +kernel
theorem dX10_takeAxiom_14 : decode cX10_takeAxiom 14 = .ok (.putfield 217, 3) := by decide +kernel
theorem dX10_takeAxiom_17 : decode cX10_takeAxiom 17 = .ok (.return_, 1) := by decide +kernel
theorem dX10_takeWord_0 : decode cX10_takeWord 0 = .ok (.aload_n 0, 1) := by decide +kernel
theorem dX10_takeWord_1 : decode cX10_takeWord 1 = .ok (.invokevirtual 173, 3) := by decide +kernel
theorem dX10_takeWord_4 : decode cX10_takeWord 4 = .ok (.aload_n 0, 1) := by decide +kernel
theorem dX10_takeWord_5 : decode cX10_takeWord 5 = .ok (.iload_n 1, 1) := by decide +kernel
theorem dX10_takeWord_6 : decode cX10_takeWord 6 = .ok (.aload_n 0, 1) := by decide +kernel
theorem dX10_takeWord_7 : decode cX10_takeWord 7 = .ok (.getfield 29, 3) := by decide +kernel
theorem dX10_takeWord_10 : decode cX10_takeWord 10 = .ok (.getfield 176, 3) := by decide +kernel
theorem dX10_takeWord_13 : decode cX10_takeWord 13 = .ok (.invokevirtual 230, 3) := by decide +kernel
theorem dX10_takeWord_16 : decode cX10_takeWord 16 = .ok (.aload_n 0, 1) := by decide +kernel
theorem dX10_takeWord_17 : decode cX10_takeWord 17 = .ok (.aload_n 0, 1) := by decide +kernel
theorem dX10_takeWord_18 : decode cX10_takeWord 18 = .ok (.getfield 29, 3) := by decide +kernel
theorem dX10_takeWord_21 : decode cX10_takeWord 21 = .ok (.iload_n 1, 1) := by decide +kernel
theorem dX10_takeWord_22 : decode cX10_takeWord 22 = .ok (.invokevirtual 234, 3) := by decide +kernel
theorem dX10_takeWord_25 : decode cX10_takeWord 25 = .ok (.putfield 217, 3) := by decide +kernel
theorem dX10_takeWord_28 : decode cX10_takeWord 28 = .ok (.return_, 1) := by decide +kernel
theorem dX10_wordLength_0 : decode cX10_wordLength 0 = .ok (.aload_n 0, 1) := by decide +kernel
theorem dX10_wordLength_1 : decode cX10_wordLength 1 = .ok (.getfield 217, 3) := by decide +kernel
theorem dX10_wordLength_4 : decode cX10_wordLength 4 = .ok (.invokestatic 220, 3) := by decide +kernel
theorem dX10_wordLength_7 : decode cX10_wordLength 7 = .ok (.ireturn, 1) := by decide +kernel
theorem dX10_letterAt_0 : decode cX10_letterAt 0 = .ok (.aload_n 0, 1) := by decide +kernel
theorem dX10_letterAt_1 : decode cX10_letterAt 1 = .ok (.getfield 217, 3) := by decide +kernel
theorem dX10_letterAt_4 : decode cX10_letterAt 4 = .ok (.invokestatic 220, 3) := by decide +kernel
theorem dX10_letterAt_7 : decode cX10_letterAt 7 = .ok (.istore_n 2, 1) := by decide +kernel
theorem dX10_letterAt_8 : decode cX10_letterAt 8 = .ok (.aload_n 0, 1) := by decide +kernel
theorem dX10_letterAt_9 : decode cX10_letterAt 9 = .ok (.iload_n 1, 1) := by decide +kernel
theorem dX10_letterAt_10 : decode cX10_letterAt 10 = .ok (.iload_n 2, 1) := by decide +kernel
theorem dX10_letterAt_11 : decode cX10_letterAt 11 = .ok (.invokevirtual 230, 3) := by decide +kernel
theorem dX10_letterAt_14 : decode cX10_letterAt 14 = .ok (.bipush 97, 2) := by decide +kernel
theorem dX10_letterAt_16 : decode cX10_letterAt 16 = .ok (.aload_n 0, 1) := by decide +kernel
theorem dX10_letterAt_17 : decode cX10_letterAt 17 = .ok (.getfield 217, 3) := by decide +kernel
theorem dX10_letterAt_20 : decode cX10_letterAt 20 = .ok (.iload_n 2, 1) := by decide +kernel
theorem dX10_letterAt_21 : decode cX10_letterAt 21 = .ok (.iload_n 1, 1) := by decide +kernel
theorem dX10_letterAt_22 : decode cX10_letterAt 22 = .ok (.iload_n 1, 1) := by decide +kernel
theorem dX10_letterAt_23 : decode cX10_letterAt 23 = .ok (.iconst 1, 1) := by decide +kernel
theorem dX10_letterAt_24 : decode cX10_letterAt 24 = .ok (.iadd, 1) := by decide +kernel
theorem dX10_letterAt_25 : decode cX10_letterAt 25 = .ok (.invokestatic 237, 3) := by decide +kernel
theorem dX10_letterAt_28 : decode cX10_letterAt 28 = .ok (.iadd, 1) := by decide +kernel
theorem dX10_letterAt_29 : decode cX10_letterAt 29 = .ok (.iconst 1, 1) := by decide +kernel
theorem dX10_letterAt_30 : decode cX10_letterAt 30 = .ok (.isub, 1) := by decide +kernel
theorem dX10_letterAt_31 : decode cX10_letterAt 31 = .ok (.i2c, 1) := by decide +kernel
theorem dX10_letterAt_32 : decode cX10_letterAt 32 = .ok (.ireturn, 1) := by decide +kernel
theorem dX10_isGenerated_0 : decode cX10_isGenerated 0 = .ok (.aload_n 0, 1) := by decide +kernel
theorem dX10_isGenerated_1 : decode cX10_isGenerated 1 = .ok (.invokevirtual 173, 3) := by decide +kernel
theorem dX10_isGenerated_4 : decode cX10_isGenerated 4 = .ok (.aload_n 0, 1) := by decide +kernel
theorem dX10_isGenerated_5 : decode cX10_isGenerated 5 = .ok (.getfield 29, 3) := by decide +kernel
theorem dX10_isGenerated_8 : decode cX10_isGenerated 8 = .ok (.aload_n 0, 1) := by decide +kernel
theorem dX10_isGenerated_9 : decode cX10_isGenerated 9 = .ok (.getfield 217, 3) := by decide +kernel
theorem dX10_isGenerated_12 : decode cX10_isGenerated 12 = .ok (.invokevirtual 241, 3) := by decide +kernel
theorem dX10_isGenerated_15 : decode cX10_isGenerated 15 = .ok (.ifCond .lt 7, 3) := by decide +kernel
theorem dX10_isGenerated_18 : decode cX10_isGenerated 18 = .ok (.iconst 1, 1) := by decide +kernel
theorem dX10_isGenerated_19 : decode cX10_isGenerated 19 = .ok (.goto 4, 3) := by decide +kernel
theorem dX10_isGenerated_22 : decode cX10_isGenerated 22 = .ok (.iconst 0, 1) := by decide +kernel
theorem dX10_isGenerated_23 : decode cX10_isGenerated 23 = .ok (.ireturn, 1) := by decide +kernel
theorem dX10_rank_0 : decode cX10_rank 0 = .ok (.aload_n 0, 1) := by decide +kernel
theorem dX10_rank_1 : decode cX10_rank 1 = .ok (.invokevirtual 173, 3) := by decide +kernel
theorem dX10_rank_4 : decode cX10_rank 4 = .ok (.aload_n 0, 1) := by decide +kernel
theorem dX10_rank_5 : decode cX10_rank 5 = .ok (.invokevirtual 244, 3) := by decide +kernel
theorem dX10_rank_8 : decode cX10_rank 8 = .ok (.ireturn, 1) := by decide +kernel
theorem dX10_derivationLength_0 : decode cX10_derivationLength 0 = .ok (.aload_n 0, 1) := by decide +kernel
theorem dX10_derivationLength_1 : decode cX10_derivationLength 1 = .ok (.invokevirtual 173, 3) := by decide +kernel
theorem dX10_derivationLength_4 : decode cX10_derivationLength 4 = .ok (.aload_n 0, 1) := by decide +kernel
theorem dX10_derivationLength_5 : decode cX10_derivationLength 5 = .ok (.getfield 29, 3) := by decide +kernel
theorem dX10_derivationLength_8 : decode cX10_derivationLength 8 = .ok (.aload_n 0, 1) := by decide +kernel
theorem dX10_derivationLength_9 : decode cX10_derivationLength 9 = .ok (.invokevirtual 244, 3) := by decide +kernel
theorem dX10_derivationLength_12 : decode cX10_derivationLength 12 = .ok (.invokevirtual 247, 3) := by decide +kernel
theorem dX10_derivationLength_15 : decode cX10_derivationLength 15 = .ok (.ireturn, 1) := by decide +kernel
theorem dX10_derivationStep_0 : decode cX10_derivationStep 0 = .ok (.iload_n 2, 1) := by decide +kernel
theorem dX10_derivationStep_1 : decode cX10_derivationStep 1 = .ok (.ifCond .lt 8, 3) := by decide +kernel
theorem dX10_derivationStep_4 : decode cX10_derivationStep 4 = .ok (.iload_n 2, 1) := by decide +kernel
theorem dX10_derivationStep_5 : decode cX10_derivationStep 5 = .ok (.iconst 2, 1) := by decide +kernel
theorem dX10_derivationStep_6 : decode cX10_derivationStep 6 = .ok (.if_icmp .le 13, 3) := by decide +kernel
theorem dX10_derivationStep_9 : decode cX10_derivationStep 9 = .ok (.new 80, 3) := by decide +kernel
theorem dX10_derivationStep_12 : decode cX10_derivationStep 12 = .ok (.dup, 1) := by decide +kernel
theorem dX10_derivationStep_13 : decode cX10_derivationStep 13 = .ok (.ldc 250, 2) := by decide +kernel
theorem dX10_derivationStep_15 : decode cX10_derivationStep 15 = .ok (.invokespecial 84, 3) := by decide +kernel
theorem dX10_derivationStep_18 : decode cX10_derivationStep 18 = .ok (.athrow, 1) := by decide +kernel
theorem dX10_derivationStep_19 : decode cX10_derivationStep 19 = .ok (.aload_n 0, 1) := by decide +kernel
theorem dX10_derivationStep_20 : decode cX10_derivationStep 20 = .ok (.invokevirtual 173, 3) := by decide +kernel
theorem dX10_derivationStep_23 : decode cX10_derivationStep 23 = .ok (.aload_n 0, 1) := by decide +kernel
theorem dX10_derivationStep_24 : decode cX10_derivationStep 24 = .ok (.invokevirtual 244, 3) := by decide +kernel
theorem dX10_derivationStep_27 : decode cX10_derivationStep 27 = .ok (.istore_n 3, 1) := by decide +kernel
theorem dX10_derivationStep_28 : decode cX10_derivationStep 28 = .ok (.aload_n 0, 1) := by decide +kernel
theorem dX10_derivationStep_29 : decode cX10_derivationStep 29 = .ok (.iload_n 1, 1) := by decide +kernel
theorem dX10_derivationStep_30 : decode cX10_derivationStep 30 = .ok (.aload_n 0, 1) := by decide +kernel
theorem dX10_derivationStep_31 : decode cX10_derivationStep 31 = .ok (.getfield 29, 3) := by decide +kernel
theorem dX10_derivationStep_34 : decode cX10_derivationStep 34 = .ok (.iload_n 3, 1) := by decide +kernel
theorem dX10_derivationStep_35 : decode cX10_derivationStep 35 = .ok (.invokevirtual 247, 3) := by decide +kernel
theorem dX10_derivationStep_38 : decode cX10_derivationStep 38 = .ok (.invokevirtual 230, 3) := by decide +kernel
theorem dX10_derivationStep_41 : decode cX10_derivationStep 41 = .ok (.aload_n 0, 1) := by decide +kernel
theorem dX10_derivationStep_42 : decode cX10_derivationStep 42 = .ok (.getfield 29, 3) := by decide +kernel
theorem dX10_derivationStep_45 : decode cX10_derivationStep 45 = .ok (.iload_n 3, 1) := by decide +kernel
theorem dX10_derivationStep_46 : decode cX10_derivationStep 46 = .ok (.iload_n 1, 1) := by decide +kernel
theorem dX10_derivationStep_47 : decode cX10_derivationStep 47 = .ok (.invokevirtual 252, 3) := by decide +kernel
theorem dX10_derivationStep_50 : decode cX10_derivationStep 50 = .ok (.istore 4, 2) := by decide +kernel
theorem dX10_derivationStep_52 : decode cX10_derivationStep 52 = .ok (.iload_n 2, 1) := by decide +kernel
theorem dX10_derivationStep_53 : decode cX10_derivationStep 53 = .ok (.ifCond .ne 9, 3) := by decide +kernel
theorem dX10_derivationStep_56 : decode cX10_derivationStep 56 = .ok (.iload 4, 2) := by decide +kernel
theorem dX10_derivationStep_58 : decode cX10_derivationStep 58 = .ok (.invokestatic 255, 3) := by decide +kernel
theorem dX10_derivationStep_61 : decode cX10_derivationStep 61 = .ok (.ireturn, 1) := by decide +kernel
theorem dX10_derivationStep_62 : decode cX10_derivationStep 62 = .ok (.iload_n 2, 1) := by decide +kernel
theorem dX10_derivationStep_63 : decode cX10_derivationStep 63 = .ok (.iconst 1, 1) := by decide +kernel
theorem dX10_derivationStep_64 : decode cX10_derivationStep 64 = .ok (.if_icmp .ne 11, 3) := by decide +kernel
theorem dX10_derivationStep_67 : decode cX10_derivationStep 67 = .ok (.iload 4, 2) := by decide +kernel
theorem dX10_derivationStep_69 : decode cX10_derivationStep 69 = .ok (.invokestatic 260, 3) := by decide +kernel
theorem dX10_derivationStep_72 : decode cX10_derivationStep 72 = .ok (.goto 8, 3) := by decide +kernel
theorem dX10_derivationStep_75 : decode cX10_derivationStep 75 = .ok (.iload 4, 2) := by decide +kernel
theorem dX10_derivationStep_77 : decode cX10_derivationStep 77 = .ok (.invokestatic 263, 3) := by decide +kernel
theorem dX10_derivationStep_80 : decode cX10_derivationStep 80 = .ok (.ireturn, 1) := by decide +kernel
theorem dX10_derivations_0 : decode cX10_derivations 0 = .ok (.aload_n 0, 1) := by decide +kernel
theorem dX10_derivations_1 : decode cX10_derivations 1 = .ok (.invokevirtual 173, 3) := by decide +kernel
theorem dX10_derivations_4 : decode cX10_derivations 4 = .ok (.aload_n 0, 1) := by decide +kernel
theorem dX10_derivations_5 : decode cX10_derivations 5 = .ok (.getfield 29, 3) := by decide +kernel
theorem dX10_derivations_8 : decode cX10_derivations 8 = .ok (.aload_n 0, 1) := by decide +kernel
theorem dX10_derivations_9 : decode cX10_derivations 9 = .ok (.getfield 29, 3) := by decide +kernel
theorem dX10_derivations_12 : decode cX10_derivations 12 = .ok (.aload_n 0, 1) := by decide +kernel
theorem dX10_derivations_13 : decode cX10_derivations 13 = .ok (.getfield 217, 3) := by decide +kernel
theorem dX10_derivations_16 : decode cX10_derivations 16 = .ok (.invokevirtual 241, 3) := by decide +kernel
theorem dX10_derivations_19 : decode cX10_derivations 19 = .ok (.invokevirtual 266, 3) := by decide +kernel
theorem dX10_derivations_22 : decode cX10_derivations 22 = .ok (.lreturn, 1) := by decide +kernel
theorem dX10_insertions_0 : decode cX10_insertions 0 = .ok (.aload_n 0, 1) := by decide +kernel
theorem dX10_insertions_1 : decode cX10_insertions 1 = .ok (.getfield 19, 3) := by decide +kernel
theorem dX10_insertions_4 : decode cX10_insertions 4 = .ok (.aload_n 0, 1) := by decide +kernel
theorem dX10_insertions_5 : decode cX10_insertions 5 = .ok (.getfield 217, 3) := by decide +kernel
theorem dX10_insertions_8 : decode cX10_insertions 8 = .ok (.aload_n 0, 1) := by decide +kernel
theorem dX10_insertions_9 : decode cX10_insertions 9 = .ok (.getfield 40, 3) := by decide +kernel
theorem dX10_insertions_12 : decode cX10_insertions 12 = .ok (.invokevirtual 270, 3) := by decide +kernel
theorem dX10_insertions_15 : decode cX10_insertions 15 = .ok (.ireturn, 1) := by decide +kernel
theorem dX10_insert_0 : decode cX10_insert 0 = .ok (.aload_n 0, 1) := by decide +kernel
theorem dX10_insert_1 : decode cX10_insert 1 = .ok (.iload_n 1, 1) := by decide +kernel
theorem dX10_insert_2 : decode cX10_insert 2 = .ok (.aload_n 0, 1) := by decide +kernel
theorem dX10_insert_3 : decode cX10_insert 3 = .ok (.getfield 19, 3) := by decide +kernel
theorem dX10_insert_6 : decode cX10_insert 6 = .ok (.aload_n 0, 1) := by decide +kernel
theorem dX10_insert_7 : decode cX10_insert 7 = .ok (.getfield 217, 3) := by decide +kernel
theorem dX10_insert_10 : decode cX10_insert 10 = .ok (.aload_n 0, 1) := by decide +kernel
theorem dX10_insert_11 : decode cX10_insert 11 = .ok (.getfield 40, 3) := by decide +kernel
theorem dX10_insert_14 : decode cX10_insert 14 = .ok (.invokevirtual 270, 3) := by decide +kernel
theorem dX10_insert_17 : decode cX10_insert 17 = .ok (.invokevirtual 230, 3) := by decide +kernel
theorem dX10_insert_20 : decode cX10_insert 20 = .ok (.aload_n 0, 1) := by decide +kernel
theorem dX10_insert_21 : decode cX10_insert 21 = .ok (.aload_n 0, 1) := by decide +kernel
theorem dX10_insert_22 : decode cX10_insert 22 = .ok (.getfield 40, 3) := by decide +kernel
theorem dX10_insert_25 : decode cX10_insert 25 = .ok (.iload_n 1, 1) := by decide +kernel
theorem dX10_insert_26 : decode cX10_insert 26 = .ok (.invokestatic 274, 3) := by decide +kernel
theorem dX10_insert_29 : decode cX10_insert 29 = .ok (.invokevirtual 280, 3) := by decide +kernel
theorem dX10_insert_32 : decode cX10_insert 32 = .ok (.ireturn, 1) := by decide +kernel
theorem dX10_reductions_0 : decode cX10_reductions 0 = .ok (.aload_n 0, 1) := by decide +kernel
theorem dX10_reductions_1 : decode cX10_reductions 1 = .ok (.getfield 19, 3) := by decide +kernel
theorem dX10_reductions_4 : decode cX10_reductions 4 = .ok (.aload_n 0, 1) := by decide +kernel
theorem dX10_reductions_5 : decode cX10_reductions 5 = .ok (.getfield 217, 3) := by decide +kernel
theorem dX10_reductions_8 : decode cX10_reductions 8 = .ok (.aload_n 0, 1) := by decide +kernel
theorem dX10_reductions_9 : decode cX10_reductions 9 = .ok (.getfield 40, 3) := by decide +kernel
theorem dX10_reductions_12 : decode cX10_reductions 12 = .ok (.invokevirtual 283, 3) := by decide +kernel
theorem dX10_reductions_15 : decode cX10_reductions 15 = .ok (.ireturn, 1) := by decide +kernel
theorem dX10_reduce_0 : decode cX10_reduce 0 = .ok (.aload_n 0, 1) := by decide +kernel
theorem dX10_reduce_1 : decode cX10_reduce 1 = .ok (.getfield 19, 3) := by decide +kernel
theorem dX10_reduce_4 : decode cX10_reduce 4 = .ok (.aload_n 0, 1) := by decide +kernel
theorem dX10_reduce_5 : decode cX10_reduce 5 = .ok (.getfield 217, 3) := by decide +kernel
theorem dX10_reduce_8 : decode cX10_reduce 8 = .ok (.aload_n 0, 1) := by decide +kernel
theorem dX10_reduce_9 : decode cX10_reduce 9 = .ok (.getfield 40, 3) := by decide +kernel
theorem dX10_reduce_12 : decode cX10_reduce 12 = .ok (.invokevirtual 283, 3) := by decide +kernel
theorem dX10_reduce_15 : decode cX10_reduce 15 = .ok (.istore_n 2, 1) := by decide +kernel
theorem dX10_reduce_16 : decode cX10_reduce 16 = .ok (.aload_n 0, 1) := by decide +kernel
theorem dX10_reduce_17 : decode cX10_reduce 17 = .ok (.iload_n 1, 1) := by decide +kernel
theorem dX10_reduce_18 : decode cX10_reduce 18 = .ok (.iload_n 2, 1) := by decide +kernel
theorem dX10_reduce_19 : decode cX10_reduce 19 = .ok (.invokevirtual 230, 3) := by decide +kernel
theorem dX10_reduce_22 : decode cX10_reduce 22 = .ok (.aload_n 0, 1) := by decide +kernel
theorem dX10_reduce_23 : decode cX10_reduce 23 = .ok (.getfield 40, 3) := by decide +kernel
theorem dX10_reduce_26 : decode cX10_reduce 26 = .ok (.iload_n 2, 1) := by decide +kernel
theorem dX10_reduce_27 : decode cX10_reduce 27 = .ok (.invokestatic 286, 3) := by decide +kernel
theorem dX10_reduce_30 : decode cX10_reduce 30 = .ok (.aload_n 0, 1) := by decide +kernel
theorem dX10_reduce_31 : decode cX10_reduce 31 = .ok (.aload_n 0, 1) := by decide +kernel
theorem dX10_reduce_32 : decode cX10_reduce 32 = .ok (.getfield 40, 3) := by decide +kernel
theorem dX10_reduce_35 : decode cX10_reduce 35 = .ok (.iload_n 1, 1) := by decide +kernel
theorem dX10_reduce_36 : decode cX10_reduce 36 = .ok (.invokestatic 274, 3) := by decide +kernel
theorem dX10_reduce_39 : decode cX10_reduce 39 = .ok (.invokevirtual 280, 3) := by decide +kernel
theorem dX10_reduce_42 : decode cX10_reduce 42 = .ok (.ireturn, 1) := by decide +kernel
theorem dX10_makeMove_0 : decode cX10_makeMove 0 = .ok (.aload_n 0, 1) := by decide +kernel
theorem dX10_makeMove_1 : decode cX10_makeMove 1 = .ok (.iload_n 1, 1) := by decide +kernel
theorem dX10_makeMove_2 : decode cX10_makeMove 2 = .ok (.invokestatic 290, 3) := by decide +kernel
theorem dX10_makeMove_5 : decode cX10_makeMove 5 = .ok (.putfield 217, 3) := by decide +kernel
theorem dX10_makeMove_8 : decode cX10_makeMove 8 = .ok (.iload_n 1, 1) := by decide +kernel
theorem dX10_makeMove_9 : decode cX10_makeMove 9 = .ok (.invokestatic 255, 3) := by decide +kernel
theorem dX10_makeMove_12 : decode cX10_makeMove 12 = .ok (.ireturn, 1) := by decide +kernel
theorem dX10_normalForms_0 : decode cX10_normalForms 0 = .ok (.aload_n 0, 1) := by decide +kernel
theorem dX10_normalForms_1 : decode cX10_normalForms 1 = .ok (.getfield 36, 3) := by decide +kernel
theorem dX10_normalForms_4 : decode cX10_normalForms 4 = .ok (.aload_n 0, 1) := by decide +kernel
theorem dX10_normalForms_5 : decode cX10_normalForms 5 = .ok (.getfield 19, 3) := by decide +kernel
theorem dX10_normalForms_8 : decode cX10_normalForms 8 = .ok (.aload_n 0, 1) := by decide +kernel
theorem dX10_normalForms_9 : decode cX10_normalForms 9 = .ok (.getfield 217, 3) := by decide +kernel
theorem dX10_normalForms_12 : decode cX10_normalForms 12 = .ok (.invokevirtual 292, 3) := by decide +kernel
theorem dX10_normalForms_15 : decode cX10_normalForms 15 = .ok (.aload_n 0, 1) := by decide +kernel
theorem dX10_normalForms_16 : decode cX10_normalForms 16 = .ok (.getfield 36, 3) := by decide +kernel
theorem dX10_normalForms_19 : decode cX10_normalForms 19 = .ok (.getfield 296, 3) := by decide +kernel
theorem dX10_normalForms_22 : decode cX10_normalForms 22 = .ok (.ireturn, 1) := by decide +kernel
theorem dX10_normalize_0 : decode cX10_normalize 0 = .ok (.aload_n 0, 1) := by decide +kernel
theorem dX10_normalize_1 : decode cX10_normalize 1 = .ok (.getfield 36, 3) := by decide +kernel
theorem dX10_normalize_4 : decode cX10_normalize 4 = .ok (.aload_n 0, 1) := by decide +kernel
theorem dX10_normalize_5 : decode cX10_normalize 5 = .ok (.getfield 19, 3) := by decide +kernel
theorem dX10_normalize_8 : decode cX10_normalize 8 = .ok (.aload_n 0, 1) := by decide +kernel
theorem dX10_normalize_9 : decode cX10_normalize 9 = .ok (.getfield 217, 3) := by decide +kernel
theorem dX10_normalize_12 : decode cX10_normalize 12 = .ok (.invokevirtual 292, 3) := by decide +kernel
theorem dX10_normalize_15 : decode cX10_normalize 15 = .ok (.aload_n 0, 1) := by decide +kernel
theorem dX10_normalize_16 : decode cX10_normalize 16 = .ok (.iload_n 1, 1) := by decide +kernel
theorem dX10_normalize_17 : decode cX10_normalize 17 = .ok (.aload_n 0, 1) := by decide +kernel
theorem dX10_normalize_18 : decode cX10_normalize 18 = .ok (.getfield 36, 3) := by decide +kernel
theorem dX10_normalize_21 : decode cX10_normalize 21 = .ok (.getfield 296, 3) := by decide +kernel
theorem dX10_normalize_24 : decode cX10_normalize 24 = .ok (.invokevirtual 230, 3) := by decide +kernel
theorem dX10_normalize_27 : decode cX10_normalize 27 = .ok (.aload_n 0, 1) := by decide +kernel
theorem dX10_normalize_28 : decode cX10_normalize 28 = .ok (.aload_n 0, 1) := by decide +kernel
theorem dX10_normalize_29 : decode cX10_normalize 29 = .ok (.getfield 36, 3) := by decide +kernel
theorem dX10_normalize_32 : decode cX10_normalize 32 = .ok (.iload_n 1, 1) := by decide +kernel
theorem dX10_normalize_33 : decode cX10_normalize 33 = .ok (.invokevirtual 299, 3) := by decide +kernel
theorem dX10_normalize_36 : decode cX10_normalize 36 = .ok (.putfield 217, 3) := by decide +kernel
theorem dX10_normalize_39 : decode cX10_normalize 39 = .ok (.return_, 1) := by decide +kernel
theorem dX10_allocate_0 : decode cX10_allocate 0 = .ok (.aload_n 0, 1) := by decide +kernel
theorem dX10_allocate_1 : decode cX10_allocate 1 = .ok (.iload_n 1, 1) := by decide +kernel
theorem dX10_allocate_2 : decode cX10_allocate 2 = .ok (.invokevirtual 302, 3) := by decide +kernel
theorem dX10_allocate_5 : decode cX10_allocate 5 = .ok (.astore 4, 2) := by decide +kernel
theorem dX10_allocate_7 : decode cX10_allocate 7 = .ok (.iload_n 2, 1) := by decide +kernel
theorem dX10_allocate_8 : decode cX10_allocate 8 = .ok (.ifCond .lt 18, 3) := by decide +kernel
theorem dX10_allocate_11 : decode cX10_allocate 11 = .ok (.iload_n 2, 1) := by decide +kernel
theorem dX10_allocate_12 : decode cX10_allocate 12 = .ok (.iconst 2, 1) := by decide +kernel
theorem dX10_allocate_13 : decode cX10_allocate 13 = .ok (.if_icmp .gt 13, 3) := by decide +kernel
theorem dX10_allocate_16 : decode cX10_allocate 16 = .ok (.iload_n 3, 1) := by decide +kernel
theorem dX10_allocate_17 : decode cX10_allocate 17 = .ok (.ifCond .lt 9, 3) := by decide +kernel
theorem dX10_allocate_20 : decode cX10_allocate 20 = .ok (.iload_n 3, 1) := by decide +kernel
theorem dX10_allocate_21 : decode cX10_allocate 21 = .ok (.bipush 20, 2) := by decide +kernel
theorem dX10_allocate_23 : decode cX10_allocate 23 = .ok (.if_icmp .le 14, 3) := by decide +kernel
theorem dX10_allocate_26 : decode cX10_allocate 26 = .ok (.new 80, 3) := by decide +kernel
theorem dX10_allocate_29 : decode cX10_allocate 29 = .ok (.dup, 1) := by decide +kernel
theorem dX10_allocate_30 : decode cX10_allocate 30 = .ok (.ldc_w 306, 3) := by decide +kernel
theorem dX10_allocate_33 : decode cX10_allocate 33 = .ok (.invokespecial 84, 3) := by decide +kernel
theorem dX10_allocate_36 : decode cX10_allocate 36 = .ok (.athrow, 1) := by decide +kernel
theorem dX10_allocate_37 : decode cX10_allocate 37 = .ok (.aload 4, 2) := by decide +kernel
theorem dX10_allocate_39 : decode cX10_allocate 39 = .ok (.iload_n 2, 1) := by decide +kernel
theorem dX10_allocate_40 : decode cX10_allocate 40 = .ok (.iload_n 3, 1) := by decide +kernel
theorem dX10_allocate_41 : decode cX10_allocate 41 = .ok (.invokevirtual 308, 3) := by decide +kernel
theorem dX10_allocate_44 : decode cX10_allocate 44 = .ok (.return_, 1) := by decide +kernel
theorem dX10_store_0 : decode cX10_store 0 = .ok (.aload_n 0, 1) := by decide +kernel
theorem dX10_store_1 : decode cX10_store 1 = .ok (.iload_n 1, 1) := by decide +kernel
theorem dX10_store_2 : decode cX10_store 2 = .ok (.invokevirtual 302, 3) := by decide +kernel
theorem dX10_store_5 : decode cX10_store 5 = .ok (.astore 4, 2) := by decide +kernel
theorem dX10_store_7 : decode cX10_store 7 = .ok (.aload_n 0, 1) := by decide +kernel
theorem dX10_store_8 : decode cX10_store 8 = .ok (.aload 4, 2) := by decide +kernel
theorem dX10_store_10 : decode cX10_store 10 = .ok (.invokevirtual 311, 3) := by decide +kernel
theorem dX10_store_13 : decode cX10_store 13 = .ok (.aload_n 0, 1) := by decide +kernel
theorem dX10_store_14 : decode cX10_store 14 = .ok (.iload_n 2, 1) := by decide +kernel
theorem dX10_store_15 : decode cX10_store 15 = .ok (.aload 4, 2) := by decide +kernel
theorem dX10_store_17 : decode cX10_store 17 = .ok (.getfield 315, 3) := by decide +kernel
theorem dX10_store_20 : decode cX10_store 20 = .ok (.invokevirtual 230, 3) := by decide +kernel
theorem dX10_store_23 : decode cX10_store 23 = .ok (.aload 4, 2) := by decide +kernel
theorem dX10_store_25 : decode cX10_store 25 = .ok (.iload_n 2, 1) := by decide +kernel
theorem dX10_store_26 : decode cX10_store 26 = .ok (.iload_n 3, 1) := by decide +kernel
theorem dX10_store_27 : decode cX10_store 27 = .ok (.invokevirtual 316, 3) := by decide +kernel
theorem dX10_store_30 : decode cX10_store 30 = .ok (.return_, 1) := by decide +kernel
theorem dX10_element_0 : decode cX10_element 0 = .ok (.aload_n 0, 1) := by decide +kernel
theorem dX10_element_1 : decode cX10_element 1 = .ok (.iload_n 1, 1) := by decide +kernel
theorem dX10_element_2 : decode cX10_element 2 = .ok (.invokevirtual 302, 3) := by decide +kernel
theorem dX10_element_5 : decode cX10_element 5 = .ok (.astore_n 3, 1) := by decide +kernel
theorem dX10_element_6 : decode cX10_element 6 = .ok (.aload_n 0, 1) := by decide +kernel
theorem dX10_element_7 : decode cX10_element 7 = .ok (.aload_n 3, 1) := by decide +kernel
theorem dX10_element_8 : decode cX10_element 8 = .ok (.invokevirtual 311, 3) := by decide +kernel
theorem dX10_element_11 : decode cX10_element 11 = .ok (.aload_n 0, 1) := by decide +kernel
theorem dX10_element_12 : decode cX10_element 12 = .ok (.iload_n 2, 1) := by decide +kernel
theorem dX10_element_13 : decode cX10_element 13 = .ok (.aload_n 3, 1) := by decide +kernel
theorem dX10_element_14 : decode cX10_element 14 = .ok (.getfield 315, 3) := by decide +kernel
theorem dX10_element_17 : decode cX10_element 17 = .ok (.invokevirtual 230, 3) := by decide +kernel
theorem dX10_element_20 : decode cX10_element 20 = .ok (.aload_n 3, 1) := by decide +kernel
theorem dX10_element_21 : decode cX10_element 21 = .ok (.getfield 319, 3) := by decide +kernel
theorem dX10_element_24 : decode cX10_element 24 = .ok (.iload_n 2, 1) := by decide +kernel
theorem dX10_element_25 : decode cX10_element 25 = .ok (.invokestatic 274, 3) := by decide +kernel
theorem dX10_element_28 : decode cX10_element 28 = .ok (.ireturn, 1) := by decide +kernel
theorem dX10_compareSizes_0 : decode cX10_compareSizes 0 = .ok (.aload_n 0, 1) := by decide +kernel
theorem dX10_compareSizes_1 : decode cX10_compareSizes 1 = .ok (.iload_n 1, 1) := by decide +kernel
theorem dX10_compareSizes_2 : decode cX10_compareSizes 2 = .ok (.invokevirtual 302, 3) := by decide +kernel
theorem dX10_compareSizes_5 : decode cX10_compareSizes 5 = .ok (.astore_n 2, 1) := by decide +kernel
theorem dX10_compareSizes_6 : decode cX10_compareSizes 6 = .ok (.aload_n 0, 1) := by decide +kernel
theorem dX10_compareSizes_7 : decode cX10_compareSizes 7 = .ok (.invokevirtual 173, 3) := by decide +kernel
theorem dX10_compareSizes_10 : decode cX10_compareSizes 10 = .ok (.aload_n 0, 1) := by decide +kernel
theorem dX10_compareSizes_11 : decode cX10_compareSizes 11 = .ok (.aload_n 2, 1) := by decide +kernel
theorem dX10_compareSizes_12 : decode cX10_compareSizes 12 = .ok (.invokevirtual 311, 3) := by decide +kernel
theorem dX10_compareSizes_15 : decode cX10_compareSizes 15 = .ok (.aload_n 2, 1) := by decide +kernel
theorem dX10_compareSizes_16 : decode cX10_compareSizes 16 = .ok (.getfield 322, 3) := by decide +kernel
theorem dX10_compareSizes_19 : decode cX10_compareSizes 19 = .ok (.iconst 2, 1) := by decide +kernel
theorem dX10_compareSizes_20 : decode cX10_compareSizes 20 = .ok (.if_icmp .eq 14, 3) := by decide +kernel
theorem dX10_compareSizes_23 : decode cX10_compareSizes 23 = .ok (.new 80, 3) := by decide +kernel
theorem dX10_compareSizes_26 : decode cX10_compareSizes 26 = .ok (.dup, 1) := by decide +kernel
theorem dX10_compareSizes_27 : decode cX10_compareSizes 27 = .ok (.ldc_w 325, 3) := by decide +kernel
theorem dX10_compareSizes_30 : decode cX10_compareSizes 30 = .ok (.invokespecial 84, 3) := by decide +kernel
theorem dX10_compareSizes_33 : decode cX10_compareSizes 33 = .ok (.athrow, 1) := by decide +kernel
theorem dX10_compareSizes_34 : decode cX10_compareSizes 34 = .ok (.iconst 0, 1) := by decide +kernel
theorem dX10_compareSizes_35 : decode cX10_compareSizes 35 = .ok (.istore_n 3, 1) := by decide +kernel
theorem dX10_compareSizes_36 : decode cX10_compareSizes 36 = .ok (.iload_n 3, 1) := by decide +kernel
theorem dX10_compareSizes_37 : decode cX10_compareSizes 37 = .ok (.aload_n 0, 1) := by decide +kernel
theorem dX10_compareSizes_38 : decode cX10_compareSizes 38 = .ok (.getfield 19, 3) := by decide +kernel
theorem dX10_compareSizes_41 : decode cX10_compareSizes 41 = .ok (.getfield 150, 3) := by decide +kernel
theorem dX10_compareSizes_44 : decode cX10_compareSizes 44 = .ok (.if_icmp .gt 39, 3) := by decide +kernel
theorem dX10_compareSizes_47 : decode cX10_compareSizes 47 = .ok (.aload_n 0, 1) := by decide +kernel
theorem dX10_compareSizes_48 : decode cX10_compareSizes 48 = .ok (.iload_n 3, 1) := by decide +kernel
theorem dX10_compareSizes_49 : decode cX10_compareSizes 49 = .ok (.aload_n 2, 1) := by decide +kernel
theorem dX10_compareSizes_50 : decode cX10_compareSizes 50 = .ok (.getfield 315, 3) := by decide +kernel
theorem dX10_compareSizes_53 : decode cX10_compareSizes 53 = .ok (.invokevirtual 230, 3) := by decide +kernel
theorem dX10_compareSizes_56 : decode cX10_compareSizes 56 = .ok (.aload_n 2, 1) := by decide +kernel
theorem dX10_compareSizes_57 : decode cX10_compareSizes 57 = .ok (.getfield 319, 3) := by decide +kernel
theorem dX10_compareSizes_60 : decode cX10_compareSizes 60 = .ok (.iload_n 3, 1) := by decide +kernel
theorem dX10_compareSizes_61 : decode cX10_compareSizes 61 = .ok (.invokestatic 274, 3) := by decide +kernel
theorem dX10_compareSizes_64 : decode cX10_compareSizes 64 = .ok (.aload_n 0, 1) := by decide +kernel
theorem dX10_compareSizes_65 : decode cX10_compareSizes 65 = .ok (.getfield 29, 3) := by decide +kernel
theorem dX10_compareSizes_68 : decode cX10_compareSizes 68 = .ok (.iload_n 3, 1) := by decide +kernel
theorem dX10_compareSizes_69 : decode cX10_compareSizes 69 = .ok (.invokevirtual 182, 3) := by decide +kernel
theorem dX10_compareSizes_72 : decode cX10_compareSizes 72 = .ok (.if_icmp .eq 5, 3) := by decide +kernel
theorem dX10_compareSizes_75 : decode cX10_compareSizes 75 = .ok (.iload_n 3, 1) := by decide +kernel
theorem dX10_compareSizes_76 : decode cX10_compareSizes 76 = .ok (.ireturn, 1) := by decide +kernel
theorem dX10_compareSizes_77 : decode cX10_compareSizes 77 = .ok (.iinc 3 1, 3) := by decide +kernel
theorem dX10_compareSizes_80 : decode cX10_compareSizes 80 = .ok (.goto (-44), 3) := by decide +kernel
theorem dX10_compareSizes_83 : decode cX10_compareSizes 83 = .ok (.iconst (-1), 1) := by decide +kernel
theorem dX10_compareSizes_84 : decode cX10_compareSizes 84 = .ok (.ireturn, 1) := by decide +kernel
theorem dX10_save_0 : decode cX10_save 0 = .ok (.aload_n 0, 1) := by decide +kernel
theorem dX10_save_1 : decode cX10_save 1 = .ok (.getfield 23, 3) := by decide +kernel
theorem dX10_save_4 : decode cX10_save 4 = .ok (.aload_n 0, 1) := by decide +kernel
theorem dX10_save_5 : decode cX10_save 5 = .ok (.getfield 19, 3) := by decide +kernel
theorem dX10_save_8 : decode cX10_save 8 = .ok (.invokevirtual 327, 3) := by decide +kernel
theorem dX10_save_11 : decode cX10_save 11 = .ok (.aload_n 0, 1) := by decide +kernel
theorem dX10_save_12 : decode cX10_save 12 = .ok (.aload_n 0, 1) := by decide +kernel
theorem dX10_save_13 : decode cX10_save 13 = .ok (.getfield 217, 3) := by decide +kernel
theorem dX10_save_16 : decode cX10_save 16 = .ok (.putfield 331, 3) := by decide +kernel
theorem dX10_save_19 : decode cX10_save 19 = .ok (.aload_n 0, 1) := by decide +kernel
theorem dX10_save_20 : decode cX10_save 20 = .ok (.iconst 1, 1) := by decide +kernel
theorem dX10_save_21 : decode cX10_save 21 = .ok (.putfield 334, 3) := by decide +kernel
theorem dX10_save_24 : decode cX10_save 24 = .ok (.return_, 1) := by decide +kernel
theorem dX10_restore_0 : decode cX10_restore 0 = .ok (.aload_n 0, 1) := by decide +kernel
theorem dX10_restore_1 : decode cX10_restore 1 = .ok (.getfield 334, 3) := by decide +kernel
theorem dX10_restore_4 : decode cX10_restore 4 = .ok (.ifCond .ne 14, 3) := by decide +kernel
theorem dX10_restore_7 : decode cX10_restore 7 = .ok (.new 63, 3) := by decide +kernel
theorem dX10_restore_10 : decode cX10_restore 10 = .ok (.dup, 1) := by decide +kernel
theorem dX10_restore_11 : decode cX10_restore 11 = .ok (.ldc_w 337, 3) := by decide +kernel
theorem dX10_restore_14 : decode cX10_restore 14 = .ok (.invokespecial 67, 3) := by decide +kernel
theorem dX10_restore_17 : decode cX10_restore 17 = .ok (.athrow, 1) := by decide +kernel
theorem dX10_restore_18 : decode cX10_restore 18 = .ok (.aload_n 0, 1) := by decide +kernel
theorem dX10_restore_19 : decode cX10_restore 19 = .ok (.getfield 19, 3) := by decide +kernel
theorem dX10_restore_22 : decode cX10_restore 22 = .ok (.aload_n 0, 1) := by decide +kernel
theorem dX10_restore_23 : decode cX10_restore 23 = .ok (.getfield 23, 3) := by decide +kernel
theorem dX10_restore_26 : decode cX10_restore 26 = .ok (.invokevirtual 327, 3) := by decide +kernel
theorem dX10_restore_29 : decode cX10_restore 29 = .ok (.aload_n 0, 1) := by decide +kernel
theorem dX10_restore_30 : decode cX10_restore 30 = .ok (.aload_n 0, 1) := by decide +kernel
theorem dX10_restore_31 : decode cX10_restore 31 = .ok (.getfield 331, 3) := by decide +kernel
theorem dX10_restore_34 : decode cX10_restore 34 = .ok (.putfield 217, 3) := by decide +kernel
theorem dX10_restore_37 : decode cX10_restore 37 = .ok (.aload_n 0, 1) := by decide +kernel
theorem dX10_restore_38 : decode cX10_restore 38 = .ok (.invokevirtual 115, 3) := by decide +kernel
theorem dX10_restore_41 : decode cX10_restore 41 = .ok (.return_, 1) := by decide +kernel
theorem dX10_requireAxiom_0 : decode cX10_requireAxiom 0 = .ok (.aload_n 0, 1) := by decide +kernel
theorem dX10_requireAxiom_1 : decode cX10_requireAxiom 1 = .ok (.iload_n 1, 1) := by decide +kernel
theorem dX10_requireAxiom_2 : decode cX10_requireAxiom 2 = .ok (.aload_n 0, 1) := by decide +kernel
theorem dX10_requireAxiom_3 : decode cX10_requireAxiom 3 = .ok (.getfield 19, 3) := by decide +kernel
theorem dX10_requireAxiom_6 : decode cX10_requireAxiom 6 = .ok (.getfield 102, 3) := by decide +kernel
theorem dX10_requireAxiom_9 : decode cX10_requireAxiom 9 = .ok (.invokevirtual 230, 3) := by decide +kernel
theorem dX10_requireAxiom_12 : decode cX10_requireAxiom 12 = .ok (.return_, 1) := by decide +kernel
theorem dX10_requireContext_0 : decode cX10_requireContext 0 = .ok (.aload_n 0, 1) := by decide +kernel
theorem dX10_requireContext_1 : decode cX10_requireContext 1 = .ok (.iload_n 1, 1) := by decide +kernel
theorem dX10_requireContext_2 : decode cX10_requireContext 2 = .ok (.aload_n 0, 1) := by decide +kernel
theorem dX10_requireContext_3 : decode cX10_requireContext 3 = .ok (.getfield 19, 3) := by decide +kernel
theorem dX10_requireContext_6 : decode cX10_requireContext 6 = .ok (.getfield 118, 3) := by decide +kernel
theorem dX10_requireContext_9 : decode cX10_requireContext 9 = .ok (.invokevirtual 230, 3) := by decide +kernel
theorem dX10_requireContext_12 : decode cX10_requireContext 12 = .ok (.return_, 1) := by decide +kernel
theorem dX10_requireIndex_0 : decode cX10_requireIndex 0 = .ok (.iload_n 1, 1) := by decide +kernel
theorem dX10_requireIndex_1 : decode cX10_requireIndex 1 = .ok (.ifCond .lt 8, 3) := by decide +kernel
theorem dX10_requireIndex_4 : decode cX10_requireIndex 4 = .ok (.iload_n 1, 1) := by decide +kernel
theorem dX10_requireIndex_5 : decode cX10_requireIndex 5 = .ok (.iload_n 2, 1) := by decide +kernel
theorem dX10_requireIndex_6 : decode cX10_requireIndex 6 = .ok (.if_icmp .lt 14, 3) := by decide +kernel
theorem dX10_requireIndex_9 : decode cX10_requireIndex 9 = .ok (.new 339, 3) := by decide +kernel
theorem dX10_requireIndex_12 : decode cX10_requireIndex 12 = .ok (.dup, 1) := by decide +kernel
theorem dX10_requireIndex_13 : decode cX10_requireIndex 13 = .ok (.ldc_w 341, 3) := by decide +kernel
theorem dX10_requireIndex_16 : decode cX10_requireIndex 16 = .ok (.invokespecial 343, 3) := by decide +kernel
theorem dX10_requireIndex_19 : decode cX10_requireIndex 19 = .ok (.athrow, 1) := by decide +kernel
theorem dX10_requireIndex_20 : decode cX10_requireIndex 20 = .ok (.return_, 1) := by decide +kernel
theorem dX10_requireLength_0 : decode cX10_requireLength 0 = .ok (.iload_n 1, 1) := by decide +kernel
theorem dX10_requireLength_1 : decode cX10_requireLength 1 = .ok (.ifCond .lt 14, 3) := by decide +kernel
theorem dX10_requireLength_4 : decode cX10_requireLength 4 = .ok (.iload_n 1, 1) := by decide +kernel
theorem dX10_requireLength_5 : decode cX10_requireLength 5 = .ok (.aload_n 0, 1) := by decide +kernel
theorem dX10_requireLength_6 : decode cX10_requireLength 6 = .ok (.getfield 19, 3) := by decide +kernel
theorem dX10_requireLength_9 : decode cX10_requireLength 9 = .ok (.getfield 150, 3) := by decide +kernel
theorem dX10_requireLength_12 : decode cX10_requireLength 12 = .ok (.if_icmp .le 14, 3) := by decide +kernel
theorem dX10_requireLength_15 : decode cX10_requireLength 15 = .ok (.new 80, 3) := by decide +kernel
theorem dX10_requireLength_18 : decode cX10_requireLength 18 = .ok (.dup, 1) := by decide +kernel
theorem dX10_requireLength_19 : decode cX10_requireLength 19 = .ok (.ldc_w 344, 3) := by decide +kernel
theorem dX10_requireLength_22 : decode cX10_requireLength 22 = .ok (.invokespecial 84, 3) := by decide +kernel
theorem dX10_requireLength_25 : decode cX10_requireLength 25 = .ok (.athrow, 1) := by decide +kernel
theorem dX10_requireLength_26 : decode cX10_requireLength 26 = .ok (.return_, 1) := by decide +kernel
theorem dX10_requireLanguage_0 : decode cX10_requireLanguage 0 = .ok (.aload_n 0, 1) := by decide +kernel
theorem dX10_requireLanguage_1 : decode cX10_requireLanguage 1 = .ok (.getfield 55, 3) := by decide +kernel
theorem dX10_requireLanguage_4 : decode cX10_requireLanguage 4 = .ok (.ifCond .eq 19, 3) := by decide +kernel
theorem dX10_requireLanguage_7 : decode cX10_requireLanguage 7 = .ok (.aload_n 0, 1) := by decide +kernel
theorem dX10_requireLanguage_8 : decode cX10_requireLanguage 8 = .ok (.getfield 29, 3) := by decide +kernel
theorem dX10_requireLanguage_11 : decode cX10_requireLanguage 11 = .ok (.aload_n 0, 1) := by decide +kernel
theorem dX10_requireLanguage_12 : decode cX10_requireLanguage 12 = .ok (.getfield 19, 3) := by decide +kernel
theorem dX10_requireLanguage_15 : decode cX10_requireLanguage 15 = .ok (.invokevirtual 346, 3) := by decide +kernel
theorem dX10_requireLanguage_18 : decode cX10_requireLanguage 18 = .ok (.aload_n 0, 1) := by decide +kernel
theorem dX10_requireLanguage_19 : decode cX10_requireLanguage 19 = .ok (.iconst 0, 1) := by decide +kernel
theorem dX10_requireLanguage_20 : decode cX10_requireLanguage 20 = .ok (.putfield 55, 3) := by decide +kernel
theorem dX10_requireLanguage_23 : decode cX10_requireLanguage 23 = .ok (.aload_n 0, 1) := by decide +kernel
theorem dX10_requireLanguage_24 : decode cX10_requireLanguage 24 = .ok (.getfield 29, 3) := by decide +kernel
theorem dX10_requireLanguage_27 : decode cX10_requireLanguage 27 = .ok (.getfield 349, 3) := by decide +kernel
theorem dX10_requireLanguage_30 : decode cX10_requireLanguage 30 = .ok (.ifCond .eq 14, 3) := by decide +kernel
theorem dX10_requireLanguage_33 : decode cX10_requireLanguage 33 = .ok (.new 352, 3) := by decide +kernel
theorem dX10_requireLanguage_36 : decode cX10_requireLanguage 36 = .ok (.dup, 1) := by decide +kernel
theorem dX10_requireLanguage_37 : decode cX10_requireLanguage 37 = .ok (.ldc_w 354, 3) := by decide +kernel
theorem dX10_requireLanguage_40 : decode cX10_requireLanguage 40 = .ok (.invokespecial 356, 3) := by decide +kernel
theorem dX10_requireLanguage_43 : decode cX10_requireLanguage 43 = .ok (.athrow, 1) := by decide +kernel
theorem dX10_requireLanguage_44 : decode cX10_requireLanguage 44 = .ok (.return_, 1) := by decide +kernel
theorem dX10_requirePlace_0 : decode cX10_requirePlace 0 = .ok (.aload_n 0, 1) := by decide +kernel
theorem dX10_requirePlace_1 : decode cX10_requirePlace 1 = .ok (.getfield 29, 3) := by decide +kernel
theorem dX10_requirePlace_4 : decode cX10_requirePlace 4 = .ok (.aload_n 0, 1) := by decide +kernel
theorem dX10_requirePlace_5 : decode cX10_requirePlace 5 = .ok (.getfield 217, 3) := by decide +kernel
theorem dX10_requirePlace_8 : decode cX10_requirePlace 8 = .ok (.invokevirtual 241, 3) := by decide +kernel
theorem dX10_requirePlace_11 : decode cX10_requirePlace 11 = .ok (.istore_n 1, 1) := by decide +kernel
theorem dX10_requirePlace_12 : decode cX10_requirePlace 12 = .ok (.iload_n 1, 1) := by decide +kernel
theorem dX10_requirePlace_13 : decode cX10_requirePlace 13 = .ok (.ifCond .ge 14, 3) := by decide +kernel
theorem dX10_requirePlace_16 : decode cX10_requirePlace 16 = .ok (.new 208, 3) := by decide +kernel
theorem dX10_requirePlace_19 : decode cX10_requirePlace 19 = .ok (.dup, 1) := by decide +kernel
theorem dX10_requirePlace_20 : decode cX10_requirePlace 20 = .ok (.ldc_w 357, 3) := by decide +kernel
theorem dX10_requirePlace_23 : decode cX10_requirePlace 23 = .ok (.invokespecial 212, 3) := by decide +kernel
theorem dX10_requirePlace_26 : decode cX10_requirePlace 26 = .ok (.athrow, 1) := by decide +kernel
theorem dX10_requirePlace_27 : decode cX10_requirePlace 27 = .ok (.iload_n 1, 1) := by decide +kernel
theorem dX10_requirePlace_28 : decode cX10_requirePlace 28 = .ok (.ireturn, 1) := by decide +kernel
theorem dX10_requireSlot_0 : decode cX10_requireSlot 0 = .ok (.iload_n 1, 1) := by decide +kernel
theorem dX10_requireSlot_1 : decode cX10_requireSlot 1 = .ok (.ifCond .lt 12, 3) := by decide +kernel
theorem dX10_requireSlot_4 : decode cX10_requireSlot 4 = .ok (.iload_n 1, 1) := by decide +kernel
theorem dX10_requireSlot_5 : decode cX10_requireSlot 5 = .ok (.aload_n 0, 1) := by decide +kernel
theorem dX10_requireSlot_6 : decode cX10_requireSlot 6 = .ok (.getfield 47, 3) := by decide +kernel
theorem dX10_requireSlot_9 : decode cX10_requireSlot 9 = .ok (.arraylength, 1) := by decide +kernel
theorem dX10_requireSlot_10 : decode cX10_requireSlot 10 = .ok (.if_icmp .lt 14, 3) := by decide +kernel
theorem dX10_requireSlot_13 : decode cX10_requireSlot 13 = .ok (.new 339, 3) := by decide +kernel
theorem dX10_requireSlot_16 : decode cX10_requireSlot 16 = .ok (.dup, 1) := by decide +kernel
theorem dX10_requireSlot_17 : decode cX10_requireSlot 17 = .ok (.ldc_w 359, 3) := by decide +kernel
theorem dX10_requireSlot_20 : decode cX10_requireSlot 20 = .ok (.invokespecial 343, 3) := by decide +kernel
theorem dX10_requireSlot_23 : decode cX10_requireSlot 23 = .ok (.athrow, 1) := by decide +kernel
theorem dX10_requireSlot_24 : decode cX10_requireSlot 24 = .ok (.aload_n 0, 1) := by decide +kernel
theorem dX10_requireSlot_25 : decode cX10_requireSlot 25 = .ok (.getfield 47, 3) := by decide +kernel
theorem dX10_requireSlot_28 : decode cX10_requireSlot 28 = .ok (.iload_n 1, 1) := by decide +kernel
theorem dX10_requireSlot_29 : decode cX10_requireSlot 29 = .ok (.aaload, 1) := by decide +kernel
theorem dX10_requireSlot_30 : decode cX10_requireSlot 30 = .ok (.areturn, 1) := by decide +kernel
theorem dX10_requireFilled_0 : decode cX10_requireFilled 0 = .ok (.aload_n 1, 1) := by decide +kernel
theorem dX10_requireFilled_1 : decode cX10_requireFilled 1 = .ok (.getfield 322, 3) := by decide +kernel
theorem dX10_requireFilled_4 : decode cX10_requireFilled 4 = .ok (.iconst (-1), 1) := by decide +kernel
theorem dX10_requireFilled_5 : decode cX10_requireFilled 5 = .ok (.if_icmp .ne 14, 3) := by decide +kernel
theorem dX10_requireFilled_8 : decode cX10_requireFilled 8 = .ok (.new 63, 3) := by decide +kernel
theorem dX10_requireFilled_11 : decode cX10_requireFilled 11 = .ok (.dup, 1) := by decide +kernel
theorem dX10_requireFilled_12 : decode cX10_requireFilled 12 = .ok (.ldc_w 361, 3) := by decide +kernel
theorem dX10_requireFilled_15 : decode cX10_requireFilled 15 = .ok (.invokespecial 67, 3) := by decide +kernel
theorem dX10_requireFilled_18 : decode cX10_requireFilled 18 = .ok (.athrow, 1) := by decide +kernel
theorem dX10_requireFilled_19 : decode cX10_requireFilled 19 = .ok (.return_, 1) := by decide +kernel
theorem dL_append_0 : decode cL_append 0 = .ok (.aload_n 0, 1) := by decide +kernel
theorem dL_append_1 : decode cL_append 1 = .ok (.iload_n 1, 1) := by decide +kernel
theorem dL_append_2 : decode cL_append 2 = .ok (.invokevirtual 7, 3) := by decide +kernel
theorem dL_append_5 : decode cL_append 5 = .ok (.goto 6, 3) := by decide +kernel
theorem dL_append_8 : decode cL_append 8 = .ok (.astore_n 2, 1) := by decide +kernel
theorem dL_append_9 : decode cL_append 9 = .ok (.iconst 1, 1) := by decide +kernel
theorem dL_append_10 : decode cL_append 10 = .ok (.ireturn, 1) := by decide +kernel
theorem dL_append_11 : decode cL_append 11 = .ok (.iconst 0, 1) := by decide +kernel
theorem dL_append_12 : decode cL_append 12 = .ok (.ireturn, 1) := by decide +kernel
theorem dL_define_0 : decode cL_define 0 = .ok (.aload_n 1, 1) := by decide +kernel
theorem dL_define_1 : decode cL_define 1 = .ok (.iconst 0, 1) := by decide +kernel
theorem dL_define_2 : decode cL_define 2 = .ok (.aload_n 0, 1) := by decide +kernel
theorem dL_define_3 : decode cL_define 3 = .ok (.invokevirtual 15, 3) := by decide +kernel
theorem dL_define_6 : decode cL_define 6 = .ok (.i2l, 1) := by decide +kernel
theorem dL_define_7 : decode cL_define 7 = .ok (.lastore, 1) := by decide +kernel
theorem dL_define_8 : decode cL_define 8 = .ok (.goto 9, 3) := by decide +kernel
theorem dL_define_11 : decode cL_define 11 = .ok (.astore_n 2, 1) := by decide +kernel
theorem dL_define_12 : decode cL_define 12 = .ok (.iconst 1, 1) := by decide +kernel
theorem dL_define_13 : decode cL_define 13 = .ok (.ireturn, 1) := by decide +kernel
theorem dL_define_14 : decode cL_define 14 = .ok (.astore_n 2, 1) := by decide +kernel
theorem dL_define_15 : decode cL_define 15 = .ok (.iconst 2, 1) := by decide +kernel
theorem dL_define_16 : decode cL_define 16 = .ok (.ireturn, 1) := by decide +kernel
theorem dL_define_17 : decode cL_define 17 = .ok (.iconst 0, 1) := by decide +kernel
theorem dL_define_18 : decode cL_define 18 = .ok (.ireturn, 1) := by decide +kernel
theorem dL_removeAxiom_0 : decode cL_removeAxiom 0 = .ok (.aload_n 0, 1) := by decide +kernel
theorem dL_removeAxiom_1 : decode cL_removeAxiom 1 = .ok (.iload_n 1, 1) := by decide +kernel
theorem dL_removeAxiom_2 : decode cL_removeAxiom 2 = .ok (.invokevirtual 21, 3) := by decide +kernel
theorem dL_removeAxiom_5 : decode cL_removeAxiom 5 = .ok (.goto 6, 3) := by decide +kernel
theorem dL_removeAxiom_8 : decode cL_removeAxiom 8 = .ok (.astore_n 2, 1) := by decide +kernel
theorem dL_removeAxiom_9 : decode cL_removeAxiom 9 = .ok (.iconst 1, 1) := by decide +kernel
theorem dL_removeAxiom_10 : decode cL_removeAxiom 10 = .ok (.ireturn, 1) := by decide +kernel
theorem dL_removeAxiom_11 : decode cL_removeAxiom 11 = .ok (.iconst 0, 1) := by decide +kernel
theorem dL_removeAxiom_12 : decode cL_removeAxiom 12 = .ok (.ireturn, 1) := by decide +kernel
theorem dL_removeContext_0 : decode cL_removeContext 0 = .ok (.aload_n 0, 1) := by decide +kernel
theorem dL_removeContext_1 : decode cL_removeContext 1 = .ok (.iload_n 1, 1) := by decide +kernel
theorem dL_removeContext_2 : decode cL_removeContext 2 = .ok (.invokevirtual 27, 3) := by decide +kernel
theorem dL_removeContext_5 : decode cL_removeContext 5 = .ok (.goto 6, 3) := by decide +kernel
theorem dL_removeContext_8 : decode cL_removeContext 8 = .ok (.astore_n 2, 1) := by decide +kernel
theorem dL_removeContext_9 : decode cL_removeContext 9 = .ok (.iconst 1, 1) := by decide +kernel
theorem dL_removeContext_10 : decode cL_removeContext 10 = .ok (.ireturn, 1) := by decide +kernel
theorem dL_removeContext_11 : decode cL_removeContext 11 = .ok (.iconst 0, 1) := by decide +kernel
theorem dL_removeContext_12 : decode cL_removeContext 12 = .ok (.ireturn, 1) := by decide +kernel
theorem dL_count_0 : decode cL_count 0 = .ok (.aload_n 2, 1) := by decide +kernel
theorem dL_count_1 : decode cL_count 1 = .ok (.iconst 0, 1) := by decide +kernel
theorem dL_count_2 : decode cL_count 2 = .ok (.aload_n 0, 1) := by decide +kernel
theorem dL_count_3 : decode cL_count 3 = .ok (.iload_n 1, 1) := by decide +kernel
theorem dL_count_4 : decode cL_count 4 = .ok (.invokevirtual 30, 3) := by decide +kernel
theorem dL_count_7 : decode cL_count 7 = .ok (.i2l, 1) := by decide +kernel
theorem dL_count_8 : decode cL_count 8 = .ok (.lastore, 1) := by decide +kernel
theorem dL_count_9 : decode cL_count 9 = .ok (.goto 6, 3) := by decide +kernel
theorem dL_count_12 : decode cL_count 12 = .ok (.astore_n 3, 1) := by decide +kernel
theorem dL_count_13 : decode cL_count 13 = .ok (.iconst 1, 1) := by decide +kernel
theorem dL_count_14 : decode cL_count 14 = .ok (.ireturn, 1) := by decide +kernel
theorem dL_count_15 : decode cL_count 15 = .ok (.iconst 0, 1) := by decide +kernel
theorem dL_count_16 : decode cL_count 16 = .ok (.ireturn, 1) := by decide +kernel
theorem dL_size_0 : decode cL_size 0 = .ok (.aload_n 1, 1) := by decide +kernel
theorem dL_size_1 : decode cL_size 1 = .ok (.iconst 0, 1) := by decide +kernel
theorem dL_size_2 : decode cL_size 2 = .ok (.aload_n 0, 1) := by decide +kernel
theorem dL_size_3 : decode cL_size 3 = .ok (.invokevirtual 34, 3) := by decide +kernel
theorem dL_size_6 : decode cL_size 6 = .ok (.i2l, 1) := by decide +kernel
theorem dL_size_7 : decode cL_size 7 = .ok (.lastore, 1) := by decide +kernel
theorem dL_size_8 : decode cL_size 8 = .ok (.goto 6, 3) := by decide +kernel
theorem dL_size_11 : decode cL_size 11 = .ok (.astore_n 2, 1) := by decide +kernel
theorem dL_size_12 : decode cL_size 12 = .ok (.iconst 1, 1) := by decide +kernel
theorem dL_size_13 : decode cL_size 13 = .ok (.ireturn, 1) := by decide +kernel
theorem dL_size_14 : decode cL_size 14 = .ok (.iconst 0, 1) := by decide +kernel
theorem dL_size_15 : decode cL_size 15 = .ok (.ireturn, 1) := by decide +kernel
theorem dL_sizeOf_0 : decode cL_sizeOf 0 = .ok (.aload_n 2, 1) := by decide +kernel
theorem dL_sizeOf_1 : decode cL_sizeOf 1 = .ok (.iconst 0, 1) := by decide +kernel
theorem dL_sizeOf_2 : decode cL_sizeOf 2 = .ok (.aload_n 0, 1) := by decide +kernel
theorem dL_sizeOf_3 : decode cL_sizeOf 3 = .ok (.iload_n 1, 1) := by decide +kernel
theorem dL_sizeOf_4 : decode cL_sizeOf 4 = .ok (.invokevirtual 39, 3) := by decide +kernel
theorem dL_sizeOf_7 : decode cL_sizeOf 7 = .ok (.i2l, 1) := by decide +kernel
theorem dL_sizeOf_8 : decode cL_sizeOf 8 = .ok (.lastore, 1) := by decide +kernel
theorem dL_sizeOf_9 : decode cL_sizeOf 9 = .ok (.goto 9, 3) := by decide +kernel
theorem dL_sizeOf_12 : decode cL_sizeOf 12 = .ok (.astore_n 3, 1) := by decide +kernel
theorem dL_sizeOf_13 : decode cL_sizeOf 13 = .ok (.iconst 1, 1) := by decide +kernel
theorem dL_sizeOf_14 : decode cL_sizeOf 14 = .ok (.ireturn, 1) := by decide +kernel
theorem dL_sizeOf_15 : decode cL_sizeOf 15 = .ok (.astore_n 3, 1) := by decide +kernel
theorem dL_sizeOf_16 : decode cL_sizeOf 16 = .ok (.iconst 2, 1) := by decide +kernel
theorem dL_sizeOf_17 : decode cL_sizeOf 17 = .ok (.ireturn, 1) := by decide +kernel
theorem dL_sizeOf_18 : decode cL_sizeOf 18 = .ok (.iconst 0, 1) := by decide +kernel
theorem dL_sizeOf_19 : decode cL_sizeOf 19 = .ok (.ireturn, 1) := by decide +kernel
theorem dL_density_0 : decode cL_density 0 = .ok (.aload_n 2, 1) := by decide +kernel
theorem dL_density_1 : decode cL_density 1 = .ok (.iconst 0, 1) := by decide +kernel
theorem dL_density_2 : decode cL_density 2 = .ok (.aload_n 0, 1) := by decide +kernel
theorem dL_density_3 : decode cL_density 3 = .ok (.iload_n 1, 1) := by decide +kernel
theorem dL_density_4 : decode cL_density 4 = .ok (.invokevirtual 42, 3) := by decide +kernel
theorem dL_density_7 : decode cL_density 7 = .ok (.dastore, 1) := by decide +kernel
theorem dL_density_8 : decode cL_density 8 = .ok (.goto 9, 3) := by decide +kernel
theorem dL_density_11 : decode cL_density 11 = .ok (.astore_n 3, 1) := by decide +kernel
theorem dL_density_12 : decode cL_density 12 = .ok (.iconst 1, 1) := by decide +kernel
theorem dL_density_13 : decode cL_density 13 = .ok (.ireturn, 1) := by decide +kernel
theorem dL_density_14 : decode cL_density 14 = .ok (.astore_n 3, 1) := by decide +kernel
theorem dL_density_15 : decode cL_density 15 = .ok (.iconst 2, 1) := by decide +kernel
theorem dL_density_16 : decode cL_density 16 = .ok (.ireturn, 1) := by decide +kernel
theorem dL_density_17 : decode cL_density 17 = .ok (.iconst 0, 1) := by decide +kernel
theorem dL_density_18 : decode cL_density 18 = .ok (.ireturn, 1) := by decide +kernel
theorem dL_isUsed_0 : decode cL_isUsed 0 = .ok (.aload_n 2, 1) := by decide +kernel
theorem dL_isUsed_1 : decode cL_isUsed 1 = .ok (.iconst 0, 1) := by decide +kernel
theorem dL_isUsed_2 : decode cL_isUsed 2 = .ok (.aload_n 0, 1) := by decide +kernel
theorem dL_isUsed_3 : decode cL_isUsed 3 = .ok (.iload_n 1, 1) := by decide +kernel
theorem dL_isUsed_4 : decode cL_isUsed 4 = .ok (.invokevirtual 46, 3) := by decide +kernel
theorem dL_isUsed_7 : decode cL_isUsed 7 = .ok (.ifCond .eq 7, 3) := by decide +kernel
theorem dL_isUsed_10 : decode cL_isUsed 10 = .ok (.lconst 1, 1) := by decide +kernel
theorem dL_isUsed_11 : decode cL_isUsed 11 = .ok (.goto 4, 3) := by decide +kernel
theorem dL_isUsed_14 : decode cL_isUsed 14 = .ok (.lconst 0, 1) := by decide +kernel
theorem dL_isUsed_15 : decode cL_isUsed 15 = .ok (.lastore, 1) := by decide +kernel
theorem dL_isUsed_16 : decode cL_isUsed 16 = .ok (.goto 9, 3) := by decide +kernel
theorem dL_isUsed_19 : decode cL_isUsed 19 = .ok (.astore_n 3, 1) := by decide +kernel
theorem dL_isUsed_20 : decode cL_isUsed 20 = .ok (.iconst 1, 1) := by decide +kernel
theorem dL_isUsed_21 : decode cL_isUsed 21 = .ok (.ireturn, 1) := by decide +kernel
theorem dL_isUsed_22 : decode cL_isUsed 22 = .ok (.astore_n 3, 1) := by decide +kernel
theorem dL_isUsed_23 : decode cL_isUsed 23 = .ok (.iconst 2, 1) := by decide +kernel
theorem dL_isUsed_24 : decode cL_isUsed 24 = .ok (.ireturn, 1) := by decide +kernel
theorem dL_isUsed_25 : decode cL_isUsed 25 = .ok (.iconst 0, 1) := by decide +kernel
theorem dL_isUsed_26 : decode cL_isUsed 26 = .ok (.ireturn, 1) := by decide +kernel
theorem dL_isRedundant_0 : decode cL_isRedundant 0 = .ok (.aload_n 2, 1) := by decide +kernel
theorem dL_isRedundant_1 : decode cL_isRedundant 1 = .ok (.iconst 0, 1) := by decide +kernel
theorem dL_isRedundant_2 : decode cL_isRedundant 2 = .ok (.aload_n 0, 1) := by decide +kernel
theorem dL_isRedundant_3 : decode cL_isRedundant 3 = .ok (.iload_n 1, 1) := by decide +kernel
theorem dL_isRedundant_4 : decode cL_isRedundant 4 = .ok (.invokevirtual 50, 3) := by decide +kernel
theorem dL_isRedundant_7 : decode cL_isRedundant 7 = .ok (.ifCond .eq 7, 3) := by decide +kernel
theorem dL_isRedundant_10 : decode cL_isRedundant 10 = .ok (.lconst 1, 1) := by decide +kernel
theorem dL_isRedundant_11 : decode cL_isRedundant 11 = .ok (.goto 4, 3) := by decide +kernel
theorem dL_isRedundant_14 : decode cL_isRedundant 14 = .ok (.lconst 0, 1) := by decide +kernel
theorem dL_isRedundant_15 : decode cL_isRedundant 15 = .ok (.lastore, 1) := by decide +kernel
theorem dL_isRedundant_16 : decode cL_isRedundant 16 = .ok (.goto 9, 3) := by decide +kernel
theorem dL_isRedundant_19 : decode cL_isRedundant 19 = .ok (.astore_n 3, 1) := by decide +kernel
theorem dL_isRedundant_20 : decode cL_isRedundant 20 = .ok (.iconst 1, 1) := by decide +kernel
theorem dL_isRedundant_21 : decode cL_isRedundant 21 = .ok (.ireturn, 1) := by decide +kernel
theorem dL_isRedundant_22 : decode cL_isRedundant 22 = .ok (.astore_n 3, 1) := by decide +kernel
theorem dL_isRedundant_23 : decode cL_isRedundant 23 = .ok (.iconst 2, 1) := by decide +kernel
theorem dL_isRedundant_24 : decode cL_isRedundant 24 = .ok (.ireturn, 1) := by decide +kernel
theorem dL_isRedundant_25 : decode cL_isRedundant 25 = .ok (.iconst 0, 1) := by decide +kernel
theorem dL_isRedundant_26 : decode cL_isRedundant 26 = .ok (.ireturn, 1) := by decide +kernel
theorem dL_minimalContexts_0 : decode cL_minimalContexts 0 = .ok (.aload_n 1, 1) := by decide +kernel
theorem dL_minimalContexts_1 : decode cL_minimalContexts 1 = .ok (.iconst 0, 1) := by decide +kernel
theorem dL_minimalContexts_2 : decode cL_minimalContexts 2 = .ok (.aload_n 0, 1) := by decide +kernel
theorem dL_minimalContexts_3 : decode cL_minimalContexts 3 = .ok (.invokevirtual 53, 3) := by decide +kernel
theorem dL_minimalContexts_6 : decode cL_minimalContexts 6 = .ok (.i2l, 1) := by decide +kernel
theorem dL_minimalContexts_7 : decode cL_minimalContexts 7 = .ok (.lastore, 1) := by decide +kernel
theorem dL_minimalContexts_8 : decode cL_minimalContexts 8 = .ok (.goto 6, 3) := by decide +kernel
theorem dL_minimalContexts_11 : decode cL_minimalContexts 11 = .ok (.astore_n 2, 1) := by decide +kernel
theorem dL_minimalContexts_12 : decode cL_minimalContexts 12 = .ok (.iconst 1, 1) := by decide +kernel
theorem dL_minimalContexts_13 : decode cL_minimalContexts 13 = .ok (.ireturn, 1) := by decide +kernel
theorem dL_minimalContexts_14 : decode cL_minimalContexts 14 = .ok (.iconst 0, 1) := by decide +kernel
theorem dL_minimalContexts_15 : decode cL_minimalContexts 15 = .ok (.ireturn, 1) := by decide +kernel
theorem dL_canFollow_0 : decode cL_canFollow 0 = .ok (.aload_n 3, 1) := by decide +kernel
theorem dL_canFollow_1 : decode cL_canFollow 1 = .ok (.iconst 0, 1) := by decide +kernel
theorem dL_canFollow_2 : decode cL_canFollow 2 = .ok (.aload_n 0, 1) := by decide +kernel
theorem dL_canFollow_3 : decode cL_canFollow 3 = .ok (.iload_n 1, 1) := by decide +kernel
theorem dL_canFollow_4 : decode cL_canFollow 4 = .ok (.iload_n 2, 1) := by decide +kernel
theorem dL_canFollow_5 : decode cL_canFollow 5 = .ok (.invokevirtual 56, 3) := by decide +kernel
theorem dL_canFollow_8 : decode cL_canFollow 8 = .ok (.ifCond .eq 7, 3) := by decide +kernel
theorem dL_canFollow_11 : decode cL_canFollow 11 = .ok (.lconst 1, 1) := by decide +kernel
theorem dL_canFollow_12 : decode cL_canFollow 12 = .ok (.goto 4, 3) := by decide +kernel
theorem dL_canFollow_15 : decode cL_canFollow 15 = .ok (.lconst 0, 1) := by decide +kernel
theorem dL_canFollow_16 : decode cL_canFollow 16 = .ok (.lastore, 1) := by decide +kernel
theorem dL_canFollow_17 : decode cL_canFollow 17 = .ok (.goto 11, 3) := by decide +kernel
theorem dL_canFollow_20 : decode cL_canFollow 20 = .ok (.astore 4, 2) := by decide +kernel
theorem dL_canFollow_22 : decode cL_canFollow 22 = .ok (.iconst 1, 1) := by decide +kernel
theorem dL_canFollow_23 : decode cL_canFollow 23 = .ok (.ireturn, 1) := by decide +kernel
theorem dL_canFollow_24 : decode cL_canFollow 24 = .ok (.astore 4, 2) := by decide +kernel
theorem dL_canFollow_26 : decode cL_canFollow 26 = .ok (.iconst 2, 1) := by decide +kernel
theorem dL_canFollow_27 : decode cL_canFollow 27 = .ok (.ireturn, 1) := by decide +kernel
theorem dL_canFollow_28 : decode cL_canFollow 28 = .ok (.iconst 0, 1) := by decide +kernel
theorem dL_canFollow_29 : decode cL_canFollow 29 = .ok (.ireturn, 1) := by decide +kernel
theorem dL_shortestLoop_0 : decode cL_shortestLoop 0 = .ok (.aload_n 2, 1) := by decide +kernel
theorem dL_shortestLoop_1 : decode cL_shortestLoop 1 = .ok (.iconst 0, 1) := by decide +kernel
theorem dL_shortestLoop_2 : decode cL_shortestLoop 2 = .ok (.aload_n 0, 1) := by decide +kernel
theorem dL_shortestLoop_3 : decode cL_shortestLoop 3 = .ok (.iload_n 1, 1) := by decide +kernel
theorem dL_shortestLoop_4 : decode cL_shortestLoop 4 = .ok (.invokevirtual 60, 3) := by decide +kernel
theorem dL_shortestLoop_7 : decode cL_shortestLoop 7 = .ok (.i2l, 1) := by decide +kernel
theorem dL_shortestLoop_8 : decode cL_shortestLoop 8 = .ok (.lastore, 1) := by decide +kernel
theorem dL_shortestLoop_9 : decode cL_shortestLoop 9 = .ok (.goto 12, 3) := by decide +kernel
theorem dL_shortestLoop_12 : decode cL_shortestLoop 12 = .ok (.astore_n 3, 1) := by decide +kernel
theorem dL_shortestLoop_13 : decode cL_shortestLoop 13 = .ok (.iconst 1, 1) := by decide +kernel
theorem dL_shortestLoop_14 : decode cL_shortestLoop 14 = .ok (.ireturn, 1) := by decide +kernel
theorem dL_shortestLoop_15 : decode cL_shortestLoop 15 = .ok (.astore_n 3, 1) := by decide +kernel
theorem dL_shortestLoop_16 : decode cL_shortestLoop 16 = .ok (.iconst 2, 1) := by decide +kernel
theorem dL_shortestLoop_17 : decode cL_shortestLoop 17 = .ok (.ireturn, 1) := by decide +kernel
theorem dL_shortestLoop_18 : decode cL_shortestLoop 18 = .ok (.astore_n 3, 1) := by decide +kernel
theorem dL_shortestLoop_19 : decode cL_shortestLoop 19 = .ok (.iconst 3, 1) := by decide +kernel
theorem dL_shortestLoop_20 : decode cL_shortestLoop 20 = .ok (.ireturn, 1) := by decide +kernel
theorem dL_shortestLoop_21 : decode cL_shortestLoop 21 = .ok (.iconst 0, 1) := by decide +kernel
theorem dL_shortestLoop_22 : decode cL_shortestLoop 22 = .ok (.ireturn, 1) := by decide +kernel
theorem dL_isConfluent_0 : decode cL_isConfluent 0 = .ok (.aload_n 1, 1) := by decide +kernel
theorem dL_isConfluent_1 : decode cL_isConfluent 1 = .ok (.iconst 0, 1) := by decide +kernel
theorem dL_isConfluent_2 : decode cL_isConfluent 2 = .ok (.aload_n 0, 1) := by decide +kernel
theorem dL_isConfluent_3 : decode cL_isConfluent 3 = .ok (.invokevirtual 65, 3) := by decide +kernel
theorem dL_isConfluent_6 : decode cL_isConfluent 6 = .ok (.ifCond .eq 7, 3) := by decide +kernel
theorem dL_isConfluent_9 : decode cL_isConfluent 9 = .ok (.lconst 1, 1) := by decide +kernel
theorem dL_isConfluent_10 : decode cL_isConfluent 10 = .ok (.goto 4, 3) := by decide +kernel
theorem dL_isConfluent_13 : decode cL_isConfluent 13 = .ok (.lconst 0, 1) := by decide +kernel
theorem dL_isConfluent_14 : decode cL_isConfluent 14 = .ok (.lastore, 1) := by decide +kernel
theorem dL_isConfluent_15 : decode cL_isConfluent 15 = .ok (.goto 6, 3) := by decide +kernel
theorem dL_isConfluent_18 : decode cL_isConfluent 18 = .ok (.astore_n 2, 1) := by decide +kernel
theorem dL_isConfluent_19 : decode cL_isConfluent 19 = .ok (.iconst 1, 1) := by decide +kernel
theorem dL_isConfluent_20 : decode cL_isConfluent 20 = .ok (.ireturn, 1) := by decide +kernel
theorem dL_isConfluent_21 : decode cL_isConfluent 21 = .ok (.iconst 0, 1) := by decide +kernel
theorem dL_isConfluent_22 : decode cL_isConfluent 22 = .ok (.ireturn, 1) := by decide +kernel
theorem dL_addLetter_0 : decode cL_addLetter 0 = .ok (.aload_n 0, 1) := by decide +kernel
theorem dL_addLetter_1 : decode cL_addLetter 1 = .ok (.iload_n 1, 1) := by decide +kernel
theorem dL_addLetter_2 : decode cL_addLetter 2 = .ok (.invokevirtual 69, 3) := by decide +kernel
theorem dL_addLetter_5 : decode cL_addLetter 5 = .ok (.goto 9, 3) := by decide +kernel
theorem dL_addLetter_8 : decode cL_addLetter 8 = .ok (.astore_n 2, 1) := by decide +kernel
theorem dL_addLetter_9 : decode cL_addLetter 9 = .ok (.iconst 1, 1) := by decide +kernel
theorem dL_addLetter_10 : decode cL_addLetter 10 = .ok (.ireturn, 1) := by decide +kernel
theorem dL_addLetter_11 : decode cL_addLetter 11 = .ok (.astore_n 2, 1) := by decide +kernel
theorem dL_addLetter_12 : decode cL_addLetter 12 = .ok (.iconst 2, 1) := by decide +kernel
theorem dL_addLetter_13 : decode cL_addLetter 13 = .ok (.ireturn, 1) := by decide +kernel
theorem dL_addLetter_14 : decode cL_addLetter 14 = .ok (.iconst 0, 1) := by decide +kernel
theorem dL_addLetter_15 : decode cL_addLetter 15 = .ok (.ireturn, 1) := by decide +kernel
theorem dL_takeAxiom_0 : decode cL_takeAxiom 0 = .ok (.aload_n 0, 1) := by decide +kernel
theorem dL_takeAxiom_1 : decode cL_takeAxiom 1 = .ok (.iload_n 1, 1) := by decide +kernel
theorem dL_takeAxiom_2 : decode cL_takeAxiom 2 = .ok (.invokevirtual 72, 3) := by decide +kernel
theorem dL_takeAxiom_5 : decode cL_takeAxiom 5 = .ok (.goto 6, 3) := by decide +kernel
theorem dL_takeAxiom_8 : decode cL_takeAxiom 8 = .ok (.astore_n 2, 1) := by decide +kernel
theorem dL_takeAxiom_9 : decode cL_takeAxiom 9 = .ok (.iconst 1, 1) := by decide +kernel
theorem dL_takeAxiom_10 : decode cL_takeAxiom 10 = .ok (.ireturn, 1) := by decide +kernel
theorem dL_takeAxiom_11 : decode cL_takeAxiom 11 = .ok (.iconst 0, 1) := by decide +kernel
theorem dL_takeAxiom_12 : decode cL_takeAxiom 12 = .ok (.ireturn, 1) := by decide +kernel
theorem dL_takeWord_0 : decode cL_takeWord 0 = .ok (.aload_n 0, 1) := by decide +kernel
theorem dL_takeWord_1 : decode cL_takeWord 1 = .ok (.iload_n 1, 1) := by decide +kernel
theorem dL_takeWord_2 : decode cL_takeWord 2 = .ok (.invokevirtual 75, 3) := by decide +kernel
theorem dL_takeWord_5 : decode cL_takeWord 5 = .ok (.goto 9, 3) := by decide +kernel
theorem dL_takeWord_8 : decode cL_takeWord 8 = .ok (.astore_n 2, 1) := by decide +kernel
theorem dL_takeWord_9 : decode cL_takeWord 9 = .ok (.iconst 1, 1) := by decide +kernel
theorem dL_takeWord_10 : decode cL_takeWord 10 = .ok (.ireturn, 1) := by decide +kernel
theorem dL_takeWord_11 : decode cL_takeWord 11 = .ok (.astore_n 2, 1) := by decide +kernel
theorem dL_takeWord_12 : decode cL_takeWord 12 = .ok (.iconst 2, 1) := by decide +kernel
theorem dL_takeWord_13 : decode cL_takeWord 13 = .ok (.ireturn, 1) := by decide +kernel
theorem dL_takeWord_14 : decode cL_takeWord 14 = .ok (.iconst 0, 1) := by decide +kernel
theorem dL_takeWord_15 : decode cL_takeWord 15 = .ok (.ireturn, 1) := by decide +kernel
theorem dL_letterAt_0 : decode cL_letterAt 0 = .ok (.aload_n 2, 1) := by decide +kernel
theorem dL_letterAt_1 : decode cL_letterAt 1 = .ok (.iconst 0, 1) := by decide +kernel
theorem dL_letterAt_2 : decode cL_letterAt 2 = .ok (.aload_n 0, 1) := by decide +kernel
theorem dL_letterAt_3 : decode cL_letterAt 3 = .ok (.iload_n 1, 1) := by decide +kernel
theorem dL_letterAt_4 : decode cL_letterAt 4 = .ok (.invokevirtual 78, 3) := by decide +kernel
theorem dL_letterAt_7 : decode cL_letterAt 7 = .ok (.i2l, 1) := by decide +kernel
theorem dL_letterAt_8 : decode cL_letterAt 8 = .ok (.lastore, 1) := by decide +kernel
theorem dL_letterAt_9 : decode cL_letterAt 9 = .ok (.goto 6, 3) := by decide +kernel
theorem dL_letterAt_12 : decode cL_letterAt 12 = .ok (.astore_n 3, 1) := by decide +kernel
theorem dL_letterAt_13 : decode cL_letterAt 13 = .ok (.iconst 1, 1) := by decide +kernel
theorem dL_letterAt_14 : decode cL_letterAt 14 = .ok (.ireturn, 1) := by decide +kernel
theorem dL_letterAt_15 : decode cL_letterAt 15 = .ok (.iconst 0, 1) := by decide +kernel
theorem dL_letterAt_16 : decode cL_letterAt 16 = .ok (.ireturn, 1) := by decide +kernel
theorem dL_isGenerated_0 : decode cL_isGenerated 0 = .ok (.aload_n 1, 1) := by decide +kernel
theorem dL_isGenerated_1 : decode cL_isGenerated 1 = .ok (.iconst 0, 1) := by decide +kernel
theorem dL_isGenerated_2 : decode cL_isGenerated 2 = .ok (.aload_n 0, 1) := by decide +kernel
theorem dL_isGenerated_3 : decode cL_isGenerated 3 = .ok (.invokevirtual 82, 3) := by decide +kernel
theorem dL_isGenerated_6 : decode cL_isGenerated 6 = .ok (.ifCond .eq 7, 3) := by decide +kernel
theorem dL_isGenerated_9 : decode cL_isGenerated 9 = .ok (.lconst 1, 1) := by decide +kernel
theorem dL_isGenerated_10 : decode cL_isGenerated 10 = .ok (.goto 4, 3) := by decide +kernel
theorem dL_isGenerated_13 : decode cL_isGenerated 13 = .ok (.lconst 0, 1) := by decide +kernel
theorem dL_isGenerated_14 : decode cL_isGenerated 14 = .ok (.lastore, 1) := by decide +kernel
theorem dL_isGenerated_15 : decode cL_isGenerated 15 = .ok (.goto 6, 3) := by decide +kernel
theorem dL_isGenerated_18 : decode cL_isGenerated 18 = .ok (.astore_n 2, 1) := by decide +kernel
theorem dL_isGenerated_19 : decode cL_isGenerated 19 = .ok (.iconst 1, 1) := by decide +kernel
theorem dL_isGenerated_20 : decode cL_isGenerated 20 = .ok (.ireturn, 1) := by decide +kernel
theorem dL_isGenerated_21 : decode cL_isGenerated 21 = .ok (.iconst 0, 1) := by decide +kernel
theorem dL_isGenerated_22 : decode cL_isGenerated 22 = .ok (.ireturn, 1) := by decide +kernel
theorem dL_rank_0 : decode cL_rank 0 = .ok (.aload_n 1, 1) := by decide +kernel
theorem dL_rank_1 : decode cL_rank 1 = .ok (.iconst 0, 1) := by decide +kernel
theorem dL_rank_2 : decode cL_rank 2 = .ok (.aload_n 0, 1) := by decide +kernel
theorem dL_rank_3 : decode cL_rank 3 = .ok (.invokevirtual 85, 3) := by decide +kernel
theorem dL_rank_6 : decode cL_rank 6 = .ok (.i2l, 1) := by decide +kernel
theorem dL_rank_7 : decode cL_rank 7 = .ok (.lastore, 1) := by decide +kernel
theorem dL_rank_8 : decode cL_rank 8 = .ok (.goto 9, 3) := by decide +kernel
theorem dL_rank_11 : decode cL_rank 11 = .ok (.astore_n 2, 1) := by decide +kernel
theorem dL_rank_12 : decode cL_rank 12 = .ok (.iconst 1, 1) := by decide +kernel
theorem dL_rank_13 : decode cL_rank 13 = .ok (.ireturn, 1) := by decide +kernel
theorem dL_rank_14 : decode cL_rank 14 = .ok (.astore_n 2, 1) := by decide +kernel
theorem dL_rank_15 : decode cL_rank 15 = .ok (.iconst 2, 1) := by decide +kernel
theorem dL_rank_16 : decode cL_rank 16 = .ok (.ireturn, 1) := by decide +kernel
theorem dL_rank_17 : decode cL_rank 17 = .ok (.iconst 0, 1) := by decide +kernel
theorem dL_rank_18 : decode cL_rank 18 = .ok (.ireturn, 1) := by decide +kernel
theorem dL_derivationLength_0 : decode cL_derivationLength 0 = .ok (.aload_n 1, 1) := by decide +kernel
theorem dL_derivationLength_1 : decode cL_derivationLength 1 = .ok (.iconst 0, 1) := by decide +kernel
theorem dL_derivationLength_2 : decode cL_derivationLength 2 = .ok (.aload_n 0, 1) := by decide +kernel
theorem dL_derivationLength_3 : decode cL_derivationLength 3 = .ok (.invokevirtual 88, 3) := by decide +kernel
theorem dL_derivationLength_6 : decode cL_derivationLength 6 = .ok (.i2l, 1) := by decide +kernel
theorem dL_derivationLength_7 : decode cL_derivationLength 7 = .ok (.lastore, 1) := by decide +kernel
theorem dL_derivationLength_8 : decode cL_derivationLength 8 = .ok (.goto 9, 3) := by decide +kernel
theorem dL_derivationLength_11 : decode cL_derivationLength 11 = .ok (.astore_n 2, 1) := by decide +kernel
theorem dL_derivationLength_12 : decode cL_derivationLength 12 = .ok (.iconst 1, 1) := by decide +kernel
theorem dL_derivationLength_13 : decode cL_derivationLength 13 = .ok (.ireturn, 1) := by decide +kernel
theorem dL_derivationLength_14 : decode cL_derivationLength 14 = .ok (.astore_n 2, 1) := by decide +kernel
theorem dL_derivationLength_15 : decode cL_derivationLength 15 = .ok (.iconst 2, 1) := by decide +kernel
theorem dL_derivationLength_16 : decode cL_derivationLength 16 = .ok (.ireturn, 1) := by decide +kernel
theorem dL_derivationLength_17 : decode cL_derivationLength 17 = .ok (.iconst 0, 1) := by decide +kernel
theorem dL_derivationLength_18 : decode cL_derivationLength 18 = .ok (.ireturn, 1) := by decide +kernel
theorem dL_derivationStep_0 : decode cL_derivationStep 0 = .ok (.aload_n 3, 1) := by decide +kernel
theorem dL_derivationStep_1 : decode cL_derivationStep 1 = .ok (.iconst 0, 1) := by decide +kernel
theorem dL_derivationStep_2 : decode cL_derivationStep 2 = .ok (.aload_n 0, 1) := by decide +kernel
theorem dL_derivationStep_3 : decode cL_derivationStep 3 = .ok (.iload_n 1, 1) := by decide +kernel
theorem dL_derivationStep_4 : decode cL_derivationStep 4 = .ok (.iload_n 2, 1) := by decide +kernel
theorem dL_derivationStep_5 : decode cL_derivationStep 5 = .ok (.invokevirtual 91, 3) := by decide +kernel
theorem dL_derivationStep_8 : decode cL_derivationStep 8 = .ok (.i2l, 1) := by decide +kernel
theorem dL_derivationStep_9 : decode cL_derivationStep 9 = .ok (.lastore, 1) := by decide +kernel
theorem dL_derivationStep_10 : decode cL_derivationStep 10 = .ok (.goto 19, 3) := by decide +kernel
theorem dL_derivationStep_13 : decode cL_derivationStep 13 = .ok (.astore 4, 2) := by decide +kernel
theorem dL_derivationStep_15 : decode cL_derivationStep 15 = .ok (.iconst 1, 1) := by decide +kernel
theorem dL_derivationStep_16 : decode cL_derivationStep 16 = .ok (.ireturn, 1) := by decide +kernel
theorem dL_derivationStep_17 : decode cL_derivationStep 17 = .ok (.astore 4, 2) := by decide +kernel
theorem dL_derivationStep_19 : decode cL_derivationStep 19 = .ok (.iconst 2, 1) := by decide +kernel
theorem dL_derivationStep_20 : decode cL_derivationStep 20 = .ok (.ireturn, 1) := by decide +kernel
theorem dL_derivationStep_21 : decode cL_derivationStep 21 = .ok (.astore 4, 2) := by decide +kernel
theorem dL_derivationStep_23 : decode cL_derivationStep 23 = .ok (.iconst 3, 1) := by decide +kernel
theorem dL_derivationStep_24 : decode cL_derivationStep 24 = .ok (.ireturn, 1) := by decide +kernel
theorem dL_derivationStep_25 : decode cL_derivationStep 25 = .ok (.astore 4, 2) := by decide +kernel
theorem dL_derivationStep_27 : decode cL_derivationStep 27 = .ok (.iconst 4, 1) := by decide +kernel
theorem dL_derivationStep_28 : decode cL_derivationStep 28 = .ok (.ireturn, 1) := by decide +kernel
theorem dL_derivationStep_29 : decode cL_derivationStep 29 = .ok (.iconst 0, 1) := by decide +kernel
theorem dL_derivationStep_30 : decode cL_derivationStep 30 = .ok (.ireturn, 1) := by decide +kernel
theorem dL_derivations_0 : decode cL_derivations 0 = .ok (.aload_n 1, 1) := by decide +kernel
theorem dL_derivations_1 : decode cL_derivations 1 = .ok (.iconst 0, 1) := by decide +kernel
theorem dL_derivations_2 : decode cL_derivations 2 = .ok (.aload_n 0, 1) := by decide +kernel
theorem dL_derivations_3 : decode cL_derivations 3 = .ok (.invokevirtual 95, 3) := by decide +kernel
theorem dL_derivations_6 : decode cL_derivations 6 = .ok (.lastore, 1) := by decide +kernel
theorem dL_derivations_7 : decode cL_derivations 7 = .ok (.goto 6, 3) := by decide +kernel
theorem dL_derivations_10 : decode cL_derivations 10 = .ok (.astore_n 2, 1) := by decide +kernel
theorem dL_derivations_11 : decode cL_derivations 11 = .ok (.iconst 1, 1) := by decide +kernel
theorem dL_derivations_12 : decode cL_derivations 12 = .ok (.ireturn, 1) := by decide +kernel
theorem dL_derivations_13 : decode cL_derivations 13 = .ok (.iconst 0, 1) := by decide +kernel
theorem dL_derivations_14 : decode cL_derivations 14 = .ok (.ireturn, 1) := by decide +kernel
theorem dL_insert_0 : decode cL_insert 0 = .ok (.aload_n 2, 1) := by decide +kernel
theorem dL_insert_1 : decode cL_insert 1 = .ok (.iconst 0, 1) := by decide +kernel
theorem dL_insert_2 : decode cL_insert 2 = .ok (.aload_n 0, 1) := by decide +kernel
theorem dL_insert_3 : decode cL_insert 3 = .ok (.iload_n 1, 1) := by decide +kernel
theorem dL_insert_4 : decode cL_insert 4 = .ok (.invokevirtual 99, 3) := by decide +kernel
theorem dL_insert_7 : decode cL_insert 7 = .ok (.i2l, 1) := by decide +kernel
theorem dL_insert_8 : decode cL_insert 8 = .ok (.lastore, 1) := by decide +kernel
theorem dL_insert_9 : decode cL_insert 9 = .ok (.goto 6, 3) := by decide +kernel
theorem dL_insert_12 : decode cL_insert 12 = .ok (.astore_n 3, 1) := by decide +kernel
theorem dL_insert_13 : decode cL_insert 13 = .ok (.iconst 1, 1) := by decide +kernel
theorem dL_insert_14 : decode cL_insert 14 = .ok (.ireturn, 1) := by decide +kernel
theorem dL_insert_15 : decode cL_insert 15 = .ok (.iconst 0, 1) := by decide +kernel
theorem dL_insert_16 : decode cL_insert 16 = .ok (.ireturn, 1) := by decide +kernel
theorem dL_reduce_0 : decode cL_reduce 0 = .ok (.aload_n 2, 1) := by decide +kernel
theorem dL_reduce_1 : decode cL_reduce 1 = .ok (.iconst 0, 1) := by decide +kernel
theorem dL_reduce_2 : decode cL_reduce 2 = .ok (.aload_n 0, 1) := by decide +kernel
theorem dL_reduce_3 : decode cL_reduce 3 = .ok (.iload_n 1, 1) := by decide +kernel
theorem dL_reduce_4 : decode cL_reduce 4 = .ok (.invokevirtual 102, 3) := by decide +kernel
theorem dL_reduce_7 : decode cL_reduce 7 = .ok (.i2l, 1) := by decide +kernel
theorem dL_reduce_8 : decode cL_reduce 8 = .ok (.lastore, 1) := by decide +kernel
theorem dL_reduce_9 : decode cL_reduce 9 = .ok (.goto 6, 3) := by decide +kernel
theorem dL_reduce_12 : decode cL_reduce 12 = .ok (.astore_n 3, 1) := by decide +kernel
theorem dL_reduce_13 : decode cL_reduce 13 = .ok (.iconst 1, 1) := by decide +kernel
theorem dL_reduce_14 : decode cL_reduce 14 = .ok (.ireturn, 1) := by decide +kernel
theorem dL_reduce_15 : decode cL_reduce 15 = .ok (.iconst 0, 1) := by decide +kernel
theorem dL_reduce_16 : decode cL_reduce 16 = .ok (.ireturn, 1) := by decide +kernel
theorem dL_normalize_0 : decode cL_normalize 0 = .ok (.aload_n 0, 1) := by decide +kernel
theorem dL_normalize_1 : decode cL_normalize 1 = .ok (.iload_n 1, 1) := by decide +kernel
theorem dL_normalize_2 : decode cL_normalize 2 = .ok (.invokevirtual 105, 3) := by decide +kernel
theorem dL_normalize_5 : decode cL_normalize 5 = .ok (.goto 6, 3) := by decide +kernel
theorem dL_normalize_8 : decode cL_normalize 8 = .ok (.astore_n 2, 1) := by decide +kernel
theorem dL_normalize_9 : decode cL_normalize 9 = .ok (.iconst 1, 1) := by decide +kernel
theorem dL_normalize_10 : decode cL_normalize 10 = .ok (.ireturn, 1) := by decide +kernel
theorem dL_normalize_11 : decode cL_normalize 11 = .ok (.iconst 0, 1) := by decide +kernel
theorem dL_normalize_12 : decode cL_normalize 12 = .ok (.ireturn, 1) := by decide +kernel
theorem dL_allocate_0 : decode cL_allocate 0 = .ok (.aload_n 0, 1) := by decide +kernel
theorem dL_allocate_1 : decode cL_allocate 1 = .ok (.iload_n 1, 1) := by decide +kernel
theorem dL_allocate_2 : decode cL_allocate 2 = .ok (.iload_n 2, 1) := by decide +kernel
theorem dL_allocate_3 : decode cL_allocate 3 = .ok (.iload_n 3, 1) := by decide +kernel
theorem dL_allocate_4 : decode cL_allocate 4 = .ok (.invokevirtual 108, 3) := by decide +kernel
theorem dL_allocate_7 : decode cL_allocate 7 = .ok (.goto 11, 3) := by decide +kernel
theorem dL_allocate_10 : decode cL_allocate 10 = .ok (.astore 4, 2) := by decide +kernel
theorem dL_allocate_12 : decode cL_allocate 12 = .ok (.iconst 1, 1) := by decide +kernel
theorem dL_allocate_13 : decode cL_allocate 13 = .ok (.ireturn, 1) := by decide +kernel
theorem dL_allocate_14 : decode cL_allocate 14 = .ok (.astore 4, 2) := by decide +kernel
theorem dL_allocate_16 : decode cL_allocate 16 = .ok (.iconst 2, 1) := by decide +kernel
theorem dL_allocate_17 : decode cL_allocate 17 = .ok (.ireturn, 1) := by decide +kernel
theorem dL_allocate_18 : decode cL_allocate 18 = .ok (.iconst 0, 1) := by decide +kernel
theorem dL_allocate_19 : decode cL_allocate 19 = .ok (.ireturn, 1) := by decide +kernel
theorem dL_store_0 : decode cL_store 0 = .ok (.aload_n 0, 1) := by decide +kernel
theorem dL_store_1 : decode cL_store 1 = .ok (.iload_n 1, 1) := by decide +kernel
theorem dL_store_2 : decode cL_store 2 = .ok (.iload_n 2, 1) := by decide +kernel
theorem dL_store_3 : decode cL_store 3 = .ok (.iload_n 3, 1) := by decide +kernel
theorem dL_store_4 : decode cL_store 4 = .ok (.invokevirtual 112, 3) := by decide +kernel
theorem dL_store_7 : decode cL_store 7 = .ok (.goto 11, 3) := by decide +kernel
theorem dL_store_10 : decode cL_store 10 = .ok (.astore 4, 2) := by decide +kernel
theorem dL_store_12 : decode cL_store 12 = .ok (.iconst 1, 1) := by decide +kernel
theorem dL_store_13 : decode cL_store 13 = .ok (.ireturn, 1) := by decide +kernel
theorem dL_store_14 : decode cL_store 14 = .ok (.astore 4, 2) := by decide +kernel
theorem dL_store_16 : decode cL_store 16 = .ok (.iconst 2, 1) := by decide +kernel
theorem dL_store_17 : decode cL_store 17 = .ok (.ireturn, 1) := by decide +kernel
theorem dL_store_18 : decode cL_store 18 = .ok (.iconst 0, 1) := by decide +kernel
theorem dL_store_19 : decode cL_store 19 = .ok (.ireturn, 1) := by decide +kernel
theorem dL_element_0 : decode cL_element 0 = .ok (.aload_n 3, 1) := by decide +kernel
theorem dL_element_1 : decode cL_element 1 = .ok (.iconst 0, 1) := by decide +kernel
theorem dL_element_2 : decode cL_element 2 = .ok (.aload_n 0, 1) := by decide +kernel
theorem dL_element_3 : decode cL_element 3 = .ok (.iload_n 1, 1) := by decide +kernel
theorem dL_element_4 : decode cL_element 4 = .ok (.iload_n 2, 1) := by decide +kernel
theorem dL_element_5 : decode cL_element 5 = .ok (.invokevirtual 115, 3) := by decide +kernel
theorem dL_element_8 : decode cL_element 8 = .ok (.i2l, 1) := by decide +kernel
theorem dL_element_9 : decode cL_element 9 = .ok (.lastore, 1) := by decide +kernel
theorem dL_element_10 : decode cL_element 10 = .ok (.goto 11, 3) := by decide +kernel
theorem dL_element_13 : decode cL_element 13 = .ok (.astore 4, 2) := by decide +kernel
theorem dL_element_15 : decode cL_element 15 = .ok (.iconst 1, 1) := by decide +kernel
theorem dL_element_16 : decode cL_element 16 = .ok (.ireturn, 1) := by decide +kernel
theorem dL_element_17 : decode cL_element 17 = .ok (.astore 4, 2) := by decide +kernel
theorem dL_element_19 : decode cL_element 19 = .ok (.iconst 2, 1) := by decide +kernel
theorem dL_element_20 : decode cL_element 20 = .ok (.ireturn, 1) := by decide +kernel
theorem dL_element_21 : decode cL_element 21 = .ok (.iconst 0, 1) := by decide +kernel
theorem dL_element_22 : decode cL_element 22 = .ok (.ireturn, 1) := by decide +kernel
theorem dL_compareSizes_0 : decode cL_compareSizes 0 = .ok (.aload_n 2, 1) := by decide +kernel
theorem dL_compareSizes_1 : decode cL_compareSizes 1 = .ok (.iconst 0, 1) := by decide +kernel
theorem dL_compareSizes_2 : decode cL_compareSizes 2 = .ok (.aload_n 0, 1) := by decide +kernel
theorem dL_compareSizes_3 : decode cL_compareSizes 3 = .ok (.iload_n 1, 1) := by decide +kernel
theorem dL_compareSizes_4 : decode cL_compareSizes 4 = .ok (.invokevirtual 118, 3) := by decide +kernel
theorem dL_compareSizes_7 : decode cL_compareSizes 7 = .ok (.i2l, 1) := by decide +kernel
theorem dL_compareSizes_8 : decode cL_compareSizes 8 = .ok (.lastore, 1) := by decide +kernel
theorem dL_compareSizes_9 : decode cL_compareSizes 9 = .ok (.goto 15, 3) := by decide +kernel
theorem dL_compareSizes_12 : decode cL_compareSizes 12 = .ok (.astore_n 3, 1) := by decide +kernel
theorem dL_compareSizes_13 : decode cL_compareSizes 13 = .ok (.iconst 1, 1) := by decide +kernel
theorem dL_compareSizes_14 : decode cL_compareSizes 14 = .ok (.ireturn, 1) := by decide +kernel
theorem dL_compareSizes_15 : decode cL_compareSizes 15 = .ok (.astore_n 3, 1) := by decide +kernel
theorem dL_compareSizes_16 : decode cL_compareSizes 16 = .ok (.iconst 2, 1) := by decide +kernel
theorem dL_compareSizes_17 : decode cL_compareSizes 17 = .ok (.ireturn, 1) := by decide +kernel
theorem dL_compareSizes_18 : decode cL_compareSizes 18 = .ok (.astore_n 3, 1) := by decide +kernel
theorem dL_compareSizes_19 : decode cL_compareSizes 19 = .ok (.iconst 3, 1) := by decide +kernel
theorem dL_compareSizes_20 : decode cL_compareSizes 20 = .ok (.ireturn, 1) := by decide +kernel
theorem dL_compareSizes_21 : decode cL_compareSizes 21 = .ok (.astore_n 3, 1) := by decide +kernel
theorem dL_compareSizes_22 : decode cL_compareSizes 22 = .ok (.iconst 4, 1) := by decide +kernel
theorem dL_compareSizes_23 : decode cL_compareSizes 23 = .ok (.ireturn, 1) := by decide +kernel
theorem dL_compareSizes_24 : decode cL_compareSizes 24 = .ok (.iconst 0, 1) := by decide +kernel
theorem dL_compareSizes_25 : decode cL_compareSizes 25 = .ok (.ireturn, 1) := by decide +kernel
theorem dL_restore_0 : decode cL_restore 0 = .ok (.aload_n 0, 1) := by decide +kernel
theorem dL_restore_1 : decode cL_restore 1 = .ok (.invokevirtual 121, 3) := by decide +kernel
theorem dL_restore_4 : decode cL_restore 4 = .ok (.goto 6, 3) := by decide +kernel
theorem dL_restore_7 : decode cL_restore 7 = .ok (.astore_n 1, 1) := by decide +kernel
theorem dL_restore_8 : decode cL_restore 8 = .ok (.iconst 1, 1) := by decide +kernel
theorem dL_restore_9 : decode cL_restore 9 = .ok (.ireturn, 1) := by decide +kernel
theorem dL_restore_10 : decode cL_restore 10 = .ok (.iconst 0, 1) := by decide +kernel
theorem dL_restore_11 : decode cL_restore 11 = .ok (.ireturn, 1) := by decide +kernel
theorem dL_law_0 : decode cL_law 0 = .ok (.new 8, 3) := by decide +kernel
theorem dL_law_3 : decode cL_law 3 = .ok (.dup, 1) := by decide +kernel
theorem dL_law_4 : decode cL_law 4 = .ok (.invokespecial 124, 3) := by decide +kernel
theorem dL_law_7 : decode cL_law 7 = .ok (.astore_n 1, 1) := by decide +kernel
theorem dL_law_8 : decode cL_law 8 = .ok (.new 125, 3) := by decide +kernel
theorem dL_law_11 : decode cL_law 11 = .ok (.dup, 1) := by decide +kernel
theorem dL_law_12 : decode cL_law 12 = .ok (.invokespecial 127, 3) := by decide +kernel
theorem dL_law_15 : decode cL_law 15 = .ok (.astore_n 2, 1) := by decide +kernel
theorem dL_law_16 : decode cL_law 16 = .ok (.iconst 1, 1) := by decide +kernel
theorem dL_law_17 : decode cL_law 17 = .ok (.newarray .long, 2) := by decide +kernel
theorem dL_law_19 : decode cL_law 19 = .ok (.astore_n 3, 1) := by decide +kernel
theorem dL_law_20 : decode cL_law 20 = .ok (.iconst 1, 1) := by decide +kernel
theorem dL_law_21 : decode cL_law 21 = .ok (.newarray .double, 2) := by decide +kernel
theorem dL_law_23 : decode cL_law 23 = .ok (.astore 4, 2) := by decide +kernel
theorem dL_law_25 : decode cL_law 25 = .ok (.iconst 0, 1) := by decide +kernel
theorem dL_law_26 : decode cL_law 26 = .ok (.istore 5, 2) := by decide +kernel
theorem dL_law_28 : decode cL_law 28 = .ok (.iload 5, 2) := by decide +kernel
theorem dL_law_30 : decode cL_law 30 = .ok (.aload_n 0, 1) := by decide +kernel
theorem dL_law_31 : decode cL_law 31 = .ok (.arraylength, 1) := by decide +kernel
theorem dL_law_32 : decode cL_law 32 = .ok (.iconst 4, 1) := by decide +kernel
theorem dL_law_33 : decode cL_law 33 = .ok (.isub, 1) := by decide +kernel
theorem dL_law_34 : decode cL_law 34 = .ok (.if_icmp .gt 1842, 3) := by decide +kernel
theorem dL_law_37 : decode cL_law 37 = .ok (.aload_n 0, 1) := by decide +kernel
theorem dL_law_38 : decode cL_law 38 = .ok (.iload 5, 2) := by decide +kernel
theorem dL_law_40 : decode cL_law 40 = .ok (.iaload, 1) := by decide +kernel
theorem dL_law_41 : decode cL_law 41 = .ok (.bipush 63, 2) := by decide +kernel
theorem dL_law_43 : decode cL_law 43 = .ok (.iand, 1) := by decide +kernel
theorem dL_law_44 : decode cL_law 44 = .ok (.tableswitch 1826 0 37 #[168, 206, 250, 263, 299, 335, 391, 435, 491, 568, 631, 694, 738, 813, 869, 920, 931, 969, 1005, 1041, 1054, 1110, 1161, 1205, 1249, 1317, 1360, 1373, 1429, 1442, 1498, 1511, 1547, 1607, 1667, 1735, 1791, 1802], 168) := by decide +kernel
theorem dL_law_212 : decode cL_law 212 = .ok (.aload_n 1, 1) := by decide +kernel
theorem dL_law_213 : decode cL_law 213 = .ok (.aload_n 0, 1) := by decide +kernel
theorem dL_law_214 : decode cL_law 214 = .ok (.iload 5, 2) := by decide +kernel
theorem dL_law_216 : decode cL_law 216 = .ok (.iconst 1, 1) := by decide +kernel
theorem dL_law_217 : decode cL_law 217 = .ok (.iadd, 1) := by decide +kernel
theorem dL_law_218 : decode cL_law 218 = .ok (.iaload, 1) := by decide +kernel
theorem dL_law_219 : decode cL_law 219 = .ok (.i2c, 1) := by decide +kernel
theorem dL_law_220 : decode cL_law 220 = .ok (.invokestatic 128, 3) := by decide +kernel
theorem dL_law_223 : decode cL_law 223 = .ok (.istore 6, 2) := by decide +kernel
theorem dL_law_225 : decode cL_law 225 = .ok (.aload_n 2, 1) := by decide +kernel
theorem dL_law_226 : decode cL_law 226 = .ok (.aload_n 0, 1) := by decide +kernel
theorem dL_law_227 : decode cL_law 227 = .ok (.iload 5, 2) := by decide +kernel
theorem dL_law_229 : decode cL_law 229 = .ok (.iconst 1, 1) := by decide +kernel
theorem dL_law_230 : decode cL_law 230 = .ok (.iadd, 1) := by decide +kernel
theorem dL_law_231 : decode cL_law 231 = .ok (.iaload, 1) := by decide +kernel
theorem dL_law_232 : decode cL_law 232 = .ok (.i2c, 1) := by decide +kernel
theorem dL_law_233 : decode cL_law 233 = .ok (.invokevirtual 133, 3) := by decide +kernel
theorem dL_law_236 : decode cL_law 236 = .ok (.aload_n 2, 1) := by decide +kernel
theorem dL_law_237 : decode cL_law 237 = .ok (.invokevirtual 134, 3) := by decide +kernel
theorem dL_law_240 : decode cL_law 240 = .ok (.iload 6, 2) := by decide +kernel
theorem dL_law_242 : decode cL_law 242 = .ok (.if_icmp .eq 5, 3) := by decide +kernel
theorem dL_law_245 : decode cL_law 245 = .ok (.iconst 0, 1) := by decide +kernel
theorem dL_law_246 : decode cL_law 246 = .ok (.ireturn, 1) := by decide +kernel
theorem dL_law_247 : decode cL_law 247 = .ok (.goto 1623, 3) := by decide +kernel
theorem dL_law_250 : decode cL_law 250 = .ok (.aload_n 1, 1) := by decide +kernel
theorem dL_law_251 : decode cL_law 251 = .ok (.aload_n 3, 1) := by decide +kernel
theorem dL_law_252 : decode cL_law 252 = .ok (.invokestatic 137, 3) := by decide +kernel
theorem dL_law_255 : decode cL_law 255 = .ok (.istore 6, 2) := by decide +kernel
theorem dL_law_257 : decode cL_law 257 = .ok (.aload_n 2, 1) := by decide +kernel
theorem dL_law_258 : decode cL_law 258 = .ok (.invokevirtual 140, 3) := by decide +kernel
theorem dL_law_261 : decode cL_law 261 = .ok (.istore 7, 2) := by decide +kernel
theorem dL_law_263 : decode cL_law 263 = .ok (.aload_n 2, 1) := by decide +kernel
theorem dL_law_264 : decode cL_law 264 = .ok (.invokevirtual 134, 3) := by decide +kernel
theorem dL_law_267 : decode cL_law 267 = .ok (.iload 6, 2) := by decide +kernel
theorem dL_law_269 : decode cL_law 269 = .ok (.if_icmp .eq 5, 3) := by decide +kernel
theorem dL_law_272 : decode cL_law 272 = .ok (.iconst 0, 1) := by decide +kernel
theorem dL_law_273 : decode cL_law 273 = .ok (.ireturn, 1) := by decide +kernel
theorem dL_law_274 : decode cL_law 274 = .ok (.iload 6, 2) := by decide +kernel
theorem dL_law_276 : decode cL_law 276 = .ok (.ifCond .ne 15, 3) := by decide +kernel
theorem dL_law_279 : decode cL_law 279 = .ok (.aload_n 3, 1) := by decide +kernel
theorem dL_law_280 : decode cL_law 280 = .ok (.iconst 0, 1) := by decide +kernel
theorem dL_law_281 : decode cL_law 281 = .ok (.laload, 1) := by decide +kernel
theorem dL_law_282 : decode cL_law 282 = .ok (.iload 7, 2) := by decide +kernel
theorem dL_law_284 : decode cL_law 284 = .ok (.i2l, 1) := by decide +kernel
theorem dL_law_285 : decode cL_law 285 = .ok (.lcmp, 1) := by decide +kernel
theorem dL_law_286 : decode cL_law 286 = .ok (.ifCond .eq 5, 3) := by decide +kernel
theorem dL_law_289 : decode cL_law 289 = .ok (.iconst 0, 1) := by decide +kernel
theorem dL_law_290 : decode cL_law 290 = .ok (.ireturn, 1) := by decide +kernel
theorem dL_law_291 : decode cL_law 291 = .ok (.goto 1579, 3) := by decide +kernel
theorem dL_law_294 : decode cL_law 294 = .ok (.aload_n 1, 1) := by decide +kernel
theorem dL_law_295 : decode cL_law 295 = .ok (.invokevirtual 141, 3) := by decide +kernel
theorem dL_law_298 : decode cL_law 298 = .ok (.aload_n 2, 1) := by decide +kernel
theorem dL_law_299 : decode cL_law 299 = .ok (.invokevirtual 144, 3) := by decide +kernel
theorem dL_law_302 : decode cL_law 302 = .ok (.if_icmp .eq 1568, 3) := by decide +kernel
theorem dL_law_305 : decode cL_law 305 = .ok (.iconst 0, 1) := by decide +kernel
theorem dL_law_306 : decode cL_law 306 = .ok (.ireturn, 1) := by decide +kernel
theorem dL_law_307 : decode cL_law 307 = .ok (.aload_n 1, 1) := by decide +kernel
theorem dL_law_308 : decode cL_law 308 = .ok (.aload_n 0, 1) := by decide +kernel
theorem dL_law_309 : decode cL_law 309 = .ok (.iload 5, 2) := by decide +kernel
theorem dL_law_311 : decode cL_law 311 = .ok (.iconst 1, 1) := by decide +kernel
theorem dL_law_312 : decode cL_law 312 = .ok (.iadd, 1) := by decide +kernel
theorem dL_law_313 : decode cL_law 313 = .ok (.iaload, 1) := by decide +kernel
theorem dL_law_314 : decode cL_law 314 = .ok (.invokestatic 145, 3) := by decide +kernel
theorem dL_law_317 : decode cL_law 317 = .ok (.istore 6, 2) := by decide +kernel
theorem dL_law_319 : decode cL_law 319 = .ok (.aload_n 2, 1) := by decide +kernel
theorem dL_law_320 : decode cL_law 320 = .ok (.aload_n 0, 1) := by decide +kernel
theorem dL_law_321 : decode cL_law 321 = .ok (.iload 5, 2) := by decide +kernel
theorem dL_law_323 : decode cL_law 323 = .ok (.iconst 1, 1) := by decide +kernel
theorem dL_law_324 : decode cL_law 324 = .ok (.iadd, 1) := by decide +kernel
theorem dL_law_325 : decode cL_law 325 = .ok (.iaload, 1) := by decide +kernel
theorem dL_law_326 : decode cL_law 326 = .ok (.invokevirtual 148, 3) := by decide +kernel
theorem dL_law_329 : decode cL_law 329 = .ok (.aload_n 2, 1) := by decide +kernel
theorem dL_law_330 : decode cL_law 330 = .ok (.invokevirtual 134, 3) := by decide +kernel
theorem dL_law_333 : decode cL_law 333 = .ok (.iload 6, 2) := by decide +kernel
theorem dL_law_335 : decode cL_law 335 = .ok (.if_icmp .eq 5, 3) := by decide +kernel
theorem dL_law_338 : decode cL_law 338 = .ok (.iconst 0, 1) := by decide +kernel
theorem dL_law_339 : decode cL_law 339 = .ok (.ireturn, 1) := by decide +kernel
theorem dL_law_340 : decode cL_law 340 = .ok (.goto 1530, 3) := by decide +kernel
theorem dL_law_343 : decode cL_law 343 = .ok (.aload_n 1, 1) := by decide +kernel
theorem dL_law_344 : decode cL_law 344 = .ok (.aload_n 0, 1) := by decide +kernel
theorem dL_law_345 : decode cL_law 345 = .ok (.iload 5, 2) := by decide +kernel
theorem dL_law_347 : decode cL_law 347 = .ok (.iconst 1, 1) := by decide +kernel
theorem dL_law_348 : decode cL_law 348 = .ok (.iadd, 1) := by decide +kernel
theorem dL_law_349 : decode cL_law 349 = .ok (.iaload, 1) := by decide +kernel
theorem dL_law_350 : decode cL_law 350 = .ok (.invokestatic 149, 3) := by decide +kernel
theorem dL_law_353 : decode cL_law 353 = .ok (.istore 6, 2) := by decide +kernel
theorem dL_law_355 : decode cL_law 355 = .ok (.aload_n 2, 1) := by decide +kernel
theorem dL_law_356 : decode cL_law 356 = .ok (.aload_n 0, 1) := by decide +kernel
theorem dL_law_357 : decode cL_law 357 = .ok (.iload 5, 2) := by decide +kernel
theorem dL_law_359 : decode cL_law 359 = .ok (.iconst 1, 1) := by decide +kernel
theorem dL_law_360 : decode cL_law 360 = .ok (.iadd, 1) := by decide +kernel
theorem dL_law_361 : decode cL_law 361 = .ok (.iaload, 1) := by decide +kernel
theorem dL_law_362 : decode cL_law 362 = .ok (.invokevirtual 151, 3) := by decide +kernel
theorem dL_law_365 : decode cL_law 365 = .ok (.aload_n 2, 1) := by decide +kernel
theorem dL_law_366 : decode cL_law 366 = .ok (.invokevirtual 134, 3) := by decide +kernel
theorem dL_law_369 : decode cL_law 369 = .ok (.iload 6, 2) := by decide +kernel
theorem dL_law_371 : decode cL_law 371 = .ok (.if_icmp .eq 5, 3) := by decide +kernel
theorem dL_law_374 : decode cL_law 374 = .ok (.iconst 0, 1) := by decide +kernel
theorem dL_law_375 : decode cL_law 375 = .ok (.ireturn, 1) := by decide +kernel
theorem dL_law_376 : decode cL_law 376 = .ok (.goto 1494, 3) := by decide +kernel
theorem dL_law_379 : decode cL_law 379 = .ok (.aload_n 1, 1) := by decide +kernel
theorem dL_law_380 : decode cL_law 380 = .ok (.aload_n 0, 1) := by decide +kernel
theorem dL_law_381 : decode cL_law 381 = .ok (.iload 5, 2) := by decide +kernel
theorem dL_law_383 : decode cL_law 383 = .ok (.iconst 1, 1) := by decide +kernel
theorem dL_law_384 : decode cL_law 384 = .ok (.iadd, 1) := by decide +kernel
theorem dL_law_385 : decode cL_law 385 = .ok (.iaload, 1) := by decide +kernel
theorem dL_law_386 : decode cL_law 386 = .ok (.aload_n 3, 1) := by decide +kernel
theorem dL_law_387 : decode cL_law 387 = .ok (.invokestatic 152, 3) := by decide +kernel
theorem dL_law_390 : decode cL_law 390 = .ok (.istore 6, 2) := by decide +kernel
theorem dL_law_392 : decode cL_law 392 = .ok (.aload_n 2, 1) := by decide +kernel
theorem dL_law_393 : decode cL_law 393 = .ok (.aload_n 0, 1) := by decide +kernel
theorem dL_law_394 : decode cL_law 394 = .ok (.iload 5, 2) := by decide +kernel
theorem dL_law_396 : decode cL_law 396 = .ok (.iconst 1, 1) := by decide +kernel
theorem dL_law_397 : decode cL_law 397 = .ok (.iadd, 1) := by decide +kernel
theorem dL_law_398 : decode cL_law 398 = .ok (.iaload, 1) := by decide +kernel
theorem dL_law_399 : decode cL_law 399 = .ok (.invokevirtual 155, 3) := by decide +kernel
theorem dL_law_402 : decode cL_law 402 = .ok (.istore 7, 2) := by decide +kernel
theorem dL_law_404 : decode cL_law 404 = .ok (.aload_n 2, 1) := by decide +kernel
theorem dL_law_405 : decode cL_law 405 = .ok (.invokevirtual 134, 3) := by decide +kernel
theorem dL_law_408 : decode cL_law 408 = .ok (.iload 6, 2) := by decide +kernel
theorem dL_law_410 : decode cL_law 410 = .ok (.if_icmp .eq 5, 3) := by decide +kernel
theorem dL_law_413 : decode cL_law 413 = .ok (.iconst 0, 1) := by decide +kernel
theorem dL_law_414 : decode cL_law 414 = .ok (.ireturn, 1) := by decide +kernel
theorem dL_law_415 : decode cL_law 415 = .ok (.iload 6, 2) := by decide +kernel
theorem dL_law_417 : decode cL_law 417 = .ok (.ifCond .ne 15, 3) := by decide +kernel
theorem dL_law_420 : decode cL_law 420 = .ok (.aload_n 3, 1) := by decide +kernel
theorem dL_law_421 : decode cL_law 421 = .ok (.iconst 0, 1) := by decide +kernel
theorem dL_law_422 : decode cL_law 422 = .ok (.laload, 1) := by decide +kernel
theorem dL_law_423 : decode cL_law 423 = .ok (.iload 7, 2) := by decide +kernel
theorem dL_law_425 : decode cL_law 425 = .ok (.i2l, 1) := by decide +kernel
theorem dL_law_426 : decode cL_law 426 = .ok (.lcmp, 1) := by decide +kernel
theorem dL_law_427 : decode cL_law 427 = .ok (.ifCond .eq 5, 3) := by decide +kernel
theorem dL_law_430 : decode cL_law 430 = .ok (.iconst 0, 1) := by decide +kernel
theorem dL_law_431 : decode cL_law 431 = .ok (.ireturn, 1) := by decide +kernel
theorem dL_law_432 : decode cL_law 432 = .ok (.goto 1438, 3) := by decide +kernel
theorem dL_law_435 : decode cL_law 435 = .ok (.aload_n 1, 1) := by decide +kernel
theorem dL_law_436 : decode cL_law 436 = .ok (.aload_n 3, 1) := by decide +kernel
theorem dL_law_437 : decode cL_law 437 = .ok (.invokestatic 156, 3) := by decide +kernel
theorem dL_law_440 : decode cL_law 440 = .ok (.istore 6, 2) := by decide +kernel
theorem dL_law_442 : decode cL_law 442 = .ok (.aload_n 2, 1) := by decide +kernel
theorem dL_law_443 : decode cL_law 443 = .ok (.invokevirtual 158, 3) := by decide +kernel
theorem dL_law_446 : decode cL_law 446 = .ok (.istore 7, 2) := by decide +kernel
theorem dL_law_448 : decode cL_law 448 = .ok (.aload_n 2, 1) := by decide +kernel
theorem dL_law_449 : decode cL_law 449 = .ok (.invokevirtual 134, 3) := by decide +kernel
theorem dL_law_452 : decode cL_law 452 = .ok (.iload 6, 2) := by decide +kernel
theorem dL_law_454 : decode cL_law 454 = .ok (.if_icmp .eq 5, 3) := by decide +kernel
theorem dL_law_457 : decode cL_law 457 = .ok (.iconst 0, 1) := by decide +kernel
theorem dL_law_458 : decode cL_law 458 = .ok (.ireturn, 1) := by decide +kernel
theorem dL_law_459 : decode cL_law 459 = .ok (.iload 6, 2) := by decide +kernel
theorem dL_law_461 : decode cL_law 461 = .ok (.ifCond .ne 15, 3) := by decide +kernel
theorem dL_law_464 : decode cL_law 464 = .ok (.aload_n 3, 1) := by decide +kernel
theorem dL_law_465 : decode cL_law 465 = .ok (.iconst 0, 1) := by decide +kernel
theorem dL_law_466 : decode cL_law 466 = .ok (.laload, 1) := by decide +kernel
theorem dL_law_467 : decode cL_law 467 = .ok (.iload 7, 2) := by decide +kernel
theorem dL_law_469 : decode cL_law 469 = .ok (.i2l, 1) := by decide +kernel
theorem dL_law_470 : decode cL_law 470 = .ok (.lcmp, 1) := by decide +kernel
theorem dL_law_471 : decode cL_law 471 = .ok (.ifCond .eq 5, 3) := by decide +kernel
theorem dL_law_474 : decode cL_law 474 = .ok (.iconst 0, 1) := by decide +kernel
theorem dL_law_475 : decode cL_law 475 = .ok (.ireturn, 1) := by decide +kernel
theorem dL_law_476 : decode cL_law 476 = .ok (.goto 1394, 3) := by decide +kernel
theorem dL_law_479 : decode cL_law 479 = .ok (.aload_n 1, 1) := by decide +kernel
theorem dL_law_480 : decode cL_law 480 = .ok (.aload_n 0, 1) := by decide +kernel
theorem dL_law_481 : decode cL_law 481 = .ok (.iload 5, 2) := by decide +kernel
theorem dL_law_483 : decode cL_law 483 = .ok (.iconst 1, 1) := by decide +kernel
theorem dL_law_484 : decode cL_law 484 = .ok (.iadd, 1) := by decide +kernel
theorem dL_law_485 : decode cL_law 485 = .ok (.iaload, 1) := by decide +kernel
theorem dL_law_486 : decode cL_law 486 = .ok (.aload_n 3, 1) := by decide +kernel
theorem dL_law_487 : decode cL_law 487 = .ok (.invokestatic 159, 3) := by decide +kernel
theorem dL_law_490 : decode cL_law 490 = .ok (.istore 6, 2) := by decide +kernel
theorem dL_law_492 : decode cL_law 492 = .ok (.aload_n 2, 1) := by decide +kernel
theorem dL_law_493 : decode cL_law 493 = .ok (.aload_n 0, 1) := by decide +kernel
theorem dL_law_494 : decode cL_law 494 = .ok (.iload 5, 2) := by decide +kernel
theorem dL_law_496 : decode cL_law 496 = .ok (.iconst 1, 1) := by decide +kernel
theorem dL_law_497 : decode cL_law 497 = .ok (.iadd, 1) := by decide +kernel
theorem dL_law_498 : decode cL_law 498 = .ok (.iaload, 1) := by decide +kernel
theorem dL_law_499 : decode cL_law 499 = .ok (.invokevirtual 161, 3) := by decide +kernel
theorem dL_law_502 : decode cL_law 502 = .ok (.istore 7, 2) := by decide +kernel
theorem dL_law_504 : decode cL_law 504 = .ok (.aload_n 2, 1) := by decide +kernel
theorem dL_law_505 : decode cL_law 505 = .ok (.invokevirtual 134, 3) := by decide +kernel
theorem dL_law_508 : decode cL_law 508 = .ok (.iload 6, 2) := by decide +kernel
theorem dL_law_510 : decode cL_law 510 = .ok (.if_icmp .eq 5, 3) := by decide +kernel
theorem dL_law_513 : decode cL_law 513 = .ok (.iconst 0, 1) := by decide +kernel
theorem dL_law_514 : decode cL_law 514 = .ok (.ireturn, 1) := by decide +kernel
theorem dL_law_515 : decode cL_law 515 = .ok (.iload 6, 2) := by decide +kernel
theorem dL_law_517 : decode cL_law 517 = .ok (.ifCond .ne 15, 3) := by decide +kernel
theorem dL_law_520 : decode cL_law 520 = .ok (.aload_n 3, 1) := by decide +kernel
theorem dL_law_521 : decode cL_law 521 = .ok (.iconst 0, 1) := by decide +kernel
theorem dL_law_522 : decode cL_law 522 = .ok (.laload, 1) := by decide +kernel
theorem dL_law_523 : decode cL_law 523 = .ok (.iload 7, 2) := by decide +kernel
theorem dL_law_525 : decode cL_law 525 = .ok (.i2l, 1) := by decide +kernel
theorem dL_law_526 : decode cL_law 526 = .ok (.lcmp, 1) := by decide +kernel
theorem dL_law_527 : decode cL_law 527 = .ok (.ifCond .eq 5, 3) := by decide +kernel
theorem dL_law_530 : decode cL_law 530 = .ok (.iconst 0, 1) := by decide +kernel
theorem dL_law_531 : decode cL_law 531 = .ok (.ireturn, 1) := by decide +kernel
theorem dL_law_532 : decode cL_law 532 = .ok (.goto 1338, 3) := by decide +kernel
theorem dL_law_535 : decode cL_law 535 = .ok (.aload_n 1, 1) := by decide +kernel
theorem dL_law_536 : decode cL_law 536 = .ok (.aload_n 0, 1) := by decide +kernel
theorem dL_law_537 : decode cL_law 537 = .ok (.iload 5, 2) := by decide +kernel
theorem dL_law_539 : decode cL_law 539 = .ok (.iconst 1, 1) := by decide +kernel
theorem dL_law_540 : decode cL_law 540 = .ok (.iadd, 1) := by decide +kernel
theorem dL_law_541 : decode cL_law 541 = .ok (.iaload, 1) := by decide +kernel
theorem dL_law_542 : decode cL_law 542 = .ok (.aload 4, 2) := by decide +kernel
theorem dL_law_544 : decode cL_law 544 = .ok (.invokestatic 162, 3) := by decide +kernel
theorem dL_law_547 : decode cL_law 547 = .ok (.istore 6, 2) := by decide +kernel
theorem dL_law_549 : decode cL_law 549 = .ok (.aload_n 2, 1) := by decide +kernel
theorem dL_law_550 : decode cL_law 550 = .ok (.aload_n 0, 1) := by decide +kernel
theorem dL_law_551 : decode cL_law 551 = .ok (.iload 5, 2) := by decide +kernel
theorem dL_law_553 : decode cL_law 553 = .ok (.iconst 1, 1) := by decide +kernel
theorem dL_law_554 : decode cL_law 554 = .ok (.iadd, 1) := by decide +kernel
theorem dL_law_555 : decode cL_law 555 = .ok (.iaload, 1) := by decide +kernel
theorem dL_law_556 : decode cL_law 556 = .ok (.invokevirtual 165, 3) := by decide +kernel
theorem dL_law_559 : decode cL_law 559 = .ok (.dstore 7, 2) := by decide +kernel
theorem dL_law_561 : decode cL_law 561 = .ok (.aload_n 2, 1) := by decide +kernel
theorem dL_law_562 : decode cL_law 562 = .ok (.invokevirtual 134, 3) := by decide +kernel
theorem dL_law_565 : decode cL_law 565 = .ok (.iload 6, 2) := by decide +kernel
theorem dL_law_567 : decode cL_law 567 = .ok (.if_icmp .eq 5, 3) := by decide +kernel
theorem dL_law_570 : decode cL_law 570 = .ok (.iconst 0, 1) := by decide +kernel
theorem dL_law_571 : decode cL_law 571 = .ok (.ireturn, 1) := by decide +kernel
theorem dL_law_572 : decode cL_law 572 = .ok (.iload 6, 2) := by decide +kernel
theorem dL_law_574 : decode cL_law 574 = .ok (.ifCond .ne 35, 3) := by decide +kernel
theorem dL_law_577 : decode cL_law 577 = .ok (.aload 4, 2) := by decide +kernel
theorem dL_law_579 : decode cL_law 579 = .ok (.iconst 0, 1) := by decide +kernel
theorem dL_law_580 : decode cL_law 580 = .ok (.daload, 1) := by decide +kernel
theorem dL_law_581 : decode cL_law 581 = .ok (.dload 7, 2) := by decide +kernel
theorem dL_law_583 : decode cL_law 583 = .ok (.dcmp .l, 1) := by decide +kernel
theorem dL_law_584 : decode cL_law 584 = .ok (.ifCond .eq 25, 3) := by decide +kernel
theorem dL_law_587 : decode cL_law 587 = .ok (.aload 4, 2) := by decide +kernel
theorem dL_law_589 : decode cL_law 589 = .ok (.iconst 0, 1) := by decide +kernel
theorem dL_law_590 : decode cL_law 590 = .ok (.daload, 1) := by decide +kernel
theorem dL_law_591 : decode cL_law 591 = .ok (.aload 4, 2) := by decide +kernel
theorem dL_law_593 : decode cL_law 593 = .ok (.iconst 0, 1) := by decide +kernel
theorem dL_law_594 : decode cL_law 594 = .ok (.daload, 1) := by decide +kernel
theorem dL_law_595 : decode cL_law 595 = .ok (.dcmp .l, 1) := by decide +kernel
theorem dL_law_596 : decode cL_law 596 = .ok (.ifCond .eq 11, 3) := by decide +kernel
theorem dL_law_599 : decode cL_law 599 = .ok (.dload 7, 2) := by decide +kernel
theorem dL_law_601 : decode cL_law 601 = .ok (.dload 7, 2) := by decide +kernel
theorem dL_law_603 : decode cL_law 603 = .ok (.dcmp .l, 1) := by decide +kernel
theorem dL_law_604 : decode cL_law 604 = .ok (.ifCond .ne 5, 3) := by decide +kernel
theorem dL_law_607 : decode cL_law 607 = .ok (.iconst 0, 1) := by decide +kernel
theorem dL_law_608 : decode cL_law 608 = .ok (.ireturn, 1) := by decide +kernel
theorem dL_law_609 : decode cL_law 609 = .ok (.goto 1261, 3) := by decide +kernel
theorem dL_law_612 : decode cL_law 612 = .ok (.aload_n 1, 1) := by decide +kernel
theorem dL_law_613 : decode cL_law 613 = .ok (.aload_n 0, 1) := by decide +kernel
theorem dL_law_614 : decode cL_law 614 = .ok (.iload 5, 2) := by decide +kernel
theorem dL_law_616 : decode cL_law 616 = .ok (.iconst 1, 1) := by decide +kernel
theorem dL_law_617 : decode cL_law 617 = .ok (.iadd, 1) := by decide +kernel
theorem dL_law_618 : decode cL_law 618 = .ok (.iaload, 1) := by decide +kernel
theorem dL_law_619 : decode cL_law 619 = .ok (.aload_n 3, 1) := by decide +kernel
theorem dL_law_620 : decode cL_law 620 = .ok (.invokestatic 166, 3) := by decide +kernel
theorem dL_law_623 : decode cL_law 623 = .ok (.istore 6, 2) := by decide +kernel
theorem dL_law_625 : decode cL_law 625 = .ok (.aload_n 2, 1) := by decide +kernel
theorem dL_law_626 : decode cL_law 626 = .ok (.aload_n 0, 1) := by decide +kernel
theorem dL_law_627 : decode cL_law 627 = .ok (.iload 5, 2) := by decide +kernel
theorem dL_law_629 : decode cL_law 629 = .ok (.iconst 1, 1) := by decide +kernel
theorem dL_law_630 : decode cL_law 630 = .ok (.iadd, 1) := by decide +kernel
theorem dL_law_631 : decode cL_law 631 = .ok (.iaload, 1) := by decide +kernel
theorem dL_law_632 : decode cL_law 632 = .ok (.invokevirtual 168, 3) := by decide +kernel
theorem dL_law_635 : decode cL_law 635 = .ok (.istore 7, 2) := by decide +kernel
theorem dL_law_637 : decode cL_law 637 = .ok (.aload_n 2, 1) := by decide +kernel
theorem dL_law_638 : decode cL_law 638 = .ok (.invokevirtual 134, 3) := by decide +kernel
theorem dL_law_641 : decode cL_law 641 = .ok (.iload 6, 2) := by decide +kernel
theorem dL_law_643 : decode cL_law 643 = .ok (.if_icmp .eq 5, 3) := by decide +kernel
theorem dL_law_646 : decode cL_law 646 = .ok (.iconst 0, 1) := by decide +kernel
theorem dL_law_647 : decode cL_law 647 = .ok (.ireturn, 1) := by decide +kernel
theorem dL_law_648 : decode cL_law 648 = .ok (.iload 6, 2) := by decide +kernel
theorem dL_law_650 : decode cL_law 650 = .ok (.ifCond .ne 22, 3) := by decide +kernel
theorem dL_law_653 : decode cL_law 653 = .ok (.aload_n 3, 1) := by decide +kernel
theorem dL_law_654 : decode cL_law 654 = .ok (.iconst 0, 1) := by decide +kernel
theorem dL_law_655 : decode cL_law 655 = .ok (.laload, 1) := by decide +kernel
theorem dL_law_656 : decode cL_law 656 = .ok (.iload 7, 2) := by decide +kernel
theorem dL_law_658 : decode cL_law 658 = .ok (.ifCond .eq 7, 3) := by decide +kernel
theorem dL_law_661 : decode cL_law 661 = .ok (.lconst 1, 1) := by decide +kernel
theorem dL_law_662 : decode cL_law 662 = .ok (.goto 4, 3) := by decide +kernel
theorem dL_law_665 : decode cL_law 665 = .ok (.lconst 0, 1) := by decide +kernel
theorem dL_law_666 : decode cL_law 666 = .ok (.lcmp, 1) := by decide +kernel
theorem dL_law_667 : decode cL_law 667 = .ok (.ifCond .eq 5, 3) := by decide +kernel
theorem dL_law_670 : decode cL_law 670 = .ok (.iconst 0, 1) := by decide +kernel
theorem dL_law_671 : decode cL_law 671 = .ok (.ireturn, 1) := by decide +kernel
theorem dL_law_672 : decode cL_law 672 = .ok (.goto 1198, 3) := by decide +kernel
theorem dL_law_675 : decode cL_law 675 = .ok (.aload_n 1, 1) := by decide +kernel
theorem dL_law_676 : decode cL_law 676 = .ok (.aload_n 0, 1) := by decide +kernel
theorem dL_law_677 : decode cL_law 677 = .ok (.iload 5, 2) := by decide +kernel
theorem dL_law_679 : decode cL_law 679 = .ok (.iconst 1, 1) := by decide +kernel
theorem dL_law_680 : decode cL_law 680 = .ok (.iadd, 1) := by decide +kernel
theorem dL_law_681 : decode cL_law 681 = .ok (.iaload, 1) := by decide +kernel
theorem dL_law_682 : decode cL_law 682 = .ok (.aload_n 3, 1) := by decide +kernel
theorem dL_law_683 : decode cL_law 683 = .ok (.invokestatic 169, 3) := by decide +kernel
theorem dL_law_686 : decode cL_law 686 = .ok (.istore 6, 2) := by decide +kernel
theorem dL_law_688 : decode cL_law 688 = .ok (.aload_n 2, 1) := by decide +kernel
theorem dL_law_689 : decode cL_law 689 = .ok (.aload_n 0, 1) := by decide +kernel
theorem dL_law_690 : decode cL_law 690 = .ok (.iload 5, 2) := by decide +kernel
theorem dL_law_692 : decode cL_law 692 = .ok (.iconst 1, 1) := by decide +kernel
theorem dL_law_693 : decode cL_law 693 = .ok (.iadd, 1) := by decide +kernel
theorem dL_law_694 : decode cL_law 694 = .ok (.iaload, 1) := by decide +kernel
theorem dL_law_695 : decode cL_law 695 = .ok (.invokevirtual 171, 3) := by decide +kernel
theorem dL_law_698 : decode cL_law 698 = .ok (.istore 7, 2) := by decide +kernel
theorem dL_law_700 : decode cL_law 700 = .ok (.aload_n 2, 1) := by decide +kernel
theorem dL_law_701 : decode cL_law 701 = .ok (.invokevirtual 134, 3) := by decide +kernel
theorem dL_law_704 : decode cL_law 704 = .ok (.iload 6, 2) := by decide +kernel
theorem dL_law_706 : decode cL_law 706 = .ok (.if_icmp .eq 5, 3) := by decide +kernel
theorem dL_law_709 : decode cL_law 709 = .ok (.iconst 0, 1) := by decide +kernel
theorem dL_law_710 : decode cL_law 710 = .ok (.ireturn, 1) := by decide +kernel
theorem dL_law_711 : decode cL_law 711 = .ok (.iload 6, 2) := by decide +kernel
theorem dL_law_713 : decode cL_law 713 = .ok (.ifCond .ne 22, 3) := by decide +kernel
theorem dL_law_716 : decode cL_law 716 = .ok (.aload_n 3, 1) := by decide +kernel
theorem dL_law_717 : decode cL_law 717 = .ok (.iconst 0, 1) := by decide +kernel
theorem dL_law_718 : decode cL_law 718 = .ok (.laload, 1) := by decide +kernel
theorem dL_law_719 : decode cL_law 719 = .ok (.iload 7, 2) := by decide +kernel
theorem dL_law_721 : decode cL_law 721 = .ok (.ifCond .eq 7, 3) := by decide +kernel
theorem dL_law_724 : decode cL_law 724 = .ok (.lconst 1, 1) := by decide +kernel
theorem dL_law_725 : decode cL_law 725 = .ok (.goto 4, 3) := by decide +kernel
theorem dL_law_728 : decode cL_law 728 = .ok (.lconst 0, 1) := by decide +kernel
theorem dL_law_729 : decode cL_law 729 = .ok (.lcmp, 1) := by decide +kernel
theorem dL_law_730 : decode cL_law 730 = .ok (.ifCond .eq 5, 3) := by decide +kernel
theorem dL_law_733 : decode cL_law 733 = .ok (.iconst 0, 1) := by decide +kernel
theorem dL_law_734 : decode cL_law 734 = .ok (.ireturn, 1) := by decide +kernel
theorem dL_law_735 : decode cL_law 735 = .ok (.goto 1135, 3) := by decide +kernel
theorem dL_law_738 : decode cL_law 738 = .ok (.aload_n 1, 1) := by decide +kernel
theorem dL_law_739 : decode cL_law 739 = .ok (.aload_n 3, 1) := by decide +kernel
theorem dL_law_740 : decode cL_law 740 = .ok (.invokestatic 172, 3) := by decide +kernel
theorem dL_law_743 : decode cL_law 743 = .ok (.istore 6, 2) := by decide +kernel
theorem dL_law_745 : decode cL_law 745 = .ok (.aload_n 2, 1) := by decide +kernel
theorem dL_law_746 : decode cL_law 746 = .ok (.invokevirtual 174, 3) := by decide +kernel
theorem dL_law_749 : decode cL_law 749 = .ok (.istore 7, 2) := by decide +kernel
theorem dL_law_751 : decode cL_law 751 = .ok (.aload_n 2, 1) := by decide +kernel
theorem dL_law_752 : decode cL_law 752 = .ok (.invokevirtual 134, 3) := by decide +kernel
theorem dL_law_755 : decode cL_law 755 = .ok (.iload 6, 2) := by decide +kernel
theorem dL_law_757 : decode cL_law 757 = .ok (.if_icmp .eq 5, 3) := by decide +kernel
theorem dL_law_760 : decode cL_law 760 = .ok (.iconst 0, 1) := by decide +kernel
theorem dL_law_761 : decode cL_law 761 = .ok (.ireturn, 1) := by decide +kernel
theorem dL_law_762 : decode cL_law 762 = .ok (.iload 6, 2) := by decide +kernel
theorem dL_law_764 : decode cL_law 764 = .ok (.ifCond .ne 15, 3) := by decide +kernel
theorem dL_law_767 : decode cL_law 767 = .ok (.aload_n 3, 1) := by decide +kernel
theorem dL_law_768 : decode cL_law 768 = .ok (.iconst 0, 1) := by decide +kernel
theorem dL_law_769 : decode cL_law 769 = .ok (.laload, 1) := by decide +kernel
theorem dL_law_770 : decode cL_law 770 = .ok (.iload 7, 2) := by decide +kernel
theorem dL_law_772 : decode cL_law 772 = .ok (.i2l, 1) := by decide +kernel
theorem dL_law_773 : decode cL_law 773 = .ok (.lcmp, 1) := by decide +kernel
theorem dL_law_774 : decode cL_law 774 = .ok (.ifCond .eq 5, 3) := by decide +kernel
theorem dL_law_777 : decode cL_law 777 = .ok (.iconst 0, 1) := by decide +kernel
theorem dL_law_778 : decode cL_law 778 = .ok (.ireturn, 1) := by decide +kernel
theorem dL_law_779 : decode cL_law 779 = .ok (.goto 1091, 3) := by decide +kernel
theorem dL_law_782 : decode cL_law 782 = .ok (.aload_n 1, 1) := by decide +kernel
theorem dL_law_783 : decode cL_law 783 = .ok (.aload_n 0, 1) := by decide +kernel
theorem dL_law_784 : decode cL_law 784 = .ok (.iload 5, 2) := by decide +kernel
theorem dL_law_786 : decode cL_law 786 = .ok (.iconst 1, 1) := by decide +kernel
theorem dL_law_787 : decode cL_law 787 = .ok (.iadd, 1) := by decide +kernel
theorem dL_law_788 : decode cL_law 788 = .ok (.iaload, 1) := by decide +kernel
theorem dL_law_789 : decode cL_law 789 = .ok (.aload_n 0, 1) := by decide +kernel
theorem dL_law_790 : decode cL_law 790 = .ok (.iload 5, 2) := by decide +kernel
theorem dL_law_792 : decode cL_law 792 = .ok (.iconst 2, 1) := by decide +kernel
theorem dL_law_793 : decode cL_law 793 = .ok (.iadd, 1) := by decide +kernel
theorem dL_law_794 : decode cL_law 794 = .ok (.iaload, 1) := by decide +kernel
theorem dL_law_795 : decode cL_law 795 = .ok (.aload_n 3, 1) := by decide +kernel
theorem dL_law_796 : decode cL_law 796 = .ok (.invokestatic 175, 3) := by decide +kernel
theorem dL_law_799 : decode cL_law 799 = .ok (.istore 6, 2) := by decide +kernel
theorem dL_law_801 : decode cL_law 801 = .ok (.aload_n 2, 1) := by decide +kernel
theorem dL_law_802 : decode cL_law 802 = .ok (.aload_n 0, 1) := by decide +kernel
theorem dL_law_803 : decode cL_law 803 = .ok (.iload 5, 2) := by decide +kernel
theorem dL_law_805 : decode cL_law 805 = .ok (.iconst 1, 1) := by decide +kernel
theorem dL_law_806 : decode cL_law 806 = .ok (.iadd, 1) := by decide +kernel
theorem dL_law_807 : decode cL_law 807 = .ok (.iaload, 1) := by decide +kernel
theorem dL_law_808 : decode cL_law 808 = .ok (.aload_n 0, 1) := by decide +kernel
theorem dL_law_809 : decode cL_law 809 = .ok (.iload 5, 2) := by decide +kernel
theorem dL_law_811 : decode cL_law 811 = .ok (.iconst 2, 1) := by decide +kernel
theorem dL_law_812 : decode cL_law 812 = .ok (.iadd, 1) := by decide +kernel
theorem dL_law_813 : decode cL_law 813 = .ok (.iaload, 1) := by decide +kernel
theorem dL_law_814 : decode cL_law 814 = .ok (.invokevirtual 178, 3) := by decide +kernel
theorem dL_law_817 : decode cL_law 817 = .ok (.istore 7, 2) := by decide +kernel
theorem dL_law_819 : decode cL_law 819 = .ok (.aload_n 2, 1) := by decide +kernel
theorem dL_law_820 : decode cL_law 820 = .ok (.invokevirtual 134, 3) := by decide +kernel
theorem dL_law_823 : decode cL_law 823 = .ok (.iload 6, 2) := by decide +kernel
theorem dL_law_825 : decode cL_law 825 = .ok (.if_icmp .eq 5, 3) := by decide +kernel
theorem dL_law_828 : decode cL_law 828 = .ok (.iconst 0, 1) := by decide +kernel
theorem dL_law_829 : decode cL_law 829 = .ok (.ireturn, 1) := by decide +kernel
theorem dL_law_830 : decode cL_law 830 = .ok (.iload 6, 2) := by decide +kernel
theorem dL_law_832 : decode cL_law 832 = .ok (.ifCond .ne 22, 3) := by decide +kernel
theorem dL_law_835 : decode cL_law 835 = .ok (.aload_n 3, 1) := by decide +kernel
theorem dL_law_836 : decode cL_law 836 = .ok (.iconst 0, 1) := by decide +kernel
theorem dL_law_837 : decode cL_law 837 = .ok (.laload, 1) := by decide +kernel
theorem dL_law_838 : decode cL_law 838 = .ok (.iload 7, 2) := by decide +kernel
theorem dL_law_840 : decode cL_law 840 = .ok (.ifCond .eq 7, 3) := by decide +kernel
theorem dL_law_843 : decode cL_law 843 = .ok (.lconst 1, 1) := by decide +kernel
theorem dL_law_844 : decode cL_law 844 = .ok (.goto 4, 3) := by decide +kernel
theorem dL_law_847 : decode cL_law 847 = .ok (.lconst 0, 1) := by decide +kernel
theorem dL_law_848 : decode cL_law 848 = .ok (.lcmp, 1) := by decide +kernel
theorem dL_law_849 : decode cL_law 849 = .ok (.ifCond .eq 5, 3) := by decide +kernel
theorem dL_law_852 : decode cL_law 852 = .ok (.iconst 0, 1) := by decide +kernel
theorem dL_law_853 : decode cL_law 853 = .ok (.ireturn, 1) := by decide +kernel
theorem dL_law_854 : decode cL_law 854 = .ok (.goto 1016, 3) := by decide +kernel
theorem dL_law_857 : decode cL_law 857 = .ok (.aload_n 1, 1) := by decide +kernel
theorem dL_law_858 : decode cL_law 858 = .ok (.aload_n 0, 1) := by decide +kernel
theorem dL_law_859 : decode cL_law 859 = .ok (.iload 5, 2) := by decide +kernel
theorem dL_law_861 : decode cL_law 861 = .ok (.iconst 1, 1) := by decide +kernel
theorem dL_law_862 : decode cL_law 862 = .ok (.iadd, 1) := by decide +kernel
theorem dL_law_863 : decode cL_law 863 = .ok (.iaload, 1) := by decide +kernel
theorem dL_law_864 : decode cL_law 864 = .ok (.aload_n 3, 1) := by decide +kernel
theorem dL_law_865 : decode cL_law 865 = .ok (.invokestatic 179, 3) := by decide +kernel
theorem dL_law_868 : decode cL_law 868 = .ok (.istore 6, 2) := by decide +kernel
theorem dL_law_870 : decode cL_law 870 = .ok (.aload_n 2, 1) := by decide +kernel
theorem dL_law_871 : decode cL_law 871 = .ok (.aload_n 0, 1) := by decide +kernel
theorem dL_law_872 : decode cL_law 872 = .ok (.iload 5, 2) := by decide +kernel
theorem dL_law_874 : decode cL_law 874 = .ok (.iconst 1, 1) := by decide +kernel
theorem dL_law_875 : decode cL_law 875 = .ok (.iadd, 1) := by decide +kernel
theorem dL_law_876 : decode cL_law 876 = .ok (.iaload, 1) := by decide +kernel
theorem dL_law_877 : decode cL_law 877 = .ok (.invokevirtual 181, 3) := by decide +kernel
theorem dL_law_880 : decode cL_law 880 = .ok (.istore 7, 2) := by decide +kernel
theorem dL_law_882 : decode cL_law 882 = .ok (.aload_n 2, 1) := by decide +kernel
theorem dL_law_883 : decode cL_law 883 = .ok (.invokevirtual 134, 3) := by decide +kernel
theorem dL_law_886 : decode cL_law 886 = .ok (.iload 6, 2) := by decide +kernel
theorem dL_law_888 : decode cL_law 888 = .ok (.if_icmp .eq 5, 3) := by decide +kernel
theorem dL_law_891 : decode cL_law 891 = .ok (.iconst 0, 1) := by decide +kernel
theorem dL_law_892 : decode cL_law 892 = .ok (.ireturn, 1) := by decide +kernel
theorem dL_law_893 : decode cL_law 893 = .ok (.iload 6, 2) := by decide +kernel
theorem dL_law_895 : decode cL_law 895 = .ok (.ifCond .ne 15, 3) := by decide +kernel
theorem dL_law_898 : decode cL_law 898 = .ok (.aload_n 3, 1) := by decide +kernel
theorem dL_law_899 : decode cL_law 899 = .ok (.iconst 0, 1) := by decide +kernel
theorem dL_law_900 : decode cL_law 900 = .ok (.laload, 1) := by decide +kernel
theorem dL_law_901 : decode cL_law 901 = .ok (.iload 7, 2) := by decide +kernel
theorem dL_law_903 : decode cL_law 903 = .ok (.i2l, 1) := by decide +kernel
theorem dL_law_904 : decode cL_law 904 = .ok (.lcmp, 1) := by decide +kernel
theorem dL_law_905 : decode cL_law 905 = .ok (.ifCond .eq 5, 3) := by decide +kernel
theorem dL_law_908 : decode cL_law 908 = .ok (.iconst 0, 1) := by decide +kernel
theorem dL_law_909 : decode cL_law 909 = .ok (.ireturn, 1) := by decide +kernel
theorem dL_law_910 : decode cL_law 910 = .ok (.goto 960, 3) := by decide +kernel
theorem dL_law_913 : decode cL_law 913 = .ok (.aload_n 1, 1) := by decide +kernel
theorem dL_law_914 : decode cL_law 914 = .ok (.aload_n 3, 1) := by decide +kernel
theorem dL_law_915 : decode cL_law 915 = .ok (.invokestatic 182, 3) := by decide +kernel
theorem dL_law_918 : decode cL_law 918 = .ok (.istore 6, 2) := by decide +kernel
theorem dL_law_920 : decode cL_law 920 = .ok (.aload_n 2, 1) := by decide +kernel
theorem dL_law_921 : decode cL_law 921 = .ok (.invokevirtual 184, 3) := by decide +kernel
theorem dL_law_924 : decode cL_law 924 = .ok (.istore 7, 2) := by decide +kernel
theorem dL_law_926 : decode cL_law 926 = .ok (.aload_n 2, 1) := by decide +kernel
theorem dL_law_927 : decode cL_law 927 = .ok (.invokevirtual 134, 3) := by decide +kernel
theorem dL_law_930 : decode cL_law 930 = .ok (.iload 6, 2) := by decide +kernel
theorem dL_law_932 : decode cL_law 932 = .ok (.if_icmp .eq 5, 3) := by decide +kernel
theorem dL_law_935 : decode cL_law 935 = .ok (.iconst 0, 1) := by decide +kernel
theorem dL_law_936 : decode cL_law 936 = .ok (.ireturn, 1) := by decide +kernel
theorem dL_law_937 : decode cL_law 937 = .ok (.iload 6, 2) := by decide +kernel
theorem dL_law_939 : decode cL_law 939 = .ok (.ifCond .ne 22, 3) := by decide +kernel
theorem dL_law_942 : decode cL_law 942 = .ok (.aload_n 3, 1) := by decide +kernel
theorem dL_law_943 : decode cL_law 943 = .ok (.iconst 0, 1) := by decide +kernel
theorem dL_law_944 : decode cL_law 944 = .ok (.laload, 1) := by decide +kernel
theorem dL_law_945 : decode cL_law 945 = .ok (.iload 7, 2) := by decide +kernel
theorem dL_law_947 : decode cL_law 947 = .ok (.ifCond .eq 7, 3) := by decide +kernel
theorem dL_law_950 : decode cL_law 950 = .ok (.lconst 1, 1) := by decide +kernel
theorem dL_law_951 : decode cL_law 951 = .ok (.goto 4, 3) := by decide +kernel
theorem dL_law_954 : decode cL_law 954 = .ok (.lconst 0, 1) := by decide +kernel
theorem dL_law_955 : decode cL_law 955 = .ok (.lcmp, 1) := by decide +kernel
theorem dL_law_956 : decode cL_law 956 = .ok (.ifCond .eq 5, 3) := by decide +kernel
theorem dL_law_959 : decode cL_law 959 = .ok (.iconst 0, 1) := by decide +kernel
theorem dL_law_960 : decode cL_law 960 = .ok (.ireturn, 1) := by decide +kernel
theorem dL_law_961 : decode cL_law 961 = .ok (.goto 909, 3) := by decide +kernel
theorem dL_law_964 : decode cL_law 964 = .ok (.aload_n 1, 1) := by decide +kernel
theorem dL_law_965 : decode cL_law 965 = .ok (.invokevirtual 185, 3) := by decide +kernel
theorem dL_law_968 : decode cL_law 968 = .ok (.aload_n 2, 1) := by decide +kernel
theorem dL_law_969 : decode cL_law 969 = .ok (.invokevirtual 188, 3) := by decide +kernel
theorem dL_law_972 : decode cL_law 972 = .ok (.goto 898, 3) := by decide +kernel
theorem dL_law_975 : decode cL_law 975 = .ok (.aload_n 1, 1) := by decide +kernel
theorem dL_law_976 : decode cL_law 976 = .ok (.aload_n 0, 1) := by decide +kernel
theorem dL_law_977 : decode cL_law 977 = .ok (.iload 5, 2) := by decide +kernel
theorem dL_law_979 : decode cL_law 979 = .ok (.iconst 1, 1) := by decide +kernel
theorem dL_law_980 : decode cL_law 980 = .ok (.iadd, 1) := by decide +kernel
theorem dL_law_981 : decode cL_law 981 = .ok (.iaload, 1) := by decide +kernel
theorem dL_law_982 : decode cL_law 982 = .ok (.i2c, 1) := by decide +kernel
theorem dL_law_983 : decode cL_law 983 = .ok (.invokestatic 189, 3) := by decide +kernel
theorem dL_law_986 : decode cL_law 986 = .ok (.istore 6, 2) := by decide +kernel
theorem dL_law_988 : decode cL_law 988 = .ok (.aload_n 2, 1) := by decide +kernel
theorem dL_law_989 : decode cL_law 989 = .ok (.aload_n 0, 1) := by decide +kernel
theorem dL_law_990 : decode cL_law 990 = .ok (.iload 5, 2) := by decide +kernel
theorem dL_law_992 : decode cL_law 992 = .ok (.iconst 1, 1) := by decide +kernel
theorem dL_law_993 : decode cL_law 993 = .ok (.iadd, 1) := by decide +kernel
theorem dL_law_994 : decode cL_law 994 = .ok (.iaload, 1) := by decide +kernel
theorem dL_law_995 : decode cL_law 995 = .ok (.i2c, 1) := by decide +kernel
theorem dL_law_996 : decode cL_law 996 = .ok (.invokevirtual 191, 3) := by decide +kernel
theorem dL_law_999 : decode cL_law 999 = .ok (.aload_n 2, 1) := by decide +kernel
theorem dL_law_1000 : decode cL_law 1000 = .ok (.invokevirtual 134, 3) := by decide +kernel
theorem dL_law_1003 : decode cL_law 1003 = .ok (.iload 6, 2) := by decide +kernel
theorem dL_law_1005 : decode cL_law 1005 = .ok (.if_icmp .eq 5, 3) := by decide +kernel
theorem dL_law_1008 : decode cL_law 1008 = .ok (.iconst 0, 1) := by decide +kernel
theorem dL_law_1009 : decode cL_law 1009 = .ok (.ireturn, 1) := by decide +kernel
theorem dL_law_1010 : decode cL_law 1010 = .ok (.goto 860, 3) := by decide +kernel
theorem dL_law_1013 : decode cL_law 1013 = .ok (.aload_n 1, 1) := by decide +kernel
theorem dL_law_1014 : decode cL_law 1014 = .ok (.aload_n 0, 1) := by decide +kernel
theorem dL_law_1015 : decode cL_law 1015 = .ok (.iload 5, 2) := by decide +kernel
theorem dL_law_1017 : decode cL_law 1017 = .ok (.iconst 1, 1) := by decide +kernel
theorem dL_law_1018 : decode cL_law 1018 = .ok (.iadd, 1) := by decide +kernel
theorem dL_law_1019 : decode cL_law 1019 = .ok (.iaload, 1) := by decide +kernel
theorem dL_law_1020 : decode cL_law 1020 = .ok (.invokestatic 192, 3) := by decide +kernel
theorem dL_law_1023 : decode cL_law 1023 = .ok (.istore 6, 2) := by decide +kernel
theorem dL_law_1025 : decode cL_law 1025 = .ok (.aload_n 2, 1) := by decide +kernel
theorem dL_law_1026 : decode cL_law 1026 = .ok (.aload_n 0, 1) := by decide +kernel
theorem dL_law_1027 : decode cL_law 1027 = .ok (.iload 5, 2) := by decide +kernel
theorem dL_law_1029 : decode cL_law 1029 = .ok (.iconst 1, 1) := by decide +kernel
theorem dL_law_1030 : decode cL_law 1030 = .ok (.iadd, 1) := by decide +kernel
theorem dL_law_1031 : decode cL_law 1031 = .ok (.iaload, 1) := by decide +kernel
theorem dL_law_1032 : decode cL_law 1032 = .ok (.invokevirtual 194, 3) := by decide +kernel
theorem dL_law_1035 : decode cL_law 1035 = .ok (.aload_n 2, 1) := by decide +kernel
theorem dL_law_1036 : decode cL_law 1036 = .ok (.invokevirtual 134, 3) := by decide +kernel
theorem dL_law_1039 : decode cL_law 1039 = .ok (.iload 6, 2) := by decide +kernel
theorem dL_law_1041 : decode cL_law 1041 = .ok (.if_icmp .eq 5, 3) := by decide +kernel
theorem dL_law_1044 : decode cL_law 1044 = .ok (.iconst 0, 1) := by decide +kernel
theorem dL_law_1045 : decode cL_law 1045 = .ok (.ireturn, 1) := by decide +kernel
theorem dL_law_1046 : decode cL_law 1046 = .ok (.goto 824, 3) := by decide +kernel
theorem dL_law_1049 : decode cL_law 1049 = .ok (.aload_n 1, 1) := by decide +kernel
theorem dL_law_1050 : decode cL_law 1050 = .ok (.aload_n 0, 1) := by decide +kernel
theorem dL_law_1051 : decode cL_law 1051 = .ok (.iload 5, 2) := by decide +kernel
theorem dL_law_1053 : decode cL_law 1053 = .ok (.iconst 1, 1) := by decide +kernel
theorem dL_law_1054 : decode cL_law 1054 = .ok (.iadd, 1) := by decide +kernel
theorem dL_law_1055 : decode cL_law 1055 = .ok (.iaload, 1) := by decide +kernel
theorem dL_law_1056 : decode cL_law 1056 = .ok (.invokestatic 195, 3) := by decide +kernel
theorem dL_law_1059 : decode cL_law 1059 = .ok (.istore 6, 2) := by decide +kernel
theorem dL_law_1061 : decode cL_law 1061 = .ok (.aload_n 2, 1) := by decide +kernel
theorem dL_law_1062 : decode cL_law 1062 = .ok (.aload_n 0, 1) := by decide +kernel
theorem dL_law_1063 : decode cL_law 1063 = .ok (.iload 5, 2) := by decide +kernel
theorem dL_law_1065 : decode cL_law 1065 = .ok (.iconst 1, 1) := by decide +kernel
theorem dL_law_1066 : decode cL_law 1066 = .ok (.iadd, 1) := by decide +kernel
theorem dL_law_1067 : decode cL_law 1067 = .ok (.iaload, 1) := by decide +kernel
theorem dL_law_1068 : decode cL_law 1068 = .ok (.invokevirtual 197, 3) := by decide +kernel
theorem dL_law_1071 : decode cL_law 1071 = .ok (.aload_n 2, 1) := by decide +kernel
theorem dL_law_1072 : decode cL_law 1072 = .ok (.invokevirtual 134, 3) := by decide +kernel
theorem dL_law_1075 : decode cL_law 1075 = .ok (.iload 6, 2) := by decide +kernel
theorem dL_law_1077 : decode cL_law 1077 = .ok (.if_icmp .eq 5, 3) := by decide +kernel
theorem dL_law_1080 : decode cL_law 1080 = .ok (.iconst 0, 1) := by decide +kernel
theorem dL_law_1081 : decode cL_law 1081 = .ok (.ireturn, 1) := by decide +kernel
theorem dL_law_1082 : decode cL_law 1082 = .ok (.goto 788, 3) := by decide +kernel
theorem dL_law_1085 : decode cL_law 1085 = .ok (.aload_n 1, 1) := by decide +kernel
theorem dL_law_1086 : decode cL_law 1086 = .ok (.invokevirtual 198, 3) := by decide +kernel
theorem dL_law_1089 : decode cL_law 1089 = .ok (.aload_n 2, 1) := by decide +kernel
theorem dL_law_1090 : decode cL_law 1090 = .ok (.invokevirtual 201, 3) := by decide +kernel
theorem dL_law_1093 : decode cL_law 1093 = .ok (.if_icmp .eq 777, 3) := by decide +kernel
theorem dL_law_1096 : decode cL_law 1096 = .ok (.iconst 0, 1) := by decide +kernel
theorem dL_law_1097 : decode cL_law 1097 = .ok (.ireturn, 1) := by decide +kernel
theorem dL_law_1098 : decode cL_law 1098 = .ok (.aload_n 1, 1) := by decide +kernel
theorem dL_law_1099 : decode cL_law 1099 = .ok (.aload_n 0, 1) := by decide +kernel
theorem dL_law_1100 : decode cL_law 1100 = .ok (.iload 5, 2) := by decide +kernel
theorem dL_law_1102 : decode cL_law 1102 = .ok (.iconst 1, 1) := by decide +kernel
theorem dL_law_1103 : decode cL_law 1103 = .ok (.iadd, 1) := by decide +kernel
theorem dL_law_1104 : decode cL_law 1104 = .ok (.iaload, 1) := by decide +kernel
theorem dL_law_1105 : decode cL_law 1105 = .ok (.aload_n 3, 1) := by decide +kernel
theorem dL_law_1106 : decode cL_law 1106 = .ok (.invokestatic 202, 3) := by decide +kernel
theorem dL_law_1109 : decode cL_law 1109 = .ok (.istore 6, 2) := by decide +kernel
theorem dL_law_1111 : decode cL_law 1111 = .ok (.aload_n 2, 1) := by decide +kernel
theorem dL_law_1112 : decode cL_law 1112 = .ok (.aload_n 0, 1) := by decide +kernel
theorem dL_law_1113 : decode cL_law 1113 = .ok (.iload 5, 2) := by decide +kernel
theorem dL_law_1115 : decode cL_law 1115 = .ok (.iconst 1, 1) := by decide +kernel
theorem dL_law_1116 : decode cL_law 1116 = .ok (.iadd, 1) := by decide +kernel
theorem dL_law_1117 : decode cL_law 1117 = .ok (.iaload, 1) := by decide +kernel
theorem dL_law_1118 : decode cL_law 1118 = .ok (.invokevirtual 204, 3) := by decide +kernel
theorem dL_law_1121 : decode cL_law 1121 = .ok (.istore 7, 2) := by decide +kernel
theorem dL_law_1123 : decode cL_law 1123 = .ok (.aload_n 2, 1) := by decide +kernel
theorem dL_law_1124 : decode cL_law 1124 = .ok (.invokevirtual 134, 3) := by decide +kernel
theorem dL_law_1127 : decode cL_law 1127 = .ok (.iload 6, 2) := by decide +kernel
theorem dL_law_1129 : decode cL_law 1129 = .ok (.if_icmp .eq 5, 3) := by decide +kernel
theorem dL_law_1132 : decode cL_law 1132 = .ok (.iconst 0, 1) := by decide +kernel
theorem dL_law_1133 : decode cL_law 1133 = .ok (.ireturn, 1) := by decide +kernel
theorem dL_law_1134 : decode cL_law 1134 = .ok (.iload 6, 2) := by decide +kernel
theorem dL_law_1136 : decode cL_law 1136 = .ok (.ifCond .ne 15, 3) := by decide +kernel
theorem dL_law_1139 : decode cL_law 1139 = .ok (.aload_n 3, 1) := by decide +kernel
theorem dL_law_1140 : decode cL_law 1140 = .ok (.iconst 0, 1) := by decide +kernel
theorem dL_law_1141 : decode cL_law 1141 = .ok (.laload, 1) := by decide +kernel
theorem dL_law_1142 : decode cL_law 1142 = .ok (.iload 7, 2) := by decide +kernel
theorem dL_law_1144 : decode cL_law 1144 = .ok (.i2l, 1) := by decide +kernel
theorem dL_law_1145 : decode cL_law 1145 = .ok (.lcmp, 1) := by decide +kernel
theorem dL_law_1146 : decode cL_law 1146 = .ok (.ifCond .eq 5, 3) := by decide +kernel
theorem dL_law_1149 : decode cL_law 1149 = .ok (.iconst 0, 1) := by decide +kernel
theorem dL_law_1150 : decode cL_law 1150 = .ok (.ireturn, 1) := by decide +kernel
theorem dL_law_1151 : decode cL_law 1151 = .ok (.goto 719, 3) := by decide +kernel
theorem dL_law_1154 : decode cL_law 1154 = .ok (.aload_n 1, 1) := by decide +kernel
theorem dL_law_1155 : decode cL_law 1155 = .ok (.aload_n 3, 1) := by decide +kernel
theorem dL_law_1156 : decode cL_law 1156 = .ok (.invokestatic 205, 3) := by decide +kernel
theorem dL_law_1159 : decode cL_law 1159 = .ok (.istore 6, 2) := by decide +kernel
theorem dL_law_1161 : decode cL_law 1161 = .ok (.aload_n 2, 1) := by decide +kernel
theorem dL_law_1162 : decode cL_law 1162 = .ok (.invokevirtual 207, 3) := by decide +kernel
theorem dL_law_1165 : decode cL_law 1165 = .ok (.istore 7, 2) := by decide +kernel
theorem dL_law_1167 : decode cL_law 1167 = .ok (.aload_n 2, 1) := by decide +kernel
theorem dL_law_1168 : decode cL_law 1168 = .ok (.invokevirtual 134, 3) := by decide +kernel
theorem dL_law_1171 : decode cL_law 1171 = .ok (.iload 6, 2) := by decide +kernel
theorem dL_law_1173 : decode cL_law 1173 = .ok (.if_icmp .eq 5, 3) := by decide +kernel
theorem dL_law_1176 : decode cL_law 1176 = .ok (.iconst 0, 1) := by decide +kernel
theorem dL_law_1177 : decode cL_law 1177 = .ok (.ireturn, 1) := by decide +kernel
theorem dL_law_1178 : decode cL_law 1178 = .ok (.iload 6, 2) := by decide +kernel
theorem dL_law_1180 : decode cL_law 1180 = .ok (.ifCond .ne 22, 3) := by decide +kernel
theorem dL_law_1183 : decode cL_law 1183 = .ok (.aload_n 3, 1) := by decide +kernel
theorem dL_law_1184 : decode cL_law 1184 = .ok (.iconst 0, 1) := by decide +kernel
theorem dL_law_1185 : decode cL_law 1185 = .ok (.laload, 1) := by decide +kernel
theorem dL_law_1186 : decode cL_law 1186 = .ok (.iload 7, 2) := by decide +kernel
theorem dL_law_1188 : decode cL_law 1188 = .ok (.ifCond .eq 7, 3) := by decide +kernel
theorem dL_law_1191 : decode cL_law 1191 = .ok (.lconst 1, 1) := by decide +kernel
theorem dL_law_1192 : decode cL_law 1192 = .ok (.goto 4, 3) := by decide +kernel
theorem dL_law_1195 : decode cL_law 1195 = .ok (.lconst 0, 1) := by decide +kernel
theorem dL_law_1196 : decode cL_law 1196 = .ok (.lcmp, 1) := by decide +kernel
theorem dL_law_1197 : decode cL_law 1197 = .ok (.ifCond .eq 5, 3) := by decide +kernel
theorem dL_law_1200 : decode cL_law 1200 = .ok (.iconst 0, 1) := by decide +kernel
theorem dL_law_1201 : decode cL_law 1201 = .ok (.ireturn, 1) := by decide +kernel
theorem dL_law_1202 : decode cL_law 1202 = .ok (.goto 668, 3) := by decide +kernel
theorem dL_law_1205 : decode cL_law 1205 = .ok (.aload_n 1, 1) := by decide +kernel
theorem dL_law_1206 : decode cL_law 1206 = .ok (.aload_n 3, 1) := by decide +kernel
theorem dL_law_1207 : decode cL_law 1207 = .ok (.invokestatic 208, 3) := by decide +kernel
theorem dL_law_1210 : decode cL_law 1210 = .ok (.istore 6, 2) := by decide +kernel
theorem dL_law_1212 : decode cL_law 1212 = .ok (.aload_n 2, 1) := by decide +kernel
theorem dL_law_1213 : decode cL_law 1213 = .ok (.invokevirtual 210, 3) := by decide +kernel
theorem dL_law_1216 : decode cL_law 1216 = .ok (.istore 7, 2) := by decide +kernel
theorem dL_law_1218 : decode cL_law 1218 = .ok (.aload_n 2, 1) := by decide +kernel
theorem dL_law_1219 : decode cL_law 1219 = .ok (.invokevirtual 134, 3) := by decide +kernel
theorem dL_law_1222 : decode cL_law 1222 = .ok (.iload 6, 2) := by decide +kernel
theorem dL_law_1224 : decode cL_law 1224 = .ok (.if_icmp .eq 5, 3) := by decide +kernel
theorem dL_law_1227 : decode cL_law 1227 = .ok (.iconst 0, 1) := by decide +kernel
theorem dL_law_1228 : decode cL_law 1228 = .ok (.ireturn, 1) := by decide +kernel
theorem dL_law_1229 : decode cL_law 1229 = .ok (.iload 6, 2) := by decide +kernel
theorem dL_law_1231 : decode cL_law 1231 = .ok (.ifCond .ne 15, 3) := by decide +kernel
theorem dL_law_1234 : decode cL_law 1234 = .ok (.aload_n 3, 1) := by decide +kernel
theorem dL_law_1235 : decode cL_law 1235 = .ok (.iconst 0, 1) := by decide +kernel
theorem dL_law_1236 : decode cL_law 1236 = .ok (.laload, 1) := by decide +kernel
theorem dL_law_1237 : decode cL_law 1237 = .ok (.iload 7, 2) := by decide +kernel
theorem dL_law_1239 : decode cL_law 1239 = .ok (.i2l, 1) := by decide +kernel
theorem dL_law_1240 : decode cL_law 1240 = .ok (.lcmp, 1) := by decide +kernel
theorem dL_law_1241 : decode cL_law 1241 = .ok (.ifCond .eq 5, 3) := by decide +kernel
theorem dL_law_1244 : decode cL_law 1244 = .ok (.iconst 0, 1) := by decide +kernel
theorem dL_law_1245 : decode cL_law 1245 = .ok (.ireturn, 1) := by decide +kernel
theorem dL_law_1246 : decode cL_law 1246 = .ok (.goto 624, 3) := by decide +kernel
theorem dL_law_1249 : decode cL_law 1249 = .ok (.aload_n 1, 1) := by decide +kernel
theorem dL_law_1250 : decode cL_law 1250 = .ok (.aload_n 3, 1) := by decide +kernel
theorem dL_law_1251 : decode cL_law 1251 = .ok (.invokestatic 211, 3) := by decide +kernel
theorem dL_law_1254 : decode cL_law 1254 = .ok (.istore 6, 2) := by decide +kernel
theorem dL_law_1256 : decode cL_law 1256 = .ok (.aload_n 2, 1) := by decide +kernel
theorem dL_law_1257 : decode cL_law 1257 = .ok (.invokevirtual 213, 3) := by decide +kernel
theorem dL_law_1260 : decode cL_law 1260 = .ok (.istore 7, 2) := by decide +kernel
theorem dL_law_1262 : decode cL_law 1262 = .ok (.aload_n 2, 1) := by decide +kernel
theorem dL_law_1263 : decode cL_law 1263 = .ok (.invokevirtual 134, 3) := by decide +kernel
theorem dL_law_1266 : decode cL_law 1266 = .ok (.iload 6, 2) := by decide +kernel
theorem dL_law_1268 : decode cL_law 1268 = .ok (.if_icmp .eq 5, 3) := by decide +kernel
theorem dL_law_1271 : decode cL_law 1271 = .ok (.iconst 0, 1) := by decide +kernel
theorem dL_law_1272 : decode cL_law 1272 = .ok (.ireturn, 1) := by decide +kernel
theorem dL_law_1273 : decode cL_law 1273 = .ok (.iload 6, 2) := by decide +kernel
theorem dL_law_1275 : decode cL_law 1275 = .ok (.ifCond .ne 15, 3) := by decide +kernel
theorem dL_law_1278 : decode cL_law 1278 = .ok (.aload_n 3, 1) := by decide +kernel
theorem dL_law_1279 : decode cL_law 1279 = .ok (.iconst 0, 1) := by decide +kernel
theorem dL_law_1280 : decode cL_law 1280 = .ok (.laload, 1) := by decide +kernel
theorem dL_law_1281 : decode cL_law 1281 = .ok (.iload 7, 2) := by decide +kernel
theorem dL_law_1283 : decode cL_law 1283 = .ok (.i2l, 1) := by decide +kernel
theorem dL_law_1284 : decode cL_law 1284 = .ok (.lcmp, 1) := by decide +kernel
theorem dL_law_1285 : decode cL_law 1285 = .ok (.ifCond .eq 5, 3) := by decide +kernel
theorem dL_law_1288 : decode cL_law 1288 = .ok (.iconst 0, 1) := by decide +kernel
theorem dL_law_1289 : decode cL_law 1289 = .ok (.ireturn, 1) := by decide +kernel
theorem dL_law_1290 : decode cL_law 1290 = .ok (.goto 580, 3) := by decide +kernel
theorem dL_law_1293 : decode cL_law 1293 = .ok (.aload_n 1, 1) := by decide +kernel
theorem dL_law_1294 : decode cL_law 1294 = .ok (.aload_n 0, 1) := by decide +kernel
theorem dL_law_1295 : decode cL_law 1295 = .ok (.iload 5, 2) := by decide +kernel
theorem dL_law_1297 : decode cL_law 1297 = .ok (.iconst 1, 1) := by decide +kernel
theorem dL_law_1298 : decode cL_law 1298 = .ok (.iadd, 1) := by decide +kernel
theorem dL_law_1299 : decode cL_law 1299 = .ok (.iaload, 1) := by decide +kernel
theorem dL_law_1300 : decode cL_law 1300 = .ok (.aload_n 0, 1) := by decide +kernel
theorem dL_law_1301 : decode cL_law 1301 = .ok (.iload 5, 2) := by decide +kernel
theorem dL_law_1303 : decode cL_law 1303 = .ok (.iconst 2, 1) := by decide +kernel
theorem dL_law_1304 : decode cL_law 1304 = .ok (.iadd, 1) := by decide +kernel
theorem dL_law_1305 : decode cL_law 1305 = .ok (.iaload, 1) := by decide +kernel
theorem dL_law_1306 : decode cL_law 1306 = .ok (.aload_n 3, 1) := by decide +kernel
theorem dL_law_1307 : decode cL_law 1307 = .ok (.invokestatic 214, 3) := by decide +kernel
theorem dL_law_1310 : decode cL_law 1310 = .ok (.istore 6, 2) := by decide +kernel
theorem dL_law_1312 : decode cL_law 1312 = .ok (.aload_n 2, 1) := by decide +kernel
theorem dL_law_1313 : decode cL_law 1313 = .ok (.aload_n 0, 1) := by decide +kernel
theorem dL_law_1314 : decode cL_law 1314 = .ok (.iload 5, 2) := by decide +kernel
theorem dL_law_1316 : decode cL_law 1316 = .ok (.iconst 1, 1) := by decide +kernel
theorem dL_law_1317 : decode cL_law 1317 = .ok (.iadd, 1) := by decide +kernel
theorem dL_law_1318 : decode cL_law 1318 = .ok (.iaload, 1) := by decide +kernel
theorem dL_law_1319 : decode cL_law 1319 = .ok (.aload_n 0, 1) := by decide +kernel
theorem dL_law_1320 : decode cL_law 1320 = .ok (.iload 5, 2) := by decide +kernel
theorem dL_law_1322 : decode cL_law 1322 = .ok (.iconst 2, 1) := by decide +kernel
theorem dL_law_1323 : decode cL_law 1323 = .ok (.iadd, 1) := by decide +kernel
theorem dL_law_1324 : decode cL_law 1324 = .ok (.iaload, 1) := by decide +kernel
theorem dL_law_1325 : decode cL_law 1325 = .ok (.invokevirtual 216, 3) := by decide +kernel
theorem dL_law_1328 : decode cL_law 1328 = .ok (.istore 7, 2) := by decide +kernel
theorem dL_law_1330 : decode cL_law 1330 = .ok (.aload_n 2, 1) := by decide +kernel
theorem dL_law_1331 : decode cL_law 1331 = .ok (.invokevirtual 134, 3) := by decide +kernel
theorem dL_law_1334 : decode cL_law 1334 = .ok (.iload 6, 2) := by decide +kernel
theorem dL_law_1336 : decode cL_law 1336 = .ok (.if_icmp .eq 5, 3) := by decide +kernel
theorem dL_law_1339 : decode cL_law 1339 = .ok (.iconst 0, 1) := by decide +kernel
theorem dL_law_1340 : decode cL_law 1340 = .ok (.ireturn, 1) := by decide +kernel
theorem dL_law_1341 : decode cL_law 1341 = .ok (.iload 6, 2) := by decide +kernel
theorem dL_law_1343 : decode cL_law 1343 = .ok (.ifCond .ne 15, 3) := by decide +kernel
theorem dL_law_1346 : decode cL_law 1346 = .ok (.aload_n 3, 1) := by decide +kernel
theorem dL_law_1347 : decode cL_law 1347 = .ok (.iconst 0, 1) := by decide +kernel
theorem dL_law_1348 : decode cL_law 1348 = .ok (.laload, 1) := by decide +kernel
theorem dL_law_1349 : decode cL_law 1349 = .ok (.iload 7, 2) := by decide +kernel
theorem dL_law_1351 : decode cL_law 1351 = .ok (.i2l, 1) := by decide +kernel
theorem dL_law_1352 : decode cL_law 1352 = .ok (.lcmp, 1) := by decide +kernel
theorem dL_law_1353 : decode cL_law 1353 = .ok (.ifCond .eq 5, 3) := by decide +kernel
theorem dL_law_1356 : decode cL_law 1356 = .ok (.iconst 0, 1) := by decide +kernel
theorem dL_law_1357 : decode cL_law 1357 = .ok (.ireturn, 1) := by decide +kernel
theorem dL_law_1358 : decode cL_law 1358 = .ok (.goto 512, 3) := by decide +kernel
theorem dL_law_1361 : decode cL_law 1361 = .ok (.aload_n 1, 1) := by decide +kernel
theorem dL_law_1362 : decode cL_law 1362 = .ok (.aload_n 3, 1) := by decide +kernel
theorem dL_law_1363 : decode cL_law 1363 = .ok (.invokestatic 217, 3) := by decide +kernel
theorem dL_law_1366 : decode cL_law 1366 = .ok (.istore 6, 2) := by decide +kernel
theorem dL_law_1368 : decode cL_law 1368 = .ok (.aload_n 2, 1) := by decide +kernel
theorem dL_law_1369 : decode cL_law 1369 = .ok (.invokevirtual 219, 3) := by decide +kernel
theorem dL_law_1372 : decode cL_law 1372 = .ok (.lstore 7, 2) := by decide +kernel
theorem dL_law_1374 : decode cL_law 1374 = .ok (.aload_n 2, 1) := by decide +kernel
theorem dL_law_1375 : decode cL_law 1375 = .ok (.invokevirtual 134, 3) := by decide +kernel
theorem dL_law_1378 : decode cL_law 1378 = .ok (.iload 6, 2) := by decide +kernel
theorem dL_law_1380 : decode cL_law 1380 = .ok (.if_icmp .eq 5, 3) := by decide +kernel
theorem dL_law_1383 : decode cL_law 1383 = .ok (.iconst 0, 1) := by decide +kernel
theorem dL_law_1384 : decode cL_law 1384 = .ok (.ireturn, 1) := by decide +kernel
theorem dL_law_1385 : decode cL_law 1385 = .ok (.iload 6, 2) := by decide +kernel
theorem dL_law_1387 : decode cL_law 1387 = .ok (.ifCond .ne 14, 3) := by decide +kernel
theorem dL_law_1390 : decode cL_law 1390 = .ok (.aload_n 3, 1) := by decide +kernel
theorem dL_law_1391 : decode cL_law 1391 = .ok (.iconst 0, 1) := by decide +kernel
theorem dL_law_1392 : decode cL_law 1392 = .ok (.laload, 1) := by decide +kernel
theorem dL_law_1393 : decode cL_law 1393 = .ok (.lload 7, 2) := by decide +kernel
theorem dL_law_1395 : decode cL_law 1395 = .ok (.lcmp, 1) := by decide +kernel
theorem dL_law_1396 : decode cL_law 1396 = .ok (.ifCond .eq 5, 3) := by decide +kernel
theorem dL_law_1399 : decode cL_law 1399 = .ok (.iconst 0, 1) := by decide +kernel
theorem dL_law_1400 : decode cL_law 1400 = .ok (.ireturn, 1) := by decide +kernel
theorem dL_law_1401 : decode cL_law 1401 = .ok (.goto 469, 3) := by decide +kernel
theorem dL_law_1404 : decode cL_law 1404 = .ok (.aload_n 1, 1) := by decide +kernel
theorem dL_law_1405 : decode cL_law 1405 = .ok (.invokevirtual 220, 3) := by decide +kernel
theorem dL_law_1408 : decode cL_law 1408 = .ok (.aload_n 2, 1) := by decide +kernel
theorem dL_law_1409 : decode cL_law 1409 = .ok (.invokevirtual 223, 3) := by decide +kernel
theorem dL_law_1412 : decode cL_law 1412 = .ok (.if_icmp .eq 458, 3) := by decide +kernel
theorem dL_law_1415 : decode cL_law 1415 = .ok (.iconst 0, 1) := by decide +kernel
theorem dL_law_1416 : decode cL_law 1416 = .ok (.ireturn, 1) := by decide +kernel
theorem dL_law_1417 : decode cL_law 1417 = .ok (.aload_n 1, 1) := by decide +kernel
theorem dL_law_1418 : decode cL_law 1418 = .ok (.aload_n 0, 1) := by decide +kernel
theorem dL_law_1419 : decode cL_law 1419 = .ok (.iload 5, 2) := by decide +kernel
theorem dL_law_1421 : decode cL_law 1421 = .ok (.iconst 1, 1) := by decide +kernel
theorem dL_law_1422 : decode cL_law 1422 = .ok (.iadd, 1) := by decide +kernel
theorem dL_law_1423 : decode cL_law 1423 = .ok (.iaload, 1) := by decide +kernel
theorem dL_law_1424 : decode cL_law 1424 = .ok (.aload_n 3, 1) := by decide +kernel
theorem dL_law_1425 : decode cL_law 1425 = .ok (.invokestatic 224, 3) := by decide +kernel
theorem dL_law_1428 : decode cL_law 1428 = .ok (.istore 6, 2) := by decide +kernel
theorem dL_law_1430 : decode cL_law 1430 = .ok (.aload_n 2, 1) := by decide +kernel
theorem dL_law_1431 : decode cL_law 1431 = .ok (.aload_n 0, 1) := by decide +kernel
theorem dL_law_1432 : decode cL_law 1432 = .ok (.iload 5, 2) := by decide +kernel
theorem dL_law_1434 : decode cL_law 1434 = .ok (.iconst 1, 1) := by decide +kernel
theorem dL_law_1435 : decode cL_law 1435 = .ok (.iadd, 1) := by decide +kernel
theorem dL_law_1436 : decode cL_law 1436 = .ok (.iaload, 1) := by decide +kernel
theorem dL_law_1437 : decode cL_law 1437 = .ok (.invokevirtual 226, 3) := by decide +kernel
theorem dL_law_1440 : decode cL_law 1440 = .ok (.istore 7, 2) := by decide +kernel
theorem dL_law_1442 : decode cL_law 1442 = .ok (.aload_n 2, 1) := by decide +kernel
theorem dL_law_1443 : decode cL_law 1443 = .ok (.invokevirtual 134, 3) := by decide +kernel
theorem dL_law_1446 : decode cL_law 1446 = .ok (.iload 6, 2) := by decide +kernel
theorem dL_law_1448 : decode cL_law 1448 = .ok (.if_icmp .eq 5, 3) := by decide +kernel
theorem dL_law_1451 : decode cL_law 1451 = .ok (.iconst 0, 1) := by decide +kernel
theorem dL_law_1452 : decode cL_law 1452 = .ok (.ireturn, 1) := by decide +kernel
theorem dL_law_1453 : decode cL_law 1453 = .ok (.iload 6, 2) := by decide +kernel
theorem dL_law_1455 : decode cL_law 1455 = .ok (.ifCond .ne 15, 3) := by decide +kernel
theorem dL_law_1458 : decode cL_law 1458 = .ok (.aload_n 3, 1) := by decide +kernel
theorem dL_law_1459 : decode cL_law 1459 = .ok (.iconst 0, 1) := by decide +kernel
theorem dL_law_1460 : decode cL_law 1460 = .ok (.laload, 1) := by decide +kernel
theorem dL_law_1461 : decode cL_law 1461 = .ok (.iload 7, 2) := by decide +kernel
theorem dL_law_1463 : decode cL_law 1463 = .ok (.i2l, 1) := by decide +kernel
theorem dL_law_1464 : decode cL_law 1464 = .ok (.lcmp, 1) := by decide +kernel
theorem dL_law_1465 : decode cL_law 1465 = .ok (.ifCond .eq 5, 3) := by decide +kernel
theorem dL_law_1468 : decode cL_law 1468 = .ok (.iconst 0, 1) := by decide +kernel
theorem dL_law_1469 : decode cL_law 1469 = .ok (.ireturn, 1) := by decide +kernel
theorem dL_law_1470 : decode cL_law 1470 = .ok (.goto 400, 3) := by decide +kernel
theorem dL_law_1473 : decode cL_law 1473 = .ok (.aload_n 1, 1) := by decide +kernel
theorem dL_law_1474 : decode cL_law 1474 = .ok (.invokevirtual 227, 3) := by decide +kernel
theorem dL_law_1477 : decode cL_law 1477 = .ok (.aload_n 2, 1) := by decide +kernel
theorem dL_law_1478 : decode cL_law 1478 = .ok (.invokevirtual 230, 3) := by decide +kernel
theorem dL_law_1481 : decode cL_law 1481 = .ok (.if_icmp .eq 389, 3) := by decide +kernel
theorem dL_law_1484 : decode cL_law 1484 = .ok (.iconst 0, 1) := by decide +kernel
theorem dL_law_1485 : decode cL_law 1485 = .ok (.ireturn, 1) := by decide +kernel
theorem dL_law_1486 : decode cL_law 1486 = .ok (.aload_n 1, 1) := by decide +kernel
theorem dL_law_1487 : decode cL_law 1487 = .ok (.aload_n 0, 1) := by decide +kernel
theorem dL_law_1488 : decode cL_law 1488 = .ok (.iload 5, 2) := by decide +kernel
theorem dL_law_1490 : decode cL_law 1490 = .ok (.iconst 1, 1) := by decide +kernel
theorem dL_law_1491 : decode cL_law 1491 = .ok (.iadd, 1) := by decide +kernel
theorem dL_law_1492 : decode cL_law 1492 = .ok (.iaload, 1) := by decide +kernel
theorem dL_law_1493 : decode cL_law 1493 = .ok (.aload_n 3, 1) := by decide +kernel
theorem dL_law_1494 : decode cL_law 1494 = .ok (.invokestatic 231, 3) := by decide +kernel
theorem dL_law_1497 : decode cL_law 1497 = .ok (.istore 6, 2) := by decide +kernel
theorem dL_law_1499 : decode cL_law 1499 = .ok (.aload_n 2, 1) := by decide +kernel
theorem dL_law_1500 : decode cL_law 1500 = .ok (.aload_n 0, 1) := by decide +kernel
theorem dL_law_1501 : decode cL_law 1501 = .ok (.iload 5, 2) := by decide +kernel
theorem dL_law_1503 : decode cL_law 1503 = .ok (.iconst 1, 1) := by decide +kernel
theorem dL_law_1504 : decode cL_law 1504 = .ok (.iadd, 1) := by decide +kernel
theorem dL_law_1505 : decode cL_law 1505 = .ok (.iaload, 1) := by decide +kernel
theorem dL_law_1506 : decode cL_law 1506 = .ok (.invokevirtual 233, 3) := by decide +kernel
theorem dL_law_1509 : decode cL_law 1509 = .ok (.istore 7, 2) := by decide +kernel
theorem dL_law_1511 : decode cL_law 1511 = .ok (.aload_n 2, 1) := by decide +kernel
theorem dL_law_1512 : decode cL_law 1512 = .ok (.invokevirtual 134, 3) := by decide +kernel
theorem dL_law_1515 : decode cL_law 1515 = .ok (.iload 6, 2) := by decide +kernel
theorem dL_law_1517 : decode cL_law 1517 = .ok (.if_icmp .eq 5, 3) := by decide +kernel
theorem dL_law_1520 : decode cL_law 1520 = .ok (.iconst 0, 1) := by decide +kernel
theorem dL_law_1521 : decode cL_law 1521 = .ok (.ireturn, 1) := by decide +kernel
theorem dL_law_1522 : decode cL_law 1522 = .ok (.iload 6, 2) := by decide +kernel
theorem dL_law_1524 : decode cL_law 1524 = .ok (.ifCond .ne 15, 3) := by decide +kernel
theorem dL_law_1527 : decode cL_law 1527 = .ok (.aload_n 3, 1) := by decide +kernel
theorem dL_law_1528 : decode cL_law 1528 = .ok (.iconst 0, 1) := by decide +kernel
theorem dL_law_1529 : decode cL_law 1529 = .ok (.laload, 1) := by decide +kernel
theorem dL_law_1530 : decode cL_law 1530 = .ok (.iload 7, 2) := by decide +kernel
theorem dL_law_1532 : decode cL_law 1532 = .ok (.i2l, 1) := by decide +kernel
theorem dL_law_1533 : decode cL_law 1533 = .ok (.lcmp, 1) := by decide +kernel
theorem dL_law_1534 : decode cL_law 1534 = .ok (.ifCond .eq 5, 3) := by decide +kernel
theorem dL_law_1537 : decode cL_law 1537 = .ok (.iconst 0, 1) := by decide +kernel
theorem dL_law_1538 : decode cL_law 1538 = .ok (.ireturn, 1) := by decide +kernel
theorem dL_law_1539 : decode cL_law 1539 = .ok (.goto 331, 3) := by decide +kernel
theorem dL_law_1542 : decode cL_law 1542 = .ok (.aload_n 1, 1) := by decide +kernel
theorem dL_law_1543 : decode cL_law 1543 = .ok (.invokevirtual 234, 3) := by decide +kernel
theorem dL_law_1546 : decode cL_law 1546 = .ok (.aload_n 2, 1) := by decide +kernel
theorem dL_law_1547 : decode cL_law 1547 = .ok (.invokevirtual 237, 3) := by decide +kernel
theorem dL_law_1550 : decode cL_law 1550 = .ok (.if_icmp .eq 320, 3) := by decide +kernel
theorem dL_law_1553 : decode cL_law 1553 = .ok (.iconst 0, 1) := by decide +kernel
theorem dL_law_1554 : decode cL_law 1554 = .ok (.ireturn, 1) := by decide +kernel
theorem dL_law_1555 : decode cL_law 1555 = .ok (.aload_n 1, 1) := by decide +kernel
theorem dL_law_1556 : decode cL_law 1556 = .ok (.aload_n 0, 1) := by decide +kernel
theorem dL_law_1557 : decode cL_law 1557 = .ok (.iload 5, 2) := by decide +kernel
theorem dL_law_1559 : decode cL_law 1559 = .ok (.iconst 1, 1) := by decide +kernel
theorem dL_law_1560 : decode cL_law 1560 = .ok (.iadd, 1) := by decide +kernel
theorem dL_law_1561 : decode cL_law 1561 = .ok (.iaload, 1) := by decide +kernel
theorem dL_law_1562 : decode cL_law 1562 = .ok (.invokestatic 238, 3) := by decide +kernel
theorem dL_law_1565 : decode cL_law 1565 = .ok (.istore 6, 2) := by decide +kernel
theorem dL_law_1567 : decode cL_law 1567 = .ok (.aload_n 2, 1) := by decide +kernel
theorem dL_law_1568 : decode cL_law 1568 = .ok (.aload_n 0, 1) := by decide +kernel
theorem dL_law_1569 : decode cL_law 1569 = .ok (.iload 5, 2) := by decide +kernel
theorem dL_law_1571 : decode cL_law 1571 = .ok (.iconst 1, 1) := by decide +kernel
theorem dL_law_1572 : decode cL_law 1572 = .ok (.iadd, 1) := by decide +kernel
theorem dL_law_1573 : decode cL_law 1573 = .ok (.iaload, 1) := by decide +kernel
theorem dL_law_1574 : decode cL_law 1574 = .ok (.invokevirtual 240, 3) := by decide +kernel
theorem dL_law_1577 : decode cL_law 1577 = .ok (.aload_n 2, 1) := by decide +kernel
theorem dL_law_1578 : decode cL_law 1578 = .ok (.invokevirtual 134, 3) := by decide +kernel
theorem dL_law_1581 : decode cL_law 1581 = .ok (.iload 6, 2) := by decide +kernel
theorem dL_law_1583 : decode cL_law 1583 = .ok (.if_icmp .eq 5, 3) := by decide +kernel
theorem dL_law_1586 : decode cL_law 1586 = .ok (.iconst 0, 1) := by decide +kernel
theorem dL_law_1587 : decode cL_law 1587 = .ok (.ireturn, 1) := by decide +kernel
theorem dL_law_1588 : decode cL_law 1588 = .ok (.goto 282, 3) := by decide +kernel
theorem dL_law_1591 : decode cL_law 1591 = .ok (.aload_n 1, 1) := by decide +kernel
theorem dL_law_1592 : decode cL_law 1592 = .ok (.aload_n 0, 1) := by decide +kernel
theorem dL_law_1593 : decode cL_law 1593 = .ok (.iload 5, 2) := by decide +kernel
theorem dL_law_1595 : decode cL_law 1595 = .ok (.iconst 1, 1) := by decide +kernel
theorem dL_law_1596 : decode cL_law 1596 = .ok (.iadd, 1) := by decide +kernel
theorem dL_law_1597 : decode cL_law 1597 = .ok (.iaload, 1) := by decide +kernel
theorem dL_law_1598 : decode cL_law 1598 = .ok (.aload_n 0, 1) := by decide +kernel
theorem dL_law_1599 : decode cL_law 1599 = .ok (.iload 5, 2) := by decide +kernel
theorem dL_law_1601 : decode cL_law 1601 = .ok (.iconst 2, 1) := by decide +kernel
theorem dL_law_1602 : decode cL_law 1602 = .ok (.iadd, 1) := by decide +kernel
theorem dL_law_1603 : decode cL_law 1603 = .ok (.iaload, 1) := by decide +kernel
theorem dL_law_1604 : decode cL_law 1604 = .ok (.aload_n 0, 1) := by decide +kernel
theorem dL_law_1605 : decode cL_law 1605 = .ok (.iload 5, 2) := by decide +kernel
theorem dL_law_1607 : decode cL_law 1607 = .ok (.iconst 3, 1) := by decide +kernel
theorem dL_law_1608 : decode cL_law 1608 = .ok (.iadd, 1) := by decide +kernel
theorem dL_law_1609 : decode cL_law 1609 = .ok (.iaload, 1) := by decide +kernel
theorem dL_law_1610 : decode cL_law 1610 = .ok (.invokestatic 241, 3) := by decide +kernel
theorem dL_law_1613 : decode cL_law 1613 = .ok (.istore 6, 2) := by decide +kernel
theorem dL_law_1615 : decode cL_law 1615 = .ok (.aload_n 2, 1) := by decide +kernel
theorem dL_law_1616 : decode cL_law 1616 = .ok (.aload_n 0, 1) := by decide +kernel
theorem dL_law_1617 : decode cL_law 1617 = .ok (.iload 5, 2) := by decide +kernel
theorem dL_law_1619 : decode cL_law 1619 = .ok (.iconst 1, 1) := by decide +kernel
theorem dL_law_1620 : decode cL_law 1620 = .ok (.iadd, 1) := by decide +kernel
theorem dL_law_1621 : decode cL_law 1621 = .ok (.iaload, 1) := by decide +kernel
theorem dL_law_1622 : decode cL_law 1622 = .ok (.aload_n 0, 1) := by decide +kernel
theorem dL_law_1623 : decode cL_law 1623 = .ok (.iload 5, 2) := by decide +kernel
theorem dL_law_1625 : decode cL_law 1625 = .ok (.iconst 2, 1) := by decide +kernel
theorem dL_law_1626 : decode cL_law 1626 = .ok (.iadd, 1) := by decide +kernel
theorem dL_law_1627 : decode cL_law 1627 = .ok (.iaload, 1) := by decide +kernel
theorem dL_law_1628 : decode cL_law 1628 = .ok (.aload_n 0, 1) := by decide +kernel
theorem dL_law_1629 : decode cL_law 1629 = .ok (.iload 5, 2) := by decide +kernel
theorem dL_law_1631 : decode cL_law 1631 = .ok (.iconst 3, 1) := by decide +kernel
theorem dL_law_1632 : decode cL_law 1632 = .ok (.iadd, 1) := by decide +kernel
theorem dL_law_1633 : decode cL_law 1633 = .ok (.iaload, 1) := by decide +kernel
theorem dL_law_1634 : decode cL_law 1634 = .ok (.invokevirtual 244, 3) := by decide +kernel
theorem dL_law_1637 : decode cL_law 1637 = .ok (.aload_n 2, 1) := by decide +kernel
theorem dL_law_1638 : decode cL_law 1638 = .ok (.invokevirtual 134, 3) := by decide +kernel
theorem dL_law_1641 : decode cL_law 1641 = .ok (.iload 6, 2) := by decide +kernel
theorem dL_law_1643 : decode cL_law 1643 = .ok (.if_icmp .eq 5, 3) := by decide +kernel
theorem dL_law_1646 : decode cL_law 1646 = .ok (.iconst 0, 1) := by decide +kernel
theorem dL_law_1647 : decode cL_law 1647 = .ok (.ireturn, 1) := by decide +kernel
theorem dL_law_1648 : decode cL_law 1648 = .ok (.goto 222, 3) := by decide +kernel
theorem dL_law_1651 : decode cL_law 1651 = .ok (.aload_n 1, 1) := by decide +kernel
theorem dL_law_1652 : decode cL_law 1652 = .ok (.aload_n 0, 1) := by decide +kernel
theorem dL_law_1653 : decode cL_law 1653 = .ok (.iload 5, 2) := by decide +kernel
theorem dL_law_1655 : decode cL_law 1655 = .ok (.iconst 1, 1) := by decide +kernel
theorem dL_law_1656 : decode cL_law 1656 = .ok (.iadd, 1) := by decide +kernel
theorem dL_law_1657 : decode cL_law 1657 = .ok (.iaload, 1) := by decide +kernel
theorem dL_law_1658 : decode cL_law 1658 = .ok (.aload_n 0, 1) := by decide +kernel
theorem dL_law_1659 : decode cL_law 1659 = .ok (.iload 5, 2) := by decide +kernel
theorem dL_law_1661 : decode cL_law 1661 = .ok (.iconst 2, 1) := by decide +kernel
theorem dL_law_1662 : decode cL_law 1662 = .ok (.iadd, 1) := by decide +kernel
theorem dL_law_1663 : decode cL_law 1663 = .ok (.iaload, 1) := by decide +kernel
theorem dL_law_1664 : decode cL_law 1664 = .ok (.aload_n 0, 1) := by decide +kernel
theorem dL_law_1665 : decode cL_law 1665 = .ok (.iload 5, 2) := by decide +kernel
theorem dL_law_1667 : decode cL_law 1667 = .ok (.iconst 3, 1) := by decide +kernel
theorem dL_law_1668 : decode cL_law 1668 = .ok (.iadd, 1) := by decide +kernel
theorem dL_law_1669 : decode cL_law 1669 = .ok (.iaload, 1) := by decide +kernel
theorem dL_law_1670 : decode cL_law 1670 = .ok (.invokestatic 245, 3) := by decide +kernel
theorem dL_law_1673 : decode cL_law 1673 = .ok (.istore 6, 2) := by decide +kernel
theorem dL_law_1675 : decode cL_law 1675 = .ok (.aload_n 2, 1) := by decide +kernel
theorem dL_law_1676 : decode cL_law 1676 = .ok (.aload_n 0, 1) := by decide +kernel
theorem dL_law_1677 : decode cL_law 1677 = .ok (.iload 5, 2) := by decide +kernel
theorem dL_law_1679 : decode cL_law 1679 = .ok (.iconst 1, 1) := by decide +kernel
theorem dL_law_1680 : decode cL_law 1680 = .ok (.iadd, 1) := by decide +kernel
theorem dL_law_1681 : decode cL_law 1681 = .ok (.iaload, 1) := by decide +kernel
theorem dL_law_1682 : decode cL_law 1682 = .ok (.aload_n 0, 1) := by decide +kernel
theorem dL_law_1683 : decode cL_law 1683 = .ok (.iload 5, 2) := by decide +kernel
theorem dL_law_1685 : decode cL_law 1685 = .ok (.iconst 2, 1) := by decide +kernel
theorem dL_law_1686 : decode cL_law 1686 = .ok (.iadd, 1) := by decide +kernel
theorem dL_law_1687 : decode cL_law 1687 = .ok (.iaload, 1) := by decide +kernel
theorem dL_law_1688 : decode cL_law 1688 = .ok (.aload_n 0, 1) := by decide +kernel
theorem dL_law_1689 : decode cL_law 1689 = .ok (.iload 5, 2) := by decide +kernel
theorem dL_law_1691 : decode cL_law 1691 = .ok (.iconst 3, 1) := by decide +kernel
theorem dL_law_1692 : decode cL_law 1692 = .ok (.iadd, 1) := by decide +kernel
theorem dL_law_1693 : decode cL_law 1693 = .ok (.iaload, 1) := by decide +kernel
theorem dL_law_1694 : decode cL_law 1694 = .ok (.invokevirtual 247, 3) := by decide +kernel
theorem dL_law_1697 : decode cL_law 1697 = .ok (.aload_n 2, 1) := by decide +kernel
theorem dL_law_1698 : decode cL_law 1698 = .ok (.invokevirtual 134, 3) := by decide +kernel
theorem dL_law_1701 : decode cL_law 1701 = .ok (.iload 6, 2) := by decide +kernel
theorem dL_law_1703 : decode cL_law 1703 = .ok (.if_icmp .eq 5, 3) := by decide +kernel
theorem dL_law_1706 : decode cL_law 1706 = .ok (.iconst 0, 1) := by decide +kernel
theorem dL_law_1707 : decode cL_law 1707 = .ok (.ireturn, 1) := by decide +kernel
theorem dL_law_1708 : decode cL_law 1708 = .ok (.goto 162, 3) := by decide +kernel
theorem dL_law_1711 : decode cL_law 1711 = .ok (.aload_n 1, 1) := by decide +kernel
theorem dL_law_1712 : decode cL_law 1712 = .ok (.aload_n 0, 1) := by decide +kernel
theorem dL_law_1713 : decode cL_law 1713 = .ok (.iload 5, 2) := by decide +kernel
theorem dL_law_1715 : decode cL_law 1715 = .ok (.iconst 1, 1) := by decide +kernel
theorem dL_law_1716 : decode cL_law 1716 = .ok (.iadd, 1) := by decide +kernel
theorem dL_law_1717 : decode cL_law 1717 = .ok (.iaload, 1) := by decide +kernel
theorem dL_law_1718 : decode cL_law 1718 = .ok (.aload_n 0, 1) := by decide +kernel
theorem dL_law_1719 : decode cL_law 1719 = .ok (.iload 5, 2) := by decide +kernel
theorem dL_law_1721 : decode cL_law 1721 = .ok (.iconst 2, 1) := by decide +kernel
theorem dL_law_1722 : decode cL_law 1722 = .ok (.iadd, 1) := by decide +kernel
theorem dL_law_1723 : decode cL_law 1723 = .ok (.iaload, 1) := by decide +kernel
theorem dL_law_1724 : decode cL_law 1724 = .ok (.aload_n 3, 1) := by decide +kernel
theorem dL_law_1725 : decode cL_law 1725 = .ok (.invokestatic 248, 3) := by decide +kernel
theorem dL_law_1728 : decode cL_law 1728 = .ok (.istore 6, 2) := by decide +kernel
theorem dL_law_1730 : decode cL_law 1730 = .ok (.aload_n 2, 1) := by decide +kernel
theorem dL_law_1731 : decode cL_law 1731 = .ok (.aload_n 0, 1) := by decide +kernel
theorem dL_law_1732 : decode cL_law 1732 = .ok (.iload 5, 2) := by decide +kernel
theorem dL_law_1734 : decode cL_law 1734 = .ok (.iconst 1, 1) := by decide +kernel
theorem dL_law_1735 : decode cL_law 1735 = .ok (.iadd, 1) := by decide +kernel
theorem dL_law_1736 : decode cL_law 1736 = .ok (.iaload, 1) := by decide +kernel
theorem dL_law_1737 : decode cL_law 1737 = .ok (.aload_n 0, 1) := by decide +kernel
theorem dL_law_1738 : decode cL_law 1738 = .ok (.iload 5, 2) := by decide +kernel
theorem dL_law_1740 : decode cL_law 1740 = .ok (.iconst 2, 1) := by decide +kernel
theorem dL_law_1741 : decode cL_law 1741 = .ok (.iadd, 1) := by decide +kernel
theorem dL_law_1742 : decode cL_law 1742 = .ok (.iaload, 1) := by decide +kernel
theorem dL_law_1743 : decode cL_law 1743 = .ok (.invokevirtual 250, 3) := by decide +kernel
theorem dL_law_1746 : decode cL_law 1746 = .ok (.istore 7, 2) := by decide +kernel
theorem dL_law_1748 : decode cL_law 1748 = .ok (.aload_n 2, 1) := by decide +kernel
theorem dL_law_1749 : decode cL_law 1749 = .ok (.invokevirtual 134, 3) := by decide +kernel
theorem dL_law_1752 : decode cL_law 1752 = .ok (.iload 6, 2) := by decide +kernel
theorem dL_law_1754 : decode cL_law 1754 = .ok (.if_icmp .eq 5, 3) := by decide +kernel
theorem dL_law_1757 : decode cL_law 1757 = .ok (.iconst 0, 1) := by decide +kernel
theorem dL_law_1758 : decode cL_law 1758 = .ok (.ireturn, 1) := by decide +kernel
theorem dL_law_1759 : decode cL_law 1759 = .ok (.iload 6, 2) := by decide +kernel
theorem dL_law_1761 : decode cL_law 1761 = .ok (.ifCond .ne 15, 3) := by decide +kernel
theorem dL_law_1764 : decode cL_law 1764 = .ok (.aload_n 3, 1) := by decide +kernel
theorem dL_law_1765 : decode cL_law 1765 = .ok (.iconst 0, 1) := by decide +kernel
theorem dL_law_1766 : decode cL_law 1766 = .ok (.laload, 1) := by decide +kernel
theorem dL_law_1767 : decode cL_law 1767 = .ok (.iload 7, 2) := by decide +kernel
theorem dL_law_1769 : decode cL_law 1769 = .ok (.i2l, 1) := by decide +kernel
theorem dL_law_1770 : decode cL_law 1770 = .ok (.lcmp, 1) := by decide +kernel
theorem dL_law_1771 : decode cL_law 1771 = .ok (.ifCond .eq 5, 3) := by decide +kernel
theorem dL_law_1774 : decode cL_law 1774 = .ok (.iconst 0, 1) := by decide +kernel
theorem dL_law_1775 : decode cL_law 1775 = .ok (.ireturn, 1) := by decide +kernel
theorem dL_law_1776 : decode cL_law 1776 = .ok (.goto 94, 3) := by decide +kernel
theorem dL_law_1779 : decode cL_law 1779 = .ok (.aload_n 1, 1) := by decide +kernel
theorem dL_law_1780 : decode cL_law 1780 = .ok (.aload_n 0, 1) := by decide +kernel
theorem dL_law_1781 : decode cL_law 1781 = .ok (.iload 5, 2) := by decide +kernel
theorem dL_law_1783 : decode cL_law 1783 = .ok (.iconst 1, 1) := by decide +kernel
theorem dL_law_1784 : decode cL_law 1784 = .ok (.iadd, 1) := by decide +kernel
theorem dL_law_1785 : decode cL_law 1785 = .ok (.iaload, 1) := by decide +kernel
theorem dL_law_1786 : decode cL_law 1786 = .ok (.aload_n 3, 1) := by decide +kernel
theorem dL_law_1787 : decode cL_law 1787 = .ok (.invokestatic 251, 3) := by decide +kernel
theorem dL_law_1790 : decode cL_law 1790 = .ok (.istore 6, 2) := by decide +kernel
theorem dL_law_1792 : decode cL_law 1792 = .ok (.aload_n 2, 1) := by decide +kernel
theorem dL_law_1793 : decode cL_law 1793 = .ok (.aload_n 0, 1) := by decide +kernel
theorem dL_law_1794 : decode cL_law 1794 = .ok (.iload 5, 2) := by decide +kernel
theorem dL_law_1796 : decode cL_law 1796 = .ok (.iconst 1, 1) := by decide +kernel
theorem dL_law_1797 : decode cL_law 1797 = .ok (.iadd, 1) := by decide +kernel
theorem dL_law_1798 : decode cL_law 1798 = .ok (.iaload, 1) := by decide +kernel
theorem dL_law_1799 : decode cL_law 1799 = .ok (.invokevirtual 253, 3) := by decide +kernel
theorem dL_law_1802 : decode cL_law 1802 = .ok (.istore 7, 2) := by decide +kernel
theorem dL_law_1804 : decode cL_law 1804 = .ok (.aload_n 2, 1) := by decide +kernel
theorem dL_law_1805 : decode cL_law 1805 = .ok (.invokevirtual 134, 3) := by decide +kernel
theorem dL_law_1808 : decode cL_law 1808 = .ok (.iload 6, 2) := by decide +kernel
theorem dL_law_1810 : decode cL_law 1810 = .ok (.if_icmp .eq 5, 3) := by decide +kernel
theorem dL_law_1813 : decode cL_law 1813 = .ok (.iconst 0, 1) := by decide +kernel
theorem dL_law_1814 : decode cL_law 1814 = .ok (.ireturn, 1) := by decide +kernel
theorem dL_law_1815 : decode cL_law 1815 = .ok (.iload 6, 2) := by decide +kernel
theorem dL_law_1817 : decode cL_law 1817 = .ok (.ifCond .ne 15, 3) := by decide +kernel
theorem dL_law_1820 : decode cL_law 1820 = .ok (.aload_n 3, 1) := by decide +kernel
theorem dL_law_1821 : decode cL_law 1821 = .ok (.iconst 0, 1) := by decide +kernel
theorem dL_law_1822 : decode cL_law 1822 = .ok (.laload, 1) := by decide +kernel
theorem dL_law_1823 : decode cL_law 1823 = .ok (.iload 7, 2) := by decide +kernel
theorem dL_law_1825 : decode cL_law 1825 = .ok (.i2l, 1) := by decide +kernel
theorem dL_law_1826 : decode cL_law 1826 = .ok (.lcmp, 1) := by decide +kernel
theorem dL_law_1827 : decode cL_law 1827 = .ok (.ifCond .eq 5, 3) := by decide +kernel
theorem dL_law_1830 : decode cL_law 1830 = .ok (.iconst 0, 1) := by decide +kernel
theorem dL_law_1831 : decode cL_law 1831 = .ok (.ireturn, 1) := by decide +kernel
theorem dL_law_1832 : decode cL_law 1832 = .ok (.goto 38, 3) := by decide +kernel
theorem dL_law_1835 : decode cL_law 1835 = .ok (.aload_n 1, 1) := by decide +kernel
theorem dL_law_1836 : decode cL_law 1836 = .ok (.invokevirtual 254, 3) := by decide +kernel
theorem dL_law_1839 : decode cL_law 1839 = .ok (.aload_n 2, 1) := by decide +kernel
theorem dL_law_1840 : decode cL_law 1840 = .ok (.invokevirtual 257, 3) := by decide +kernel
theorem dL_law_1843 : decode cL_law 1843 = .ok (.goto 27, 3) := by decide +kernel
theorem dL_law_1846 : decode cL_law 1846 = .ok (.aload_n 1, 1) := by decide +kernel
theorem dL_law_1847 : decode cL_law 1847 = .ok (.invokestatic 258, 3) := by decide +kernel
theorem dL_law_1850 : decode cL_law 1850 = .ok (.istore 6, 2) := by decide +kernel
theorem dL_law_1852 : decode cL_law 1852 = .ok (.aload_n 2, 1) := by decide +kernel
theorem dL_law_1853 : decode cL_law 1853 = .ok (.invokevirtual 261, 3) := by decide +kernel
theorem dL_law_1856 : decode cL_law 1856 = .ok (.aload_n 2, 1) := by decide +kernel
theorem dL_law_1857 : decode cL_law 1857 = .ok (.invokevirtual 134, 3) := by decide +kernel
theorem dL_law_1860 : decode cL_law 1860 = .ok (.iload 6, 2) := by decide +kernel
theorem dL_law_1862 : decode cL_law 1862 = .ok (.if_icmp .eq 5, 3) := by decide +kernel
theorem dL_law_1865 : decode cL_law 1865 = .ok (.iconst 0, 1) := by decide +kernel
theorem dL_law_1866 : decode cL_law 1866 = .ok (.ireturn, 1) := by decide +kernel
theorem dL_law_1867 : decode cL_law 1867 = .ok (.goto 3, 3) := by decide +kernel
theorem dL_law_1870 : decode cL_law 1870 = .ok (.iinc 5 4, 3) := by decide +kernel
theorem dL_law_1873 : decode cL_law 1873 = .ok (.goto (-1845), 3) := by decide +kernel
theorem dL_law_1876 : decode cL_law 1876 = .ok (.iconst 1, 1) := by decide +kernel
theorem dL_law_1877 : decode cL_law 1877 = .ok (.ireturn, 1) := by decide +kernel
