theorem dX0_init_0 : decode cX0_init 0 = .ok (.aload_n 0, 1) := by decide +kernel
theorem dX0_init_1 : decode cX0_init 1 = .ok (.invokespecial 1, 3) := by decide +kernel
theorem dX0_init_4 : decode cX0_init 4 = .ok (.aload_n 0, 1) := by decide +kernel
theorem dX0_init_5 : decode cX0_init 5 = .ok (.iload_n 1, 1) := by decide +kernel
theorem dX0_init_6 : decode cX0_init 6 = .ok (.putfield 7, 3) := by decide +kernel
theorem dX0_init_9 : decode cX0_init 9 = .ok (.aload_n 0, 1) := by decide +kernel
theorem dX0_init_10 : decode cX0_init 10 = .ok (.iload_n 1, 1) := by decide +kernel
theorem dX0_init_11 : decode cX0_init 11 = .ok (.invokestatic 13, 3) := by decide +kernel
theorem dX0_init_14 : decode cX0_init 14 = .ok (.putfield 19, 3) := by decide +kernel
theorem dX0_init_17 : decode cX0_init 17 = .ok (.aload_n 0, 1) := by decide +kernel
theorem dX0_init_18 : decode cX0_init 18 = .ok (.iload_n 2, 1) := by decide +kernel
theorem dX0_init_19 : decode cX0_init 19 = .ok (.putfield 22, 3) := by decide +kernel
theorem dX0_init_22 : decode cX0_init 22 = .ok (.aload_n 0, 1) := by decide +kernel
theorem dX0_init_23 : decode cX0_init 23 = .ok (.iload_n 2, 1) := by decide +kernel
theorem dX0_init_24 : decode cX0_init 24 = .ok (.invokestatic 13, 3) := by decide +kernel
theorem dX0_init_27 : decode cX0_init 27 = .ok (.putfield 25, 3) := by decide +kernel
theorem dX0_init_30 : decode cX0_init 30 = .ok (.aload_n 0, 1) := by decide +kernel
theorem dX0_init_31 : decode cX0_init 31 = .ok (.aload_n 3, 1) := by decide +kernel
theorem dX0_init_32 : decode cX0_init 32 = .ok (.putfield 28, 3) := by decide +kernel
theorem dX0_init_35 : decode cX0_init 35 = .ok (.return_, 1) := by decide +kernel
theorem dX0_growth_0 : decode cX0_growth 0 = .ok (.aload_n 0, 1) := by decide +kernel
theorem dX0_growth_1 : decode cX0_growth 1 = .ok (.getfield 19, 3) := by decide +kernel
theorem dX0_growth_4 : decode cX0_growth 4 = .ok (.aload_n 0, 1) := by decide +kernel
theorem dX0_growth_5 : decode cX0_growth 5 = .ok (.getfield 25, 3) := by decide +kernel
theorem dX0_growth_8 : decode cX0_growth 8 = .ok (.iadd, 1) := by decide +kernel
theorem dX0_growth_9 : decode cX0_growth 9 = .ok (.ireturn, 1) := by decide +kernel
theorem dX0_selects_0 : decode cX0_selects 0 = .ok (.aload_n 0, 1) := by decide +kernel
theorem dX0_selects_1 : decode cX0_selects 1 = .ok (.getfield 28, 3) := by decide +kernel
theorem dX0_selects_4 : decode cX0_selects 4 = .ok (.iload_n 2, 1) := by decide +kernel
theorem dX0_selects_5 : decode cX0_selects 5 = .ok (.iload_n 3, 1) := by decide +kernel
theorem dX0_selects_6 : decode cX0_selects 6 = .ok (.iload 4, 2) := by decide +kernel
theorem dX0_selects_8 : decode cX0_selects 8 = .ok (.iload 5, 2) := by decide +kernel
theorem dX0_selects_10 : decode cX0_selects 10 = .ok (.invokestatic 32, 3) := by decide +kernel
theorem dX0_selects_13 : decode cX0_selects 13 = .ok (.invokevirtual 36, 3) := by decide +kernel
theorem dX0_selects_16 : decode cX0_selects 16 = .ok (.ifCond .ne 5, 3) := by decide +kernel
theorem dX0_selects_19 : decode cX0_selects 19 = .ok (.iconst 0, 1) := by decide +kernel
theorem dX0_selects_20 : decode cX0_selects 20 = .ok (.ireturn, 1) := by decide +kernel
theorem dX0_selects_21 : decode cX0_selects 21 = .ok (.iload_n 1, 1) := by decide +kernel
theorem dX0_selects_22 : decode cX0_selects 22 = .ok (.ifCond .ne 20, 3) := by decide +kernel
theorem dX0_selects_25 : decode cX0_selects 25 = .ok (.iload 4, 2) := by decide +kernel
theorem dX0_selects_27 : decode cX0_selects 27 = .ok (.ifCond .ne 13, 3) := by decide +kernel
theorem dX0_selects_30 : decode cX0_selects 30 = .ok (.iload 5, 2) := by decide +kernel
theorem dX0_selects_32 : decode cX0_selects 32 = .ok (.iload_n 3, 1) := by decide +kernel
theorem dX0_selects_33 : decode cX0_selects 33 = .ok (.if_icmp .ne 7, 3) := by decide +kernel
theorem dX0_selects_36 : decode cX0_selects 36 = .ok (.iconst 1, 1) := by decide +kernel
theorem dX0_selects_37 : decode cX0_selects 37 = .ok (.goto 4, 3) := by decide +kernel
theorem dX0_selects_40 : decode cX0_selects 40 = .ok (.iconst 0, 1) := by decide +kernel
theorem dX0_selects_41 : decode cX0_selects 41 = .ok (.ireturn, 1) := by decide +kernel
theorem dX0_selects_42 : decode cX0_selects 42 = .ok (.iload_n 1, 1) := by decide +kernel
theorem dX0_selects_43 : decode cX0_selects 43 = .ok (.iconst 1, 1) := by decide +kernel
theorem dX0_selects_44 : decode cX0_selects 44 = .ok (.if_icmp .ne 5, 3) := by decide +kernel
theorem dX0_selects_47 : decode cX0_selects 47 = .ok (.iconst 1, 1) := by decide +kernel
theorem dX0_selects_48 : decode cX0_selects 48 = .ok (.ireturn, 1) := by decide +kernel
theorem dX0_selects_49 : decode cX0_selects 49 = .ok (.iload_n 1, 1) := by decide +kernel
theorem dX0_selects_50 : decode cX0_selects 50 = .ok (.iconst 3, 1) := by decide +kernel
theorem dX0_selects_51 : decode cX0_selects 51 = .ok (.if_icmp .ne 8, 3) := by decide +kernel
theorem dX0_selects_54 : decode cX0_selects 54 = .ok (.iload 5, 2) := by decide +kernel
theorem dX0_selects_56 : decode cX0_selects 56 = .ok (.goto 17, 3) := by decide +kernel
theorem dX0_selects_59 : decode cX0_selects 59 = .ok (.iload_n 1, 1) := by decide +kernel
theorem dX0_selects_60 : decode cX0_selects 60 = .ok (.iconst 2, 1) := by decide +kernel
theorem dX0_selects_61 : decode cX0_selects 61 = .ok (.if_icmp .ne 8, 3) := by decide +kernel
theorem dX0_selects_64 : decode cX0_selects 64 = .ok (.iload 4, 2) := by decide +kernel
theorem dX0_selects_66 : decode cX0_selects 66 = .ok (.goto 7, 3) := by decide +kernel
theorem dX0_selects_69 : decode cX0_selects 69 = .ok (.iload 4, 2) := by decide +kernel
theorem dX0_selects_71 : decode cX0_selects 71 = .ok (.iconst 1, 1) := by decide +kernel
theorem dX0_selects_72 : decode cX0_selects 72 = .ok (.isub, 1) := by decide +kernel
theorem dX0_selects_73 : decode cX0_selects 73 = .ok (.istore 6, 2) := by decide +kernel
theorem dX0_selects_75 : decode cX0_selects 75 = .ok (.iload_n 1, 1) := by decide +kernel
theorem dX0_selects_76 : decode cX0_selects 76 = .ok (.iconst 3, 1) := by decide +kernel
theorem dX0_selects_77 : decode cX0_selects 77 = .ok (.if_icmp .ne 8, 3) := by decide +kernel
theorem dX0_selects_80 : decode cX0_selects 80 = .ok (.iload 5, 2) := by decide +kernel
theorem dX0_selects_82 : decode cX0_selects 82 = .ok (.goto 4, 3) := by decide +kernel
theorem dX0_selects_85 : decode cX0_selects 85 = .ok (.iload_n 3, 1) := by decide +kernel
theorem dX0_selects_86 : decode cX0_selects 86 = .ok (.istore 7, 2) := by decide +kernel
theorem dX0_selects_88 : decode cX0_selects 88 = .ok (.iload_n 1, 1) := by decide +kernel
theorem dX0_selects_89 : decode cX0_selects 89 = .ok (.iconst 3, 1) := by decide +kernel
theorem dX0_selects_90 : decode cX0_selects 90 = .ok (.if_icmp .ne 8, 3) := by decide +kernel
theorem dX0_selects_93 : decode cX0_selects 93 = .ok (.iload 4, 2) := by decide +kernel
theorem dX0_selects_95 : decode cX0_selects 95 = .ok (.goto 4, 3) := by decide +kernel
theorem dX0_selects_98 : decode cX0_selects 98 = .ok (.iconst 0, 1) := by decide +kernel
theorem dX0_selects_99 : decode cX0_selects 99 = .ok (.istore 8, 2) := by decide +kernel
theorem dX0_selects_101 : decode cX0_selects 101 = .ok (.iload 8, 2) := by decide +kernel
theorem dX0_selects_103 : decode cX0_selects 103 = .ok (.iload 6, 2) := by decide +kernel
theorem dX0_selects_105 : decode cX0_selects 105 = .ok (.if_icmp .gt 71, 3) := by decide +kernel
theorem dX0_selects_108 : decode cX0_selects 108 = .ok (.iload_n 1, 1) := by decide +kernel
theorem dX0_selects_109 : decode cX0_selects 109 = .ok (.iconst 2, 1) := by decide +kernel
theorem dX0_selects_110 : decode cX0_selects 110 = .ok (.if_icmp .ne 8, 3) := by decide +kernel
theorem dX0_selects_113 : decode cX0_selects 113 = .ok (.iload 5, 2) := by decide +kernel
theorem dX0_selects_115 : decode cX0_selects 115 = .ok (.goto 5, 3) := by decide +kernel
theorem dX0_selects_118 : decode cX0_selects 118 = .ok (.iload 8, 2) := by decide +kernel
theorem dX0_selects_120 : decode cX0_selects 120 = .ok (.istore 9, 2) := by decide +kernel
theorem dX0_selects_122 : decode cX0_selects 122 = .ok (.iload 9, 2) := by decide +kernel
theorem dX0_selects_124 : decode cX0_selects 124 = .ok (.iload 7, 2) := by decide +kernel
theorem dX0_selects_126 : decode cX0_selects 126 = .ok (.if_icmp .gt 44, 3) := by decide +kernel
theorem dX0_selects_129 : decode cX0_selects 129 = .ok (.iload 8, 2) := by decide +kernel
theorem dX0_selects_131 : decode cX0_selects 131 = .ok (.iload 4, 2) := by decide +kernel
theorem dX0_selects_133 : decode cX0_selects 133 = .ok (.if_icmp .ne 10, 3) := by decide +kernel
theorem dX0_selects_136 : decode cX0_selects 136 = .ok (.iload 9, 2) := by decide +kernel
theorem dX0_selects_138 : decode cX0_selects 138 = .ok (.iload 5, 2) := by decide +kernel
theorem dX0_selects_140 : decode cX0_selects 140 = .ok (.if_icmp .eq 24, 3) := by decide +kernel
theorem dX0_selects_143 : decode cX0_selects 143 = .ok (.aload_n 0, 1) := by decide +kernel
theorem dX0_selects_144 : decode cX0_selects 144 = .ok (.getfield 28, 3) := by decide +kernel
theorem dX0_selects_147 : decode cX0_selects 147 = .ok (.iload_n 2, 1) := by decide +kernel
theorem dX0_selects_148 : decode cX0_selects 148 = .ok (.iload_n 3, 1) := by decide +kernel
theorem dX0_selects_149 : decode cX0_selects 149 = .ok (.iload 8, 2) := by decide +kernel
theorem dX0_selects_151 : decode cX0_selects 151 = .ok (.iload 9, 2) := by decide +kernel
theorem dX0_selects_153 : decode cX0_selects 153 = .ok (.invokestatic 32, 3) := by decide +kernel
theorem dX0_selects_156 : decode cX0_selects 156 = .ok (.invokevirtual 36, 3) := by decide +kernel
theorem dX0_selects_159 : decode cX0_selects 159 = .ok (.ifCond .eq 5, 3) := by decide +kernel
theorem dX0_selects_162 : decode cX0_selects 162 = .ok (.iconst 0, 1) := by decide +kernel
theorem dX0_selects_163 : decode cX0_selects 163 = .ok (.ireturn, 1) := by decide +kernel
theorem dX0_selects_164 : decode cX0_selects 164 = .ok (.iinc 9 1, 3) := by decide +kernel
theorem dX0_selects_167 : decode cX0_selects 167 = .ok (.goto (-45), 3) := by decide +kernel
theorem dX0_selects_170 : decode cX0_selects 170 = .ok (.iinc 8 1, 3) := by decide +kernel
theorem dX0_selects_173 : decode cX0_selects 173 = .ok (.goto (-72), 3) := by decide +kernel
theorem dX0_selects_176 : decode cX0_selects 176 = .ok (.iconst 1, 1) := by decide +kernel
theorem dX0_selects_177 : decode cX0_selects 177 = .ok (.ireturn, 1) := by decide +kernel
theorem dX0_putAround_0 : decode cX0_putAround 0 = .ok (.iload_n 1, 1) := by decide +kernel
theorem dX0_putAround_1 : decode cX0_putAround 1 = .ok (.iload_n 2, 1) := by decide +kernel
theorem dX0_putAround_2 : decode cX0_putAround 2 = .ok (.iconst 0, 1) := by decide +kernel
theorem dX0_putAround_3 : decode cX0_putAround 3 = .ok (.iload_n 3, 1) := by decide +kernel
theorem dX0_putAround_4 : decode cX0_putAround 4 = .ok (.invokestatic 32, 3) := by decide +kernel
theorem dX0_putAround_7 : decode cX0_putAround 7 = .ok (.aload_n 0, 1) := by decide +kernel
theorem dX0_putAround_8 : decode cX0_putAround 8 = .ok (.getfield 7, 3) := by decide +kernel
theorem dX0_putAround_11 : decode cX0_putAround 11 = .ok (.aload_n 0, 1) := by decide +kernel
theorem dX0_putAround_12 : decode cX0_putAround 12 = .ok (.getfield 19, 3) := by decide +kernel
theorem dX0_putAround_15 : decode cX0_putAround 15 = .ok (.invokestatic 44, 3) := by decide +kernel
theorem dX0_putAround_18 : decode cX0_putAround 18 = .ok (.istore 5, 2) := by decide +kernel
theorem dX0_putAround_20 : decode cX0_putAround 20 = .ok (.iload 5, 2) := by decide +kernel
theorem dX0_putAround_22 : decode cX0_putAround 22 = .ok (.iload_n 1, 1) := by decide +kernel
theorem dX0_putAround_23 : decode cX0_putAround 23 = .ok (.iload_n 2, 1) := by decide +kernel
theorem dX0_putAround_24 : decode cX0_putAround 24 = .ok (.iload_n 3, 1) := by decide +kernel
theorem dX0_putAround_25 : decode cX0_putAround 25 = .ok (.iload 4, 2) := by decide +kernel
theorem dX0_putAround_27 : decode cX0_putAround 27 = .ok (.invokestatic 32, 3) := by decide +kernel
theorem dX0_putAround_30 : decode cX0_putAround 30 = .ok (.iload 4, 2) := by decide +kernel
theorem dX0_putAround_32 : decode cX0_putAround 32 = .ok (.iload_n 3, 1) := by decide +kernel
theorem dX0_putAround_33 : decode cX0_putAround 33 = .ok (.isub, 1) := by decide +kernel
theorem dX0_putAround_34 : decode cX0_putAround 34 = .ok (.invokestatic 44, 3) := by decide +kernel
theorem dX0_putAround_37 : decode cX0_putAround 37 = .ok (.istore 5, 2) := by decide +kernel
theorem dX0_putAround_39 : decode cX0_putAround 39 = .ok (.iload 5, 2) := by decide +kernel
theorem dX0_putAround_41 : decode cX0_putAround 41 = .ok (.aload_n 0, 1) := by decide +kernel
theorem dX0_putAround_42 : decode cX0_putAround 42 = .ok (.getfield 22, 3) := by decide +kernel
theorem dX0_putAround_45 : decode cX0_putAround 45 = .ok (.aload_n 0, 1) := by decide +kernel
theorem dX0_putAround_46 : decode cX0_putAround 46 = .ok (.getfield 25, 3) := by decide +kernel
theorem dX0_putAround_49 : decode cX0_putAround 49 = .ok (.invokestatic 44, 3) := by decide +kernel
theorem dX0_putAround_52 : decode cX0_putAround 52 = .ok (.istore 5, 2) := by decide +kernel
theorem dX0_putAround_54 : decode cX0_putAround 54 = .ok (.iload 5, 2) := by decide +kernel
theorem dX0_putAround_56 : decode cX0_putAround 56 = .ok (.iload_n 1, 1) := by decide +kernel
theorem dX0_putAround_57 : decode cX0_putAround 57 = .ok (.iload_n 2, 1) := by decide +kernel
theorem dX0_putAround_58 : decode cX0_putAround 58 = .ok (.iload 4, 2) := by decide +kernel
theorem dX0_putAround_60 : decode cX0_putAround 60 = .ok (.iload_n 2, 1) := by decide +kernel
theorem dX0_putAround_61 : decode cX0_putAround 61 = .ok (.invokestatic 32, 3) := by decide +kernel
theorem dX0_putAround_64 : decode cX0_putAround 64 = .ok (.iload_n 2, 1) := by decide +kernel
theorem dX0_putAround_65 : decode cX0_putAround 65 = .ok (.iload 4, 2) := by decide +kernel
theorem dX0_putAround_67 : decode cX0_putAround 67 = .ok (.isub, 1) := by decide +kernel
theorem dX0_putAround_68 : decode cX0_putAround 68 = .ok (.invokestatic 44, 3) := by decide +kernel
theorem dX0_putAround_71 : decode cX0_putAround 71 = .ok (.ireturn, 1) := by decide +kernel
theorem dX0_leftStandsAt_0 : decode cX0_leftStandsAt 0 = .ok (.iload_n 1, 1) := by decide +kernel
theorem dX0_leftStandsAt_1 : decode cX0_leftStandsAt 1 = .ok (.iload_n 2, 1) := by decide +kernel
theorem dX0_leftStandsAt_2 : decode cX0_leftStandsAt 2 = .ok (.iload_n 3, 1) := by decide +kernel
theorem dX0_leftStandsAt_3 : decode cX0_leftStandsAt 3 = .ok (.iload_n 3, 1) := by decide +kernel
theorem dX0_leftStandsAt_4 : decode cX0_leftStandsAt 4 = .ok (.aload_n 0, 1) := by decide +kernel
theorem dX0_leftStandsAt_5 : decode cX0_leftStandsAt 5 = .ok (.getfield 19, 3) := by decide +kernel
theorem dX0_leftStandsAt_8 : decode cX0_leftStandsAt 8 = .ok (.iadd, 1) := by decide +kernel
theorem dX0_leftStandsAt_9 : decode cX0_leftStandsAt 9 = .ok (.invokestatic 32, 3) := by decide +kernel
theorem dX0_leftStandsAt_12 : decode cX0_leftStandsAt 12 = .ok (.aload_n 0, 1) := by decide +kernel
theorem dX0_leftStandsAt_13 : decode cX0_leftStandsAt 13 = .ok (.getfield 7, 3) := by decide +kernel
theorem dX0_leftStandsAt_16 : decode cX0_leftStandsAt 16 = .ok (.if_icmp .ne 7, 3) := by decide +kernel
theorem dX0_leftStandsAt_19 : decode cX0_leftStandsAt 19 = .ok (.iconst 1, 1) := by decide +kernel
theorem dX0_leftStandsAt_20 : decode cX0_leftStandsAt 20 = .ok (.goto 4, 3) := by decide +kernel
theorem dX0_leftStandsAt_23 : decode cX0_leftStandsAt 23 = .ok (.iconst 0, 1) := by decide +kernel
theorem dX0_leftStandsAt_24 : decode cX0_leftStandsAt 24 = .ok (.ireturn, 1) := by decide +kernel
theorem dX0_takeAway_0 : decode cX0_takeAway 0 = .ok (.iload 4, 2) := by decide +kernel
theorem dX0_takeAway_2 : decode cX0_takeAway 2 = .ok (.aload_n 0, 1) := by decide +kernel
theorem dX0_takeAway_3 : decode cX0_takeAway 3 = .ok (.invokevirtual 48, 3) := by decide +kernel
theorem dX0_takeAway_6 : decode cX0_takeAway 6 = .ok (.iadd, 1) := by decide +kernel
theorem dX0_takeAway_7 : decode cX0_takeAway 7 = .ok (.istore 5, 2) := by decide +kernel
theorem dX0_takeAway_9 : decode cX0_takeAway 9 = .ok (.iload_n 1, 1) := by decide +kernel
theorem dX0_takeAway_10 : decode cX0_takeAway 10 = .ok (.iload_n 2, 1) := by decide +kernel
theorem dX0_takeAway_11 : decode cX0_takeAway 11 = .ok (.iload 5, 2) := by decide +kernel
theorem dX0_takeAway_13 : decode cX0_takeAway 13 = .ok (.aload_n 0, 1) := by decide +kernel
theorem dX0_takeAway_14 : decode cX0_takeAway 14 = .ok (.getfield 25, 3) := by decide +kernel
theorem dX0_takeAway_17 : decode cX0_takeAway 17 = .ok (.isub, 1) := by decide +kernel
theorem dX0_takeAway_18 : decode cX0_takeAway 18 = .ok (.iload 5, 2) := by decide +kernel
theorem dX0_takeAway_20 : decode cX0_takeAway 20 = .ok (.invokestatic 32, 3) := by decide +kernel
theorem dX0_takeAway_23 : decode cX0_takeAway 23 = .ok (.aload_n 0, 1) := by decide +kernel
theorem dX0_takeAway_24 : decode cX0_takeAway 24 = .ok (.getfield 22, 3) := by decide +kernel
theorem dX0_takeAway_27 : decode cX0_takeAway 27 = .ok (.if_icmp .eq 5, 3) := by decide +kernel
theorem dX0_takeAway_30 : decode cX0_takeAway 30 = .ok (.iconst (-1), 1) := by decide +kernel
theorem dX0_takeAway_31 : decode cX0_takeAway 31 = .ok (.ireturn, 1) := by decide +kernel
theorem dX0_takeAway_32 : decode cX0_takeAway 32 = .ok (.iload_n 1, 1) := by decide +kernel
theorem dX0_takeAway_33 : decode cX0_takeAway 33 = .ok (.iload_n 2, 1) := by decide +kernel
theorem dX0_takeAway_34 : decode cX0_takeAway 34 = .ok (.iconst 0, 1) := by decide +kernel
theorem dX0_takeAway_35 : decode cX0_takeAway 35 = .ok (.iload_n 3, 1) := by decide +kernel
theorem dX0_takeAway_36 : decode cX0_takeAway 36 = .ok (.invokestatic 32, 3) := by decide +kernel
theorem dX0_takeAway_39 : decode cX0_takeAway 39 = .ok (.istore 6, 2) := by decide +kernel
theorem dX0_takeAway_41 : decode cX0_takeAway 41 = .ok (.iload 6, 2) := by decide +kernel
theorem dX0_takeAway_43 : decode cX0_takeAway 43 = .ok (.iload_n 1, 1) := by decide +kernel
theorem dX0_takeAway_44 : decode cX0_takeAway 44 = .ok (.iload_n 2, 1) := by decide +kernel
theorem dX0_takeAway_45 : decode cX0_takeAway 45 = .ok (.iload_n 3, 1) := by decide +kernel
theorem dX0_takeAway_46 : decode cX0_takeAway 46 = .ok (.aload_n 0, 1) := by decide +kernel
theorem dX0_takeAway_47 : decode cX0_takeAway 47 = .ok (.getfield 19, 3) := by decide +kernel
theorem dX0_takeAway_50 : decode cX0_takeAway 50 = .ok (.iadd, 1) := by decide +kernel
theorem dX0_takeAway_51 : decode cX0_takeAway 51 = .ok (.iload 4, 2) := by decide +kernel
theorem dX0_takeAway_53 : decode cX0_takeAway 53 = .ok (.aload_n 0, 1) := by decide +kernel
theorem dX0_takeAway_54 : decode cX0_takeAway 54 = .ok (.getfield 19, 3) := by decide +kernel
theorem dX0_takeAway_57 : decode cX0_takeAway 57 = .ok (.iadd, 1) := by decide +kernel
theorem dX0_takeAway_58 : decode cX0_takeAway 58 = .ok (.invokestatic 32, 3) := by decide +kernel
theorem dX0_takeAway_61 : decode cX0_takeAway 61 = .ok (.iload 4, 2) := by decide +kernel
theorem dX0_takeAway_63 : decode cX0_takeAway 63 = .ok (.iload_n 3, 1) := by decide +kernel
theorem dX0_takeAway_64 : decode cX0_takeAway 64 = .ok (.isub, 1) := by decide +kernel
theorem dX0_takeAway_65 : decode cX0_takeAway 65 = .ok (.invokestatic 44, 3) := by decide +kernel
theorem dX0_takeAway_68 : decode cX0_takeAway 68 = .ok (.istore 7, 2) := by decide +kernel
theorem dX0_takeAway_70 : decode cX0_takeAway 70 = .ok (.iload 7, 2) := by decide +kernel
theorem dX0_takeAway_72 : decode cX0_takeAway 72 = .ok (.iload_n 1, 1) := by decide +kernel
theorem dX0_takeAway_73 : decode cX0_takeAway 73 = .ok (.iload_n 2, 1) := by decide +kernel
theorem dX0_takeAway_74 : decode cX0_takeAway 74 = .ok (.iload 5, 2) := by decide +kernel
theorem dX0_takeAway_76 : decode cX0_takeAway 76 = .ok (.iload_n 2, 1) := by decide +kernel
theorem dX0_takeAway_77 : decode cX0_takeAway 77 = .ok (.invokestatic 32, 3) := by decide +kernel
theorem dX0_takeAway_80 : decode cX0_takeAway 80 = .ok (.iload_n 2, 1) := by decide +kernel
theorem dX0_takeAway_81 : decode cX0_takeAway 81 = .ok (.iload 5, 2) := by decide +kernel
theorem dX0_takeAway_83 : decode cX0_takeAway 83 = .ok (.isub, 1) := by decide +kernel
theorem dX0_takeAway_84 : decode cX0_takeAway 84 = .ok (.invokestatic 44, 3) := by decide +kernel
theorem dX0_takeAway_87 : decode cX0_takeAway 87 = .ok (.ireturn, 1) := by decide +kernel
theorem dX1_init_0 : decode cX1_init 0 = .ok (.aload_n 0, 1) := by decide +kernel
theorem dX1_init_1 : decode cX1_init 1 = .ok (.invokespecial 1, 3) := by decide +kernel
theorem dX1_init_4 : decode cX1_init 4 = .ok (.aload_n 0, 1) := by decide +kernel
theorem dX1_init_5 : decode cX1_init 5 = .ok (.bipush 60, 2) := by decide +kernel
theorem dX1_init_7 : decode cX1_init 7 = .ok (.newarray .char, 2) := by decide +kernel
theorem dX1_init_9 : decode cX1_init 9 = .ok (.putfield 9, 3) := by decide +kernel
theorem dX1_init_12 : decode cX1_init 12 = .ok (.aload_n 0, 1) := by decide +kernel
theorem dX1_init_13 : decode cX1_init 13 = .ok (.bipush 60, 2) := by decide +kernel
theorem dX1_init_15 : decode cX1_init 15 = .ok (.newarray .int, 2) := by decide +kernel
theorem dX1_init_17 : decode cX1_init 17 = .ok (.putfield 13, 3) := by decide +kernel
theorem dX1_init_20 : decode cX1_init 20 = .ok (.return_, 1) := by decide +kernel
theorem dX1_accept_0 : decode cX1_accept 0 = .ok (.aload_n 0, 1) := by decide +kernel
theorem dX1_accept_1 : decode cX1_accept 1 = .ok (.getfield 17, 3) := by decide +kernel
theorem dX1_accept_4 : decode cX1_accept 4 = .ok (.ifCond .lt 15, 3) := by decide +kernel
theorem dX1_accept_7 : decode cX1_accept 7 = .ok (.aload_n 0, 1) := by decide +kernel
theorem dX1_accept_8 : decode cX1_accept 8 = .ok (.getfield 17, 3) := by decide +kernel
theorem dX1_accept_11 : decode cX1_accept 11 = .ok (.aload_n 0, 1) := by decide +kernel
theorem dX1_accept_12 : decode cX1_accept 12 = .ok (.getfield 9, 3) := by decide +kernel
theorem dX1_accept_15 : decode cX1_accept 15 = .ok (.arraylength, 1) := by decide +kernel
theorem dX1_accept_16 : decode cX1_accept 16 = .ok (.if_icmp .lt 5, 3) := by decide +kernel
theorem dX1_accept_19 : decode cX1_accept 19 = .ok (.iconst 0, 1) := by decide +kernel
theorem dX1_accept_20 : decode cX1_accept 20 = .ok (.ireturn, 1) := by decide +kernel
theorem dX1_accept_21 : decode cX1_accept 21 = .ok (.aload_n 0, 1) := by decide +kernel
theorem dX1_accept_22 : decode cX1_accept 22 = .ok (.getfield 9, 3) := by decide +kernel
theorem dX1_accept_25 : decode cX1_accept 25 = .ok (.aload_n 0, 1) := by decide +kernel
theorem dX1_accept_26 : decode cX1_accept 26 = .ok (.getfield 17, 3) := by decide +kernel
theorem dX1_accept_29 : decode cX1_accept 29 = .ok (.iload_n 1, 1) := by decide +kernel
theorem dX1_accept_30 : decode cX1_accept 30 = .ok (.castore, 1) := by decide +kernel
theorem dX1_accept_31 : decode cX1_accept 31 = .ok (.aload_n 0, 1) := by decide +kernel
theorem dX1_accept_32 : decode cX1_accept 32 = .ok (.dup, 1) := by decide +kernel
theorem dX1_accept_33 : decode cX1_accept 33 = .ok (.getfield 17, 3) := by decide +kernel
theorem dX1_accept_36 : decode cX1_accept 36 = .ok (.iconst 1, 1) := by decide +kernel
theorem dX1_accept_37 : decode cX1_accept 37 = .ok (.iadd, 1) := by decide +kernel
theorem dX1_accept_38 : decode cX1_accept 38 = .ok (.putfield 17, 3) := by decide +kernel
theorem dX1_accept_41 : decode cX1_accept 41 = .ok (.iconst 1, 1) := by decide +kernel
theorem dX1_accept_42 : decode cX1_accept 42 = .ok (.ireturn, 1) := by decide +kernel
theorem dX1_empty_0 : decode cX1_empty 0 = .ok (.aload_n 0, 1) := by decide +kernel
theorem dX1_empty_1 : decode cX1_empty 1 = .ok (.iconst 0, 1) := by decide +kernel
theorem dX1_empty_2 : decode cX1_empty 2 = .ok (.putfield 17, 3) := by decide +kernel
theorem dX1_empty_5 : decode cX1_empty 5 = .ok (.return_, 1) := by decide +kernel
theorem dX1_selectorProgram_0 : decode cX1_selectorProgram 0 = .ok (.aload_n 0, 1) := by decide +kernel
theorem dX1_selectorProgram_1 : decode cX1_selectorProgram 1 = .ok (.getfield 13, 3) := by decide +kernel
theorem dX1_selectorProgram_4 : decode cX1_selectorProgram 4 = .ok (.aload_n 0, 1) := by decide +kernel
theorem dX1_selectorProgram_5 : decode cX1_selectorProgram 5 = .ok (.getfield 21, 3) := by decide +kernel
theorem dX1_selectorProgram_8 : decode cX1_selectorProgram 8 = .ok (.ifCond .ge 7, 3) := by decide +kernel
theorem dX1_selectorProgram_11 : decode cX1_selectorProgram 11 = .ok (.iconst 0, 1) := by decide +kernel
theorem dX1_selectorProgram_12 : decode cX1_selectorProgram 12 = .ok (.goto 7, 3) := by decide +kernel
theorem dX1_selectorProgram_15 : decode cX1_selectorProgram 15 = .ok (.aload_n 0, 1) := by decide +kernel
theorem dX1_selectorProgram_16 : decode cX1_selectorProgram 16 = .ok (.getfield 21, 3) := by decide +kernel
theorem dX1_selectorProgram_19 : decode cX1_selectorProgram 19 = .ok (.invokestatic 24, 3) := by decide +kernel
theorem dX1_selectorProgram_22 : decode cX1_selectorProgram 22 = .ok (.areturn, 1) := by decide +kernel
theorem dX1_read_0 : decode cX1_read 0 = .ok (.aload_n 0, 1) := by decide +kernel
theorem dX1_read_1 : decode cX1_read 1 = .ok (.iconst 0, 1) := by decide +kernel
theorem dX1_read_2 : decode cX1_read 2 = .ok (.putfield 30, 3) := by decide +kernel
theorem dX1_read_5 : decode cX1_read 5 = .ok (.aload_n 0, 1) := by decide +kernel
theorem dX1_read_6 : decode cX1_read 6 = .ok (.iconst 0, 1) := by decide +kernel
theorem dX1_read_7 : decode cX1_read 7 = .ok (.putfield 21, 3) := by decide +kernel
theorem dX1_read_10 : decode cX1_read 10 = .ok (.aload_n 0, 1) := by decide +kernel
theorem dX1_read_11 : decode cX1_read 11 = .ok (.invokevirtual 33, 3) := by decide +kernel
theorem dX1_read_14 : decode cX1_read 14 = .ok (.istore_n 1, 1) := by decide +kernel
theorem dX1_read_15 : decode cX1_read 15 = .ok (.iload_n 1, 1) := by decide +kernel
theorem dX1_read_16 : decode cX1_read 16 = .ok (.tableswitch 64 0 3 #[32, 40, 48, 56], 32) := by decide +kernel
theorem dX1_read_48 : decode cX1_read 48 = .ok (.aload_n 0, 1) := by decide +kernel
theorem dX1_read_49 : decode cX1_read 49 = .ok (.invokevirtual 37, 3) := by decide +kernel
theorem dX1_read_52 : decode cX1_read 52 = .ok (.istore_n 2, 1) := by decide +kernel
theorem dX1_read_53 : decode cX1_read 53 = .ok (.goto 29, 3) := by decide +kernel
theorem dX1_read_56 : decode cX1_read 56 = .ok (.aload_n 0, 1) := by decide +kernel
theorem dX1_read_57 : decode cX1_read 57 = .ok (.invokevirtual 41, 3) := by decide +kernel
theorem dX1_read_60 : decode cX1_read 60 = .ok (.istore_n 2, 1) := by decide +kernel
theorem dX1_read_61 : decode cX1_read 61 = .ok (.goto 21, 3) := by decide +kernel
theorem dX1_read_64 : decode cX1_read 64 = .ok (.aload_n 0, 1) := by decide +kernel
theorem dX1_read_65 : decode cX1_read 65 = .ok (.invokevirtual 44, 3) := by decide +kernel
theorem dX1_read_68 : decode cX1_read 68 = .ok (.istore_n 2, 1) := by decide +kernel
theorem dX1_read_69 : decode cX1_read 69 = .ok (.goto 13, 3) := by decide +kernel
theorem dX1_read_72 : decode cX1_read 72 = .ok (.aload_n 0, 1) := by decide +kernel
theorem dX1_read_73 : decode cX1_read 73 = .ok (.invokevirtual 47, 3) := by decide +kernel
theorem dX1_read_76 : decode cX1_read 76 = .ok (.istore_n 2, 1) := by decide +kernel
theorem dX1_read_77 : decode cX1_read 77 = .ok (.goto 5, 3) := by decide +kernel
theorem dX1_read_80 : decode cX1_read 80 = .ok (.iconst 0, 1) := by decide +kernel
theorem dX1_read_81 : decode cX1_read 81 = .ok (.istore_n 2, 1) := by decide +kernel
theorem dX1_read_82 : decode cX1_read 82 = .ok (.iload_n 2, 1) := by decide +kernel
theorem dX1_read_83 : decode cX1_read 83 = .ok (.ifCond .eq 18, 3) := by decide +kernel
theorem dX1_read_86 : decode cX1_read 86 = .ok (.aload_n 0, 1) := by decide +kernel
theorem dX1_read_87 : decode cX1_read 87 = .ok (.getfield 30, 3) := by decide +kernel
theorem dX1_read_90 : decode cX1_read 90 = .ok (.aload_n 0, 1) := by decide +kernel
theorem dX1_read_91 : decode cX1_read 91 = .ok (.getfield 17, 3) := by decide +kernel
theorem dX1_read_94 : decode cX1_read 94 = .ok (.if_icmp .ne 7, 3) := by decide +kernel
theorem dX1_read_97 : decode cX1_read 97 = .ok (.iload_n 1, 1) := by decide +kernel
theorem dX1_read_98 : decode cX1_read 98 = .ok (.goto 4, 3) := by decide +kernel
theorem dX1_read_101 : decode cX1_read 101 = .ok (.iconst (-1), 1) := by decide +kernel
theorem dX1_read_102 : decode cX1_read 102 = .ok (.ireturn, 1) := by decide +kernel
theorem dX1_kindName_0 : decode cX1_kindName 0 = .ok (.iload_n 0, 1) := by decide +kernel
theorem dX1_kindName_1 : decode cX1_kindName 1 = .ok (.tableswitch 36 0 2 #[27, 30, 33], 27) := by decide +kernel
theorem dX1_kindName_28 : decode cX1_kindName 28 = .ok (.ldc 50, 2) := by decide +kernel
theorem dX1_kindName_30 : decode cX1_kindName 30 = .ok (.areturn, 1) := by decide +kernel
theorem dX1_kindName_31 : decode cX1_kindName 31 = .ok (.ldc 52, 2) := by decide +kernel
theorem dX1_kindName_33 : decode cX1_kindName 33 = .ok (.areturn, 1) := by decide +kernel
theorem dX1_kindName_34 : decode cX1_kindName 34 = .ok (.ldc 54, 2) := by decide +kernel
theorem dX1_kindName_36 : decode cX1_kindName 36 = .ok (.areturn, 1) := by decide +kernel
theorem dX1_kindName_37 : decode cX1_kindName 37 = .ok (.ldc 56, 2) := by decide +kernel
theorem dX1_kindName_39 : decode cX1_kindName 39 = .ok (.areturn, 1) := by decide +kernel
theorem dX1_modeName_0 : decode cX1_modeName 0 = .ok (.iload_n 0, 1) := by decide +kernel
theorem dX1_modeName_1 : decode cX1_modeName 1 = .ok (.tableswitch 43 0 3 #[31, 34, 37, 40], 31) := by decide +kernel
theorem dX1_modeName_32 : decode cX1_modeName 32 = .ok (.ldc 58, 2) := by decide +kernel
theorem dX1_modeName_34 : decode cX1_modeName 34 = .ok (.areturn, 1) := by decide +kernel
theorem dX1_modeName_35 : decode cX1_modeName 35 = .ok (.ldc 60, 2) := by decide +kernel
theorem dX1_modeName_37 : decode cX1_modeName 37 = .ok (.areturn, 1) := by decide +kernel
theorem dX1_modeName_38 : decode cX1_modeName 38 = .ok (.ldc 62, 2) := by decide +kernel
theorem dX1_modeName_40 : decode cX1_modeName 40 = .ok (.areturn, 1) := by decide +kernel
theorem dX1_modeName_41 : decode cX1_modeName 41 = .ok (.ldc 64, 2) := by decide +kernel
theorem dX1_modeName_43 : decode cX1_modeName 43 = .ok (.areturn, 1) := by decide +kernel
theorem dX1_modeName_44 : decode cX1_modeName 44 = .ok (.ldc 66, 2) := by decide +kernel
theorem dX1_modeName_46 : decode cX1_modeName 46 = .ok (.areturn, 1) := by decide +kernel
theorem dX1_readKind_0 : decode cX1_readKind 0 = .ok (.iconst 0, 1) := by decide +kernel
theorem dX1_readKind_1 : decode cX1_readKind 1 = .ok (.istore_n 1, 1) := by decide +kernel
theorem dX1_readKind_2 : decode cX1_readKind 2 = .ok (.iconst 0, 1) := by decide +kernel
theorem dX1_readKind_3 : decode cX1_readKind 3 = .ok (.istore_n 2, 1) := by decide +kernel
theorem dX1_readKind_4 : decode cX1_readKind 4 = .ok (.iload_n 2, 1) := by decide +kernel
theorem dX1_readKind_5 : decode cX1_readKind 5 = .ok (.iconst 4, 1) := by decide +kernel
theorem dX1_readKind_6 : decode cX1_readKind 6 = .ok (.if_icmp .ge 45, 3) := by decide +kernel
theorem dX1_readKind_9 : decode cX1_readKind 9 = .ok (.iload_n 2, 1) := by decide +kernel
theorem dX1_readKind_10 : decode cX1_readKind 10 = .ok (.invokestatic 68, 3) := by decide +kernel
theorem dX1_readKind_13 : decode cX1_readKind 13 = .ok (.astore_n 3, 1) := by decide +kernel
theorem dX1_readKind_14 : decode cX1_readKind 14 = .ok (.aload_n 0, 1) := by decide +kernel
theorem dX1_readKind_15 : decode cX1_readKind 15 = .ok (.aload_n 3, 1) := by decide +kernel
theorem dX1_readKind_16 : decode cX1_readKind 16 = .ok (.invokevirtual 72, 3) := by decide +kernel
theorem dX1_readKind_19 : decode cX1_readKind 19 = .ok (.istore 4, 2) := by decide +kernel
theorem dX1_readKind_21 : decode cX1_readKind 21 = .ok (.iload_n 1, 1) := by decide +kernel
theorem dX1_readKind_22 : decode cX1_readKind 22 = .ok (.iload 4, 2) := by decide +kernel
theorem dX1_readKind_24 : decode cX1_readKind 24 = .ok (.invokestatic 76, 3) := by decide +kernel
theorem dX1_readKind_27 : decode cX1_readKind 27 = .ok (.istore_n 1, 1) := by decide +kernel
theorem dX1_readKind_28 : decode cX1_readKind 28 = .ok (.iload 4, 2) := by decide +kernel
theorem dX1_readKind_30 : decode cX1_readKind 30 = .ok (.aload_n 3, 1) := by decide +kernel
theorem dX1_readKind_31 : decode cX1_readKind 31 = .ok (.invokevirtual 82, 3) := by decide +kernel
theorem dX1_readKind_34 : decode cX1_readKind 34 = .ok (.if_icmp .ne 11, 3) := by decide +kernel
theorem dX1_readKind_37 : decode cX1_readKind 37 = .ok (.aload_n 0, 1) := by decide +kernel
theorem dX1_readKind_38 : decode cX1_readKind 38 = .ok (.iload 4, 2) := by decide +kernel
theorem dX1_readKind_40 : decode cX1_readKind 40 = .ok (.putfield 30, 3) := by decide +kernel
theorem dX1_readKind_43 : decode cX1_readKind 43 = .ok (.iload_n 2, 1) := by decide +kernel
theorem dX1_readKind_44 : decode cX1_readKind 44 = .ok (.ireturn, 1) := by decide +kernel
theorem dX1_readKind_45 : decode cX1_readKind 45 = .ok (.iinc 2 1, 3) := by decide +kernel
theorem dX1_readKind_48 : decode cX1_readKind 48 = .ok (.goto (-44), 3) := by decide +kernel
theorem dX1_readKind_51 : decode cX1_readKind 51 = .ok (.aload_n 0, 1) := by decide +kernel
theorem dX1_readKind_52 : decode cX1_readKind 52 = .ok (.iload_n 1, 1) := by decide +kernel
theorem dX1_readKind_53 : decode cX1_readKind 53 = .ok (.putfield 30, 3) := by decide +kernel
theorem dX1_readKind_56 : decode cX1_readKind 56 = .ok (.iconst (-1), 1) := by decide +kernel
theorem dX1_readKind_57 : decode cX1_readKind 57 = .ok (.ireturn, 1) := by decide +kernel
theorem dX1_readMode_0 : decode cX1_readMode 0 = .ok (.iconst 0, 1) := by decide +kernel
theorem dX1_readMode_1 : decode cX1_readMode 1 = .ok (.istore_n 1, 1) := by decide +kernel
theorem dX1_readMode_2 : decode cX1_readMode 2 = .ok (.iconst 0, 1) := by decide +kernel
theorem dX1_readMode_3 : decode cX1_readMode 3 = .ok (.istore_n 2, 1) := by decide +kernel
theorem dX1_readMode_4 : decode cX1_readMode 4 = .ok (.iconst 0, 1) := by decide +kernel
theorem dX1_readMode_5 : decode cX1_readMode 5 = .ok (.istore_n 3, 1) := by decide +kernel
theorem dX1_readMode_6 : decode cX1_readMode 6 = .ok (.iload_n 3, 1) := by decide +kernel
theorem dX1_readMode_7 : decode cX1_readMode 7 = .ok (.iconst 5, 1) := by decide +kernel
theorem dX1_readMode_8 : decode cX1_readMode 8 = .ok (.if_icmp .ge 51, 3) := by decide +kernel
theorem dX1_readMode_11 : decode cX1_readMode 11 = .ok (.iload_n 2, 1) := by decide +kernel
theorem dX1_readMode_12 : decode cX1_readMode 12 = .ok (.ifCond .ne 47, 3) := by decide +kernel
theorem dX1_readMode_15 : decode cX1_readMode 15 = .ok (.iload_n 3, 1) := by decide +kernel
theorem dX1_readMode_16 : decode cX1_readMode 16 = .ok (.invokestatic 88, 3) := by decide +kernel
theorem dX1_readMode_19 : decode cX1_readMode 19 = .ok (.astore 4, 2) := by decide +kernel
theorem dX1_readMode_21 : decode cX1_readMode 21 = .ok (.aload_n 0, 1) := by decide +kernel
theorem dX1_readMode_22 : decode cX1_readMode 22 = .ok (.aload 4, 2) := by decide +kernel
theorem dX1_readMode_24 : decode cX1_readMode 24 = .ok (.invokevirtual 72, 3) := by decide +kernel
theorem dX1_readMode_27 : decode cX1_readMode 27 = .ok (.istore 5, 2) := by decide +kernel
theorem dX1_readMode_29 : decode cX1_readMode 29 = .ok (.iload_n 1, 1) := by decide +kernel
theorem dX1_readMode_30 : decode cX1_readMode 30 = .ok (.iload 5, 2) := by decide +kernel
theorem dX1_readMode_32 : decode cX1_readMode 32 = .ok (.invokestatic 76, 3) := by decide +kernel
theorem dX1_readMode_35 : decode cX1_readMode 35 = .ok (.istore_n 1, 1) := by decide +kernel
theorem dX1_readMode_36 : decode cX1_readMode 36 = .ok (.iload 5, 2) := by decide +kernel
theorem dX1_readMode_38 : decode cX1_readMode 38 = .ok (.aload 4, 2) := by decide +kernel
theorem dX1_readMode_40 : decode cX1_readMode 40 = .ok (.invokevirtual 82, 3) := by decide +kernel
theorem dX1_readMode_43 : decode cX1_readMode 43 = .ok (.if_icmp .ne 10, 3) := by decide +kernel
theorem dX1_readMode_46 : decode cX1_readMode 46 = .ok (.aload_n 0, 1) := by decide +kernel
theorem dX1_readMode_47 : decode cX1_readMode 47 = .ok (.iload_n 3, 1) := by decide +kernel
theorem dX1_readMode_48 : decode cX1_readMode 48 = .ok (.putfield 91, 3) := by decide +kernel
theorem dX1_readMode_51 : decode cX1_readMode 51 = .ok (.iconst 1, 1) := by decide +kernel
theorem dX1_readMode_52 : decode cX1_readMode 52 = .ok (.istore_n 2, 1) := by decide +kernel
theorem dX1_readMode_53 : decode cX1_readMode 53 = .ok (.iinc 3 1, 3) := by decide +kernel
theorem dX1_readMode_56 : decode cX1_readMode 56 = .ok (.goto (-50), 3) := by decide +kernel
theorem dX1_readMode_59 : decode cX1_readMode 59 = .ok (.aload_n 0, 1) := by decide +kernel
theorem dX1_readMode_60 : decode cX1_readMode 60 = .ok (.dup, 1) := by decide +kernel
theorem dX1_readMode_61 : decode cX1_readMode 61 = .ok (.getfield 30, 3) := by decide +kernel
theorem dX1_readMode_64 : decode cX1_readMode 64 = .ok (.iload_n 1, 1) := by decide +kernel
theorem dX1_readMode_65 : decode cX1_readMode 65 = .ok (.iadd, 1) := by decide +kernel
theorem dX1_readMode_66 : decode cX1_readMode 66 = .ok (.putfield 30, 3) := by decide +kernel
theorem dX1_readMode_69 : decode cX1_readMode 69 = .ok (.iload_n 2, 1) := by decide +kernel
theorem dX1_readMode_70 : decode cX1_readMode 70 = .ok (.ireturn, 1) := by decide +kernel
theorem dX1_sameCharacters_0 : decode cX1_sameCharacters 0 = .ok (.iconst 0, 1) := by decide +kernel
theorem dX1_sameCharacters_1 : decode cX1_sameCharacters 1 = .ok (.istore_n 2, 1) := by decide +kernel
theorem dX1_sameCharacters_2 : decode cX1_sameCharacters 2 = .ok (.iconst 0, 1) := by decide +kernel
theorem dX1_sameCharacters_3 : decode cX1_sameCharacters 3 = .ok (.istore_n 3, 1) := by decide +kernel
theorem dX1_sameCharacters_4 : decode cX1_sameCharacters 4 = .ok (.iload_n 3, 1) := by decide +kernel
theorem dX1_sameCharacters_5 : decode cX1_sameCharacters 5 = .ok (.aload_n 1, 1) := by decide +kernel
theorem dX1_sameCharacters_6 : decode cX1_sameCharacters 6 = .ok (.invokevirtual 82, 3) := by decide +kernel
theorem dX1_sameCharacters_9 : decode cX1_sameCharacters 9 = .ok (.if_icmp .ge 30, 3) := by decide +kernel
theorem dX1_sameCharacters_12 : decode cX1_sameCharacters 12 = .ok (.aload_n 0, 1) := by decide +kernel
theorem dX1_sameCharacters_13 : decode cX1_sameCharacters 13 = .ok (.aload_n 0, 1) := by decide +kernel
theorem dX1_sameCharacters_14 : decode cX1_sameCharacters 14 = .ok (.getfield 30, 3) := by decide +kernel
theorem dX1_sameCharacters_17 : decode cX1_sameCharacters 17 = .ok (.iload_n 3, 1) := by decide +kernel
theorem dX1_sameCharacters_18 : decode cX1_sameCharacters 18 = .ok (.iadd, 1) := by decide +kernel
theorem dX1_sameCharacters_19 : decode cX1_sameCharacters 19 = .ok (.invokevirtual 94, 3) := by decide +kernel
theorem dX1_sameCharacters_22 : decode cX1_sameCharacters 22 = .ok (.aload_n 1, 1) := by decide +kernel
theorem dX1_sameCharacters_23 : decode cX1_sameCharacters 23 = .ok (.iload_n 3, 1) := by decide +kernel
theorem dX1_sameCharacters_24 : decode cX1_sameCharacters 24 = .ok (.invokevirtual 98, 3) := by decide +kernel
theorem dX1_sameCharacters_27 : decode cX1_sameCharacters 27 = .ok (.if_icmp .ne 12, 3) := by decide +kernel
theorem dX1_sameCharacters_30 : decode cX1_sameCharacters 30 = .ok (.iinc 2 1, 3) := by decide +kernel
theorem dX1_sameCharacters_33 : decode cX1_sameCharacters 33 = .ok (.iinc 3 1, 3) := by decide +kernel
theorem dX1_sameCharacters_36 : decode cX1_sameCharacters 36 = .ok (.goto (-32), 3) := by decide +kernel
theorem dX1_sameCharacters_39 : decode cX1_sameCharacters 39 = .ok (.iload_n 2, 1) := by decide +kernel
theorem dX1_sameCharacters_40 : decode cX1_sameCharacters 40 = .ok (.ireturn, 1) := by decide +kernel
theorem dX1_characterAt_0 : decode cX1_characterAt 0 = .ok (.iload_n 1, 1) := by decide +kernel
theorem dX1_characterAt_1 : decode cX1_characterAt 1 = .ok (.ifCond .lt 20, 3) := by decide +kernel
theorem dX1_characterAt_4 : decode cX1_characterAt 4 = .ok (.iload_n 1, 1) := by decide +kernel
theorem dX1_characterAt_5 : decode cX1_characterAt 5 = .ok (.aload_n 0, 1) := by decide +kernel
theorem dX1_characterAt_6 : decode cX1_characterAt 6 = .ok (.getfield 17, 3) := by decide +kernel
theorem dX1_characterAt_9 : decode cX1_characterAt 9 = .ok (.if_icmp .ge 12, 3) := by decide +kernel
theorem dX1_characterAt_12 : decode cX1_characterAt 12 = .ok (.iload_n 1, 1) := by decide +kernel
theorem dX1_characterAt_13 : decode cX1_characterAt 13 = .ok (.aload_n 0, 1) := by decide +kernel
theorem dX1_characterAt_14 : decode cX1_characterAt 14 = .ok (.getfield 9, 3) := by decide +kernel
theorem dX1_characterAt_17 : decode cX1_characterAt 17 = .ok (.arraylength, 1) := by decide +kernel
theorem dX1_characterAt_18 : decode cX1_characterAt 18 = .ok (.if_icmp .lt 7, 3) := by decide +kernel
theorem dX1_characterAt_21 : decode cX1_characterAt 21 = .ok (.iconst 0, 1) := by decide +kernel
theorem dX1_characterAt_22 : decode cX1_characterAt 22 = .ok (.goto 9, 3) := by decide +kernel
theorem dX1_characterAt_25 : decode cX1_characterAt 25 = .ok (.aload_n 0, 1) := by decide +kernel
theorem dX1_characterAt_26 : decode cX1_characterAt 26 = .ok (.getfield 9, 3) := by decide +kernel
theorem dX1_characterAt_29 : decode cX1_characterAt 29 = .ok (.iload_n 1, 1) := by decide +kernel
theorem dX1_characterAt_30 : decode cX1_characterAt 30 = .ok (.caload, 1) := by decide +kernel
theorem dX1_characterAt_31 : decode cX1_characterAt 31 = .ok (.ireturn, 1) := by decide +kernel
theorem dX1_skip_0 : decode cX1_skip 0 = .ok (.aload_n 0, 1) := by decide +kernel
theorem dX1_skip_1 : decode cX1_skip 1 = .ok (.aload_n 0, 1) := by decide +kernel
theorem dX1_skip_2 : decode cX1_skip 2 = .ok (.getfield 30, 3) := by decide +kernel
theorem dX1_skip_5 : decode cX1_skip 5 = .ok (.invokevirtual 94, 3) := by decide +kernel
theorem dX1_skip_8 : decode cX1_skip 8 = .ok (.iload_n 1, 1) := by decide +kernel
theorem dX1_skip_9 : decode cX1_skip 9 = .ok (.if_icmp .eq 5, 3) := by decide +kernel
theorem dX1_skip_12 : decode cX1_skip 12 = .ok (.iconst 0, 1) := by decide +kernel
theorem dX1_skip_13 : decode cX1_skip 13 = .ok (.ireturn, 1) := by decide +kernel
theorem dX1_skip_14 : decode cX1_skip 14 = .ok (.aload_n 0, 1) := by decide +kernel
theorem dX1_skip_15 : decode cX1_skip 15 = .ok (.dup, 1) := by decide +kernel
theorem dX1_skip_16 : decode cX1_skip 16 = .ok (.getfield 30, 3) := by decide +kernel
theorem dX1_skip_19 : decode cX1_skip 19 = .ok (.iconst 1, 1) := by decide +kernel
theorem dX1_skip_20 : decode cX1_skip 20 = .ok (.iadd, 1) := by decide +kernel
theorem dX1_skip_21 : decode cX1_skip 21 = .ok (.putfield 30, 3) := by decide +kernel
theorem dX1_skip_24 : decode cX1_skip 24 = .ok (.iconst 1, 1) := by decide +kernel
theorem dX1_skip_25 : decode cX1_skip 25 = .ok (.ireturn, 1) := by decide +kernel
theorem dX1_readLetters_0 : decode cX1_readLetters 0 = .ok (.iconst 0, 1) := by decide +kernel
theorem dX1_readLetters_1 : decode cX1_readLetters 1 = .ok (.istore_n 2, 1) := by decide +kernel
theorem dX1_readLetters_2 : decode cX1_readLetters 2 = .ok (.iconst 0, 1) := by decide +kernel
theorem dX1_readLetters_3 : decode cX1_readLetters 3 = .ok (.istore_n 3, 1) := by decide +kernel
theorem dX1_readLetters_4 : decode cX1_readLetters 4 = .ok (.iload_n 3, 1) := by decide +kernel
theorem dX1_readLetters_5 : decode cX1_readLetters 5 = .ok (.iload_n 1, 1) := by decide +kernel
theorem dX1_readLetters_6 : decode cX1_readLetters 6 = .ok (.if_icmp .ge 55, 3) := by decide +kernel
theorem dX1_readLetters_9 : decode cX1_readLetters 9 = .ok (.aload_n 0, 1) := by decide +kernel
theorem dX1_readLetters_10 : decode cX1_readLetters 10 = .ok (.aload_n 0, 1) := by decide +kernel
theorem dX1_readLetters_11 : decode cX1_readLetters 11 = .ok (.getfield 30, 3) := by decide +kernel
theorem dX1_readLetters_14 : decode cX1_readLetters 14 = .ok (.invokevirtual 94, 3) := by decide +kernel
theorem dX1_readLetters_17 : decode cX1_readLetters 17 = .ok (.istore 4, 2) := by decide +kernel
theorem dX1_readLetters_19 : decode cX1_readLetters 19 = .ok (.iload 4, 2) := by decide +kernel
theorem dX1_readLetters_21 : decode cX1_readLetters 21 = .ok (.bipush 97, 2) := by decide +kernel
theorem dX1_readLetters_23 : decode cX1_readLetters 23 = .ok (.if_icmp .lt 10, 3) := by decide +kernel
theorem dX1_readLetters_26 : decode cX1_readLetters 26 = .ok (.iload 4, 2) := by decide +kernel
theorem dX1_readLetters_28 : decode cX1_readLetters 28 = .ok (.bipush 99, 2) := by decide +kernel
theorem dX1_readLetters_30 : decode cX1_readLetters 30 = .ok (.if_icmp .le 5, 3) := by decide +kernel
theorem dX1_readLetters_33 : decode cX1_readLetters 33 = .ok (.iload_n 2, 1) := by decide +kernel
theorem dX1_readLetters_34 : decode cX1_readLetters 34 = .ok (.ireturn, 1) := by decide +kernel
theorem dX1_readLetters_35 : decode cX1_readLetters 35 = .ok (.iload_n 2, 1) := by decide +kernel
theorem dX1_readLetters_36 : decode cX1_readLetters 36 = .ok (.iload 4, 2) := by decide +kernel
theorem dX1_readLetters_38 : decode cX1_readLetters 38 = .ok (.bipush 97, 2) := by decide +kernel
theorem dX1_readLetters_40 : decode cX1_readLetters 40 = .ok (.isub, 1) := by decide +kernel
theorem dX1_readLetters_41 : decode cX1_readLetters 41 = .ok (.invokestatic 103, 3) := by decide +kernel
theorem dX1_readLetters_44 : decode cX1_readLetters 44 = .ok (.istore_n 2, 1) := by decide +kernel
theorem dX1_readLetters_45 : decode cX1_readLetters 45 = .ok (.aload_n 0, 1) := by decide +kernel
theorem dX1_readLetters_46 : decode cX1_readLetters 46 = .ok (.dup, 1) := by decide +kernel
theorem dX1_readLetters_47 : decode cX1_readLetters 47 = .ok (.getfield 30, 3) := by decide +kernel
theorem dX1_readLetters_50 : decode cX1_readLetters 50 = .ok (.iconst 1, 1) := by decide +kernel
theorem dX1_readLetters_51 : decode cX1_readLetters 51 = .ok (.iadd, 1) := by decide +kernel
theorem dX1_readLetters_52 : decode cX1_readLetters 52 = .ok (.putfield 30, 3) := by decide +kernel
theorem dX1_readLetters_55 : decode cX1_readLetters 55 = .ok (.iinc 3 1, 3) := by decide +kernel
theorem dX1_readLetters_58 : decode cX1_readLetters 58 = .ok (.goto (-54), 3) := by decide +kernel
theorem dX1_readLetters_61 : decode cX1_readLetters 61 = .ok (.iload_n 2, 1) := by decide +kernel
theorem dX1_readLetters_62 : decode cX1_readLetters 62 = .ok (.ireturn, 1) := by decide +kernel
theorem dX1_readAxiom_0 : decode cX1_readAxiom 0 = .ok (.aload_n 0, 1) := by decide +kernel
theorem dX1_readAxiom_1 : decode cX1_readAxiom 1 = .ok (.aload_n 0, 1) := by decide +kernel
theorem dX1_readAxiom_2 : decode cX1_readAxiom 2 = .ok (.bipush 8, 2) := by decide +kernel
theorem dX1_readAxiom_4 : decode cX1_readAxiom 4 = .ok (.invokevirtual 106, 3) := by decide +kernel
theorem dX1_readAxiom_7 : decode cX1_readAxiom 7 = .ok (.putfield 110, 3) := by decide +kernel
theorem dX1_readAxiom_10 : decode cX1_readAxiom 10 = .ok (.aload_n 0, 1) := by decide +kernel
theorem dX1_readAxiom_11 : decode cX1_readAxiom 11 = .ok (.getfield 110, 3) := by decide +kernel
theorem dX1_readAxiom_14 : decode cX1_readAxiom 14 = .ok (.ifCond .eq 7, 3) := by decide +kernel
theorem dX1_readAxiom_17 : decode cX1_readAxiom 17 = .ok (.iconst 1, 1) := by decide +kernel
theorem dX1_readAxiom_18 : decode cX1_readAxiom 18 = .ok (.goto 4, 3) := by decide +kernel
theorem dX1_readAxiom_21 : decode cX1_readAxiom 21 = .ok (.iconst 0, 1) := by decide +kernel
theorem dX1_readAxiom_22 : decode cX1_readAxiom 22 = .ok (.ireturn, 1) := by decide +kernel
theorem dX1_readLimit_0 : decode cX1_readLimit 0 = .ok (.aload_n 0, 1) := by decide +kernel
theorem dX1_readLimit_1 : decode cX1_readLimit 1 = .ok (.aload_n 0, 1) := by decide +kernel
theorem dX1_readLimit_2 : decode cX1_readLimit 2 = .ok (.getfield 30, 3) := by decide +kernel
theorem dX1_readLimit_5 : decode cX1_readLimit 5 = .ok (.invokevirtual 94, 3) := by decide +kernel
theorem dX1_readLimit_8 : decode cX1_readLimit 8 = .ok (.istore_n 1, 1) := by decide +kernel
theorem dX1_readLimit_9 : decode cX1_readLimit 9 = .ok (.iload_n 1, 1) := by decide +kernel
theorem dX1_readLimit_10 : decode cX1_readLimit 10 = .ok (.bipush 49, 2) := by decide +kernel
theorem dX1_readLimit_12 : decode cX1_readLimit 12 = .ok (.if_icmp .lt 9, 3) := by decide +kernel
theorem dX1_readLimit_15 : decode cX1_readLimit 15 = .ok (.iload_n 1, 1) := by decide +kernel
theorem dX1_readLimit_16 : decode cX1_readLimit 16 = .ok (.bipush 57, 2) := by decide +kernel
theorem dX1_readLimit_18 : decode cX1_readLimit 18 = .ok (.if_icmp .le 5, 3) := by decide +kernel
theorem dX1_readLimit_21 : decode cX1_readLimit 21 = .ok (.iconst 0, 1) := by decide +kernel
theorem dX1_readLimit_22 : decode cX1_readLimit 22 = .ok (.ireturn, 1) := by decide +kernel
theorem dX1_readLimit_23 : decode cX1_readLimit 23 = .ok (.aload_n 0, 1) := by decide +kernel
theorem dX1_readLimit_24 : decode cX1_readLimit 24 = .ok (.iload_n 1, 1) := by decide +kernel
theorem dX1_readLimit_25 : decode cX1_readLimit 25 = .ok (.bipush 48, 2) := by decide +kernel
theorem dX1_readLimit_27 : decode cX1_readLimit 27 = .ok (.isub, 1) := by decide +kernel
theorem dX1_readLimit_28 : decode cX1_readLimit 28 = .ok (.putfield 91, 3) := by decide +kernel
theorem dX1_readLimit_31 : decode cX1_readLimit 31 = .ok (.aload_n 0, 1) := by decide +kernel
theorem dX1_readLimit_32 : decode cX1_readLimit 32 = .ok (.dup, 1) := by decide +kernel
theorem dX1_readLimit_33 : decode cX1_readLimit 33 = .ok (.getfield 30, 3) := by decide +kernel
theorem dX1_readLimit_36 : decode cX1_readLimit 36 = .ok (.iconst 1, 1) := by decide +kernel
theorem dX1_readLimit_37 : decode cX1_readLimit 37 = .ok (.iadd, 1) := by decide +kernel
theorem dX1_readLimit_38 : decode cX1_readLimit 38 = .ok (.putfield 30, 3) := by decide +kernel
theorem dX1_readLimit_41 : decode cX1_readLimit 41 = .ok (.iconst 1, 1) := by decide +kernel
theorem dX1_readLimit_42 : decode cX1_readLimit 42 = .ok (.ireturn, 1) := by decide +kernel
theorem dX1_readContext_0 : decode cX1_readContext 0 = .ok (.aload_n 0, 1) := by decide +kernel
theorem dX1_readContext_1 : decode cX1_readContext 1 = .ok (.aload_n 0, 1) := by decide +kernel
theorem dX1_readContext_2 : decode cX1_readContext 2 = .ok (.iconst 3, 1) := by decide +kernel
theorem dX1_readContext_3 : decode cX1_readContext 3 = .ok (.invokevirtual 106, 3) := by decide +kernel
theorem dX1_readContext_6 : decode cX1_readContext 6 = .ok (.putfield 113, 3) := by decide +kernel
theorem dX1_readContext_9 : decode cX1_readContext 9 = .ok (.aload_n 0, 1) := by decide +kernel
theorem dX1_readContext_10 : decode cX1_readContext 10 = .ok (.getfield 113, 3) := by decide +kernel
theorem dX1_readContext_13 : decode cX1_readContext 13 = .ok (.ifCond .eq 12, 3) := by decide +kernel
theorem dX1_readContext_16 : decode cX1_readContext 16 = .ok (.aload_n 0, 1) := by decide +kernel
theorem dX1_readContext_17 : decode cX1_readContext 17 = .ok (.bipush 44, 2) := by decide +kernel
theorem dX1_readContext_19 : decode cX1_readContext 19 = .ok (.invokevirtual 115, 3) := by decide +kernel
theorem dX1_readContext_22 : decode cX1_readContext 22 = .ok (.ifCond .ne 5, 3) := by decide +kernel
theorem dX1_readContext_25 : decode cX1_readContext 25 = .ok (.iconst 0, 1) := by decide +kernel
theorem dX1_readContext_26 : decode cX1_readContext 26 = .ok (.ireturn, 1) := by decide +kernel
theorem dX1_readContext_27 : decode cX1_readContext 27 = .ok (.aload_n 0, 1) := by decide +kernel
theorem dX1_readContext_28 : decode cX1_readContext 28 = .ok (.aload_n 0, 1) := by decide +kernel
theorem dX1_readContext_29 : decode cX1_readContext 29 = .ok (.iconst 3, 1) := by decide +kernel
theorem dX1_readContext_30 : decode cX1_readContext 30 = .ok (.invokevirtual 106, 3) := by decide +kernel
theorem dX1_readContext_33 : decode cX1_readContext 33 = .ok (.putfield 119, 3) := by decide +kernel
theorem dX1_readContext_36 : decode cX1_readContext 36 = .ok (.aload_n 0, 1) := by decide +kernel
theorem dX1_readContext_37 : decode cX1_readContext 37 = .ok (.bipush 32, 2) := by decide +kernel
theorem dX1_readContext_39 : decode cX1_readContext 39 = .ok (.invokevirtual 115, 3) := by decide +kernel
theorem dX1_readContext_42 : decode cX1_readContext 42 = .ok (.ifCond .eq 15, 3) := by decide +kernel
theorem dX1_readContext_45 : decode cX1_readContext 45 = .ok (.aload_n 0, 1) := by decide +kernel
theorem dX1_readContext_46 : decode cX1_readContext 46 = .ok (.iconst 0, 1) := by decide +kernel
theorem dX1_readContext_47 : decode cX1_readContext 47 = .ok (.invokevirtual 122, 3) := by decide +kernel
theorem dX1_readContext_50 : decode cX1_readContext 50 = .ok (.ifCond .eq 7, 3) := by decide +kernel
theorem dX1_readContext_53 : decode cX1_readContext 53 = .ok (.iconst 1, 1) := by decide +kernel
theorem dX1_readContext_54 : decode cX1_readContext 54 = .ok (.goto 4, 3) := by decide +kernel
theorem dX1_readContext_57 : decode cX1_readContext 57 = .ok (.iconst 0, 1) := by decide +kernel
theorem dX1_readContext_58 : decode cX1_readContext 58 = .ok (.ireturn, 1) := by decide +kernel
theorem dX1_readAlternatives_0 : decode cX1_readAlternatives 0 = .ok (.aload_n 0, 1) := by decide +kernel
theorem dX1_readAlternatives_1 : decode cX1_readAlternatives 1 = .ok (.iload_n 1, 1) := by decide +kernel
theorem dX1_readAlternatives_2 : decode cX1_readAlternatives 2 = .ok (.invokevirtual 126, 3) := by decide +kernel
theorem dX1_readAlternatives_5 : decode cX1_readAlternatives 5 = .ok (.istore_n 2, 1) := by decide +kernel
theorem dX1_readAlternatives_6 : decode cX1_readAlternatives 6 = .ok (.iconst 0, 1) := by decide +kernel
theorem dX1_readAlternatives_7 : decode cX1_readAlternatives 7 = .ok (.istore_n 3, 1) := by decide +kernel
theorem dX1_readAlternatives_8 : decode cX1_readAlternatives 8 = .ok (.iload_n 3, 1) := by decide +kernel
theorem dX1_readAlternatives_9 : decode cX1_readAlternatives 9 = .ok (.bipush 60, 2) := by decide +kernel
theorem dX1_readAlternatives_11 : decode cX1_readAlternatives 11 = .ok (.if_icmp .ge 45, 3) := by decide +kernel
theorem dX1_readAlternatives_14 : decode cX1_readAlternatives 14 = .ok (.iload_n 2, 1) := by decide +kernel
theorem dX1_readAlternatives_15 : decode cX1_readAlternatives 15 = .ok (.ifCond .eq 41, 3) := by decide +kernel
theorem dX1_readAlternatives_18 : decode cX1_readAlternatives 18 = .ok (.aload_n 0, 1) := by decide +kernel
theorem dX1_readAlternatives_19 : decode cX1_readAlternatives 19 = .ok (.bipush 124, 2) := by decide +kernel
theorem dX1_readAlternatives_21 : decode cX1_readAlternatives 21 = .ok (.invokevirtual 115, 3) := by decide +kernel
theorem dX1_readAlternatives_24 : decode cX1_readAlternatives 24 = .ok (.ifCond .eq 32, 3) := by decide +kernel
theorem dX1_readAlternatives_27 : decode cX1_readAlternatives 27 = .ok (.aload_n 0, 1) := by decide +kernel
theorem dX1_readAlternatives_28 : decode cX1_readAlternatives 28 = .ok (.iload_n 1, 1) := by decide +kernel
theorem dX1_readAlternatives_29 : decode cX1_readAlternatives 29 = .ok (.invokevirtual 126, 3) := by decide +kernel
theorem dX1_readAlternatives_32 : decode cX1_readAlternatives 32 = .ok (.ifCond .eq 16, 3) := by decide +kernel
theorem dX1_readAlternatives_35 : decode cX1_readAlternatives 35 = .ok (.aload_n 0, 1) := by decide +kernel
theorem dX1_readAlternatives_36 : decode cX1_readAlternatives 36 = .ok (.iconst 3, 1) := by decide +kernel
theorem dX1_readAlternatives_37 : decode cX1_readAlternatives 37 = .ok (.iconst 0, 1) := by decide +kernel
theorem dX1_readAlternatives_38 : decode cX1_readAlternatives 38 = .ok (.invokevirtual 131, 3) := by decide +kernel
theorem dX1_readAlternatives_41 : decode cX1_readAlternatives 41 = .ok (.ifCond .eq 7, 3) := by decide +kernel
theorem dX1_readAlternatives_44 : decode cX1_readAlternatives 44 = .ok (.iconst 1, 1) := by decide +kernel
theorem dX1_readAlternatives_45 : decode cX1_readAlternatives 45 = .ok (.goto 4, 3) := by decide +kernel
theorem dX1_readAlternatives_48 : decode cX1_readAlternatives 48 = .ok (.iconst 0, 1) := by decide +kernel
theorem dX1_readAlternatives_49 : decode cX1_readAlternatives 49 = .ok (.istore_n 2, 1) := by decide +kernel
theorem dX1_readAlternatives_50 : decode cX1_readAlternatives 50 = .ok (.iinc 3 1, 3) := by decide +kernel
theorem dX1_readAlternatives_53 : decode cX1_readAlternatives 53 = .ok (.goto (-45), 3) := by decide +kernel
theorem dX1_readAlternatives_56 : decode cX1_readAlternatives 56 = .ok (.iload_n 2, 1) := by decide +kernel
theorem dX1_readAlternatives_57 : decode cX1_readAlternatives 57 = .ok (.ireturn, 1) := by decide +kernel
theorem dX1_readConjunction_0 : decode cX1_readConjunction 0 = .ok (.aload_n 0, 1) := by decide +kernel
theorem dX1_readConjunction_1 : decode cX1_readConjunction 1 = .ok (.iload_n 1, 1) := by decide +kernel
theorem dX1_readConjunction_2 : decode cX1_readConjunction 2 = .ok (.invokevirtual 135, 3) := by decide +kernel
theorem dX1_readConjunction_5 : decode cX1_readConjunction 5 = .ok (.istore_n 2, 1) := by decide +kernel
theorem dX1_readConjunction_6 : decode cX1_readConjunction 6 = .ok (.iconst 0, 1) := by decide +kernel
theorem dX1_readConjunction_7 : decode cX1_readConjunction 7 = .ok (.istore_n 3, 1) := by decide +kernel
theorem dX1_readConjunction_8 : decode cX1_readConjunction 8 = .ok (.iload_n 3, 1) := by decide +kernel
theorem dX1_readConjunction_9 : decode cX1_readConjunction 9 = .ok (.bipush 60, 2) := by decide +kernel
theorem dX1_readConjunction_11 : decode cX1_readConjunction 11 = .ok (.if_icmp .ge 45, 3) := by decide +kernel
theorem dX1_readConjunction_14 : decode cX1_readConjunction 14 = .ok (.iload_n 2, 1) := by decide +kernel
theorem dX1_readConjunction_15 : decode cX1_readConjunction 15 = .ok (.ifCond .eq 41, 3) := by decide +kernel
theorem dX1_readConjunction_18 : decode cX1_readConjunction 18 = .ok (.aload_n 0, 1) := by decide +kernel
theorem dX1_readConjunction_19 : decode cX1_readConjunction 19 = .ok (.bipush 38, 2) := by decide +kernel
theorem dX1_readConjunction_21 : decode cX1_readConjunction 21 = .ok (.invokevirtual 115, 3) := by decide +kernel
theorem dX1_readConjunction_24 : decode cX1_readConjunction 24 = .ok (.ifCond .eq 32, 3) := by decide +kernel
theorem dX1_readConjunction_27 : decode cX1_readConjunction 27 = .ok (.aload_n 0, 1) := by decide +kernel
theorem dX1_readConjunction_28 : decode cX1_readConjunction 28 = .ok (.iload_n 1, 1) := by decide +kernel
theorem dX1_readConjunction_29 : decode cX1_readConjunction 29 = .ok (.invokevirtual 135, 3) := by decide +kernel
theorem dX1_readConjunction_32 : decode cX1_readConjunction 32 = .ok (.ifCond .eq 16, 3) := by decide +kernel
theorem dX1_readConjunction_35 : decode cX1_readConjunction 35 = .ok (.aload_n 0, 1) := by decide +kernel
theorem dX1_readConjunction_36 : decode cX1_readConjunction 36 = .ok (.iconst 2, 1) := by decide +kernel
theorem dX1_readConjunction_37 : decode cX1_readConjunction 37 = .ok (.iconst 0, 1) := by decide +kernel
theorem dX1_readConjunction_38 : decode cX1_readConjunction 38 = .ok (.invokevirtual 131, 3) := by decide +kernel
theorem dX1_readConjunction_41 : decode cX1_readConjunction 41 = .ok (.ifCond .eq 7, 3) := by decide +kernel
theorem dX1_readConjunction_44 : decode cX1_readConjunction 44 = .ok (.iconst 1, 1) := by decide +kernel
theorem dX1_readConjunction_45 : decode cX1_readConjunction 45 = .ok (.goto 4, 3) := by decide +kernel
theorem dX1_readConjunction_48 : decode cX1_readConjunction 48 = .ok (.iconst 0, 1) := by decide +kernel
theorem dX1_readConjunction_49 : decode cX1_readConjunction 49 = .ok (.istore_n 2, 1) := by decide +kernel
theorem dX1_readConjunction_50 : decode cX1_readConjunction 50 = .ok (.iinc 3 1, 3) := by decide +kernel
theorem dX1_readConjunction_53 : decode cX1_readConjunction 53 = .ok (.goto (-45), 3) := by decide +kernel
theorem dX1_readConjunction_56 : decode cX1_readConjunction 56 = .ok (.iload_n 2, 1) := by decide +kernel
theorem dX1_readConjunction_57 : decode cX1_readConjunction 57 = .ok (.ireturn, 1) := by decide +kernel
theorem dX1_readCondition_0 : decode cX1_readCondition 0 = .ok (.aload_n 0, 1) := by decide +kernel
theorem dX1_readCondition_1 : decode cX1_readCondition 1 = .ok (.aload_n 0, 1) := by decide +kernel
theorem dX1_readCondition_2 : decode cX1_readCondition 2 = .ok (.getfield 30, 3) := by decide +kernel
theorem dX1_readCondition_5 : decode cX1_readCondition 5 = .ok (.invokevirtual 94, 3) := by decide +kernel
theorem dX1_readCondition_8 : decode cX1_readCondition 8 = .ok (.lookupswitch 250 #[(33, 60), (36, 192), (40, 100), (42, 140), (94, 164), (126, 221)], 60) := by decide +kernel
theorem dX1_readCondition_68 : decode cX1_readCondition 68 = .ok (.iload_n 1, 1) := by decide +kernel
theorem dX1_readCondition_69 : decode cX1_readCondition 69 = .ok (.bipush 6, 2) := by decide +kernel
theorem dX1_readCondition_71 : decode cX1_readCondition 71 = .ok (.if_icmp .ge 35, 3) := by decide +kernel
theorem dX1_readCondition_74 : decode cX1_readCondition 74 = .ok (.aload_n 0, 1) := by decide +kernel
theorem dX1_readCondition_75 : decode cX1_readCondition 75 = .ok (.bipush 33, 2) := by decide +kernel
theorem dX1_readCondition_77 : decode cX1_readCondition 77 = .ok (.invokevirtual 115, 3) := by decide +kernel
theorem dX1_readCondition_80 : decode cX1_readCondition 80 = .ok (.ifCond .eq 26, 3) := by decide +kernel
theorem dX1_readCondition_83 : decode cX1_readCondition 83 = .ok (.aload_n 0, 1) := by decide +kernel
theorem dX1_readCondition_84 : decode cX1_readCondition 84 = .ok (.iload_n 1, 1) := by decide +kernel
theorem dX1_readCondition_85 : decode cX1_readCondition 85 = .ok (.iconst 1, 1) := by decide +kernel
theorem dX1_readCondition_86 : decode cX1_readCondition 86 = .ok (.iadd, 1) := by decide +kernel
theorem dX1_readCondition_87 : decode cX1_readCondition 87 = .ok (.invokevirtual 135, 3) := by decide +kernel
theorem dX1_readCondition_90 : decode cX1_readCondition 90 = .ok (.ifCond .eq 16, 3) := by decide +kernel
theorem dX1_readCondition_93 : decode cX1_readCondition 93 = .ok (.aload_n 0, 1) := by decide +kernel
theorem dX1_readCondition_94 : decode cX1_readCondition 94 = .ok (.iconst 1, 1) := by decide +kernel
theorem dX1_readCondition_95 : decode cX1_readCondition 95 = .ok (.iconst 0, 1) := by decide +kernel
theorem dX1_readCondition_96 : decode cX1_readCondition 96 = .ok (.invokevirtual 131, 3) := by decide +kernel
theorem dX1_readCondition_99 : decode cX1_readCondition 99 = .ok (.ifCond .eq 7, 3) := by decide +kernel
theorem dX1_readCondition_102 : decode cX1_readCondition 102 = .ok (.iconst 1, 1) := by decide +kernel
theorem dX1_readCondition_103 : decode cX1_readCondition 103 = .ok (.goto 4, 3) := by decide +kernel
theorem dX1_readCondition_106 : decode cX1_readCondition 106 = .ok (.iconst 0, 1) := by decide +kernel
theorem dX1_readCondition_107 : decode cX1_readCondition 107 = .ok (.ireturn, 1) := by decide +kernel
theorem dX1_readCondition_108 : decode cX1_readCondition 108 = .ok (.iload_n 1, 1) := by decide +kernel
theorem dX1_readCondition_109 : decode cX1_readCondition 109 = .ok (.bipush 6, 2) := by decide +kernel
theorem dX1_readCondition_111 : decode cX1_readCondition 111 = .ok (.if_icmp .ge 35, 3) := by decide +kernel
theorem dX1_readCondition_114 : decode cX1_readCondition 114 = .ok (.aload_n 0, 1) := by decide +kernel
theorem dX1_readCondition_115 : decode cX1_readCondition 115 = .ok (.bipush 40, 2) := by decide +kernel
theorem dX1_readCondition_117 : decode cX1_readCondition 117 = .ok (.invokevirtual 115, 3) := by decide +kernel
theorem dX1_readCondition_120 : decode cX1_readCondition 120 = .ok (.ifCond .eq 26, 3) := by decide +kernel
theorem dX1_readCondition_123 : decode cX1_readCondition 123 = .ok (.aload_n 0, 1) := by decide +kernel
theorem dX1_readCondition_124 : decode cX1_readCondition 124 = .ok (.iload_n 1, 1) := by decide +kernel
theorem dX1_readCondition_125 : decode cX1_readCondition 125 = .ok (.iconst 1, 1) := by decide +kernel
theorem dX1_readCondition_126 : decode cX1_readCondition 126 = .ok (.iadd, 1) := by decide +kernel
theorem dX1_readCondition_127 : decode cX1_readCondition 127 = .ok (.invokevirtual 122, 3) := by decide +kernel
theorem dX1_readCondition_130 : decode cX1_readCondition 130 = .ok (.ifCond .eq 16, 3) := by decide +kernel
theorem dX1_readCondition_133 : decode cX1_readCondition 133 = .ok (.aload_n 0, 1) := by decide +kernel
theorem dX1_readCondition_134 : decode cX1_readCondition 134 = .ok (.bipush 41, 2) := by decide +kernel
theorem dX1_readCondition_136 : decode cX1_readCondition 136 = .ok (.invokevirtual 115, 3) := by decide +kernel
theorem dX1_readCondition_139 : decode cX1_readCondition 139 = .ok (.ifCond .eq 7, 3) := by decide +kernel
theorem dX1_readCondition_142 : decode cX1_readCondition 142 = .ok (.iconst 1, 1) := by decide +kernel
theorem dX1_readCondition_143 : decode cX1_readCondition 143 = .ok (.goto 4, 3) := by decide +kernel
theorem dX1_readCondition_146 : decode cX1_readCondition 146 = .ok (.iconst 0, 1) := by decide +kernel
theorem dX1_readCondition_147 : decode cX1_readCondition 147 = .ok (.ireturn, 1) := by decide +kernel
theorem dX1_readCondition_148 : decode cX1_readCondition 148 = .ok (.aload_n 0, 1) := by decide +kernel
theorem dX1_readCondition_149 : decode cX1_readCondition 149 = .ok (.bipush 42, 2) := by decide +kernel
theorem dX1_readCondition_151 : decode cX1_readCondition 151 = .ok (.invokevirtual 115, 3) := by decide +kernel
theorem dX1_readCondition_154 : decode cX1_readCondition 154 = .ok (.ifCond .eq 16, 3) := by decide +kernel
theorem dX1_readCondition_157 : decode cX1_readCondition 157 = .ok (.aload_n 0, 1) := by decide +kernel
theorem dX1_readCondition_158 : decode cX1_readCondition 158 = .ok (.iconst 0, 1) := by decide +kernel
theorem dX1_readCondition_159 : decode cX1_readCondition 159 = .ok (.iconst 0, 1) := by decide +kernel
theorem dX1_readCondition_160 : decode cX1_readCondition 160 = .ok (.invokevirtual 131, 3) := by decide +kernel
theorem dX1_readCondition_163 : decode cX1_readCondition 163 = .ok (.ifCond .eq 7, 3) := by decide +kernel
theorem dX1_readCondition_166 : decode cX1_readCondition 166 = .ok (.iconst 1, 1) := by decide +kernel
theorem dX1_readCondition_167 : decode cX1_readCondition 167 = .ok (.goto 4, 3) := by decide +kernel
theorem dX1_readCondition_170 : decode cX1_readCondition 170 = .ok (.iconst 0, 1) := by decide +kernel
theorem dX1_readCondition_171 : decode cX1_readCondition 171 = .ok (.ireturn, 1) := by decide +kernel
theorem dX1_readCondition_172 : decode cX1_readCondition 172 = .ok (.aload_n 0, 1) := by decide +kernel
theorem dX1_readCondition_173 : decode cX1_readCondition 173 = .ok (.bipush 94, 2) := by decide +kernel
theorem dX1_readCondition_175 : decode cX1_readCondition 175 = .ok (.invokevirtual 115, 3) := by decide +kernel
theorem dX1_readCondition_178 : decode cX1_readCondition 178 = .ok (.ifCond .eq 20, 3) := by decide +kernel
theorem dX1_readCondition_181 : decode cX1_readCondition 181 = .ok (.aload_n 0, 1) := by decide +kernel
theorem dX1_readCondition_182 : decode cX1_readCondition 182 = .ok (.iconst 5, 1) := by decide +kernel
theorem dX1_readCondition_183 : decode cX1_readCondition 183 = .ok (.aload_n 0, 1) := by decide +kernel
theorem dX1_readCondition_184 : decode cX1_readCondition 184 = .ok (.iconst 3, 1) := by decide +kernel
theorem dX1_readCondition_185 : decode cX1_readCondition 185 = .ok (.invokevirtual 106, 3) := by decide +kernel
theorem dX1_readCondition_188 : decode cX1_readCondition 188 = .ok (.invokevirtual 138, 3) := by decide +kernel
theorem dX1_readCondition_191 : decode cX1_readCondition 191 = .ok (.ifCond .eq 7, 3) := by decide +kernel
theorem dX1_readCondition_194 : decode cX1_readCondition 194 = .ok (.iconst 1, 1) := by decide +kernel
theorem dX1_readCondition_195 : decode cX1_readCondition 195 = .ok (.goto 4, 3) := by decide +kernel
theorem dX1_readCondition_198 : decode cX1_readCondition 198 = .ok (.iconst 0, 1) := by decide +kernel
theorem dX1_readCondition_199 : decode cX1_readCondition 199 = .ok (.ireturn, 1) := by decide +kernel
theorem dX1_readCondition_200 : decode cX1_readCondition 200 = .ok (.aload_n 0, 1) := by decide +kernel
theorem dX1_readCondition_201 : decode cX1_readCondition 201 = .ok (.bipush 36, 2) := by decide +kernel
theorem dX1_readCondition_203 : decode cX1_readCondition 203 = .ok (.invokevirtual 115, 3) := by decide +kernel
theorem dX1_readCondition_206 : decode cX1_readCondition 206 = .ok (.ifCond .eq 21, 3) := by decide +kernel
theorem dX1_readCondition_209 : decode cX1_readCondition 209 = .ok (.aload_n 0, 1) := by decide +kernel
theorem dX1_readCondition_210 : decode cX1_readCondition 210 = .ok (.bipush 6, 2) := by decide +kernel
theorem dX1_readCondition_212 : decode cX1_readCondition 212 = .ok (.aload_n 0, 1) := by decide +kernel
theorem dX1_readCondition_213 : decode cX1_readCondition 213 = .ok (.iconst 3, 1) := by decide +kernel
theorem dX1_readCondition_214 : decode cX1_readCondition 214 = .ok (.invokevirtual 106, 3) := by decide +kernel
theorem dX1_readCondition_217 : decode cX1_readCondition 217 = .ok (.invokevirtual 138, 3) := by decide +kernel
theorem dX1_readCondition_220 : decode cX1_readCondition 220 = .ok (.ifCond .eq 7, 3) := by decide +kernel
theorem dX1_readCondition_223 : decode cX1_readCondition 223 = .ok (.iconst 1, 1) := by decide +kernel
theorem dX1_readCondition_224 : decode cX1_readCondition 224 = .ok (.goto 4, 3) := by decide +kernel
theorem dX1_readCondition_227 : decode cX1_readCondition 227 = .ok (.iconst 0, 1) := by decide +kernel
theorem dX1_readCondition_228 : decode cX1_readCondition 228 = .ok (.ireturn, 1) := by decide +kernel
theorem dX1_readCondition_229 : decode cX1_readCondition 229 = .ok (.aload_n 0, 1) := by decide +kernel
theorem dX1_readCondition_230 : decode cX1_readCondition 230 = .ok (.bipush 126, 2) := by decide +kernel
theorem dX1_readCondition_232 : decode cX1_readCondition 232 = .ok (.invokevirtual 115, 3) := by decide +kernel
theorem dX1_readCondition_235 : decode cX1_readCondition 235 = .ok (.ifCond .eq 21, 3) := by decide +kernel
theorem dX1_readCondition_238 : decode cX1_readCondition 238 = .ok (.aload_n 0, 1) := by decide +kernel
theorem dX1_readCondition_239 : decode cX1_readCondition 239 = .ok (.bipush 7, 2) := by decide +kernel
theorem dX1_readCondition_241 : decode cX1_readCondition 241 = .ok (.aload_n 0, 1) := by decide +kernel
theorem dX1_readCondition_242 : decode cX1_readCondition 242 = .ok (.iconst 3, 1) := by decide +kernel
theorem dX1_readCondition_243 : decode cX1_readCondition 243 = .ok (.invokevirtual 106, 3) := by decide +kernel
theorem dX1_readCondition_246 : decode cX1_readCondition 246 = .ok (.invokevirtual 138, 3) := by decide +kernel
theorem dX1_readCondition_249 : decode cX1_readCondition 249 = .ok (.ifCond .eq 7, 3) := by decide +kernel
theorem dX1_readCondition_252 : decode cX1_readCondition 252 = .ok (.iconst 1, 1) := by decide +kernel
theorem dX1_readCondition_253 : decode cX1_readCondition 253 = .ok (.goto 4, 3) := by decide +kernel
theorem dX1_readCondition_256 : decode cX1_readCondition 256 = .ok (.iconst 0, 1) := by decide +kernel
theorem dX1_readCondition_257 : decode cX1_readCondition 257 = .ok (.ireturn, 1) := by decide +kernel
theorem dX1_readCondition_258 : decode cX1_readCondition 258 = .ok (.aload_n 0, 1) := by decide +kernel
theorem dX1_readCondition_259 : decode cX1_readCondition 259 = .ok (.invokevirtual 141, 3) := by decide +kernel
theorem dX1_readCondition_262 : decode cX1_readCondition 262 = .ok (.ireturn, 1) := by decide +kernel
theorem dX1_addPattern_0 : decode cX1_addPattern 0 = .ok (.iload_n 2, 1) := by decide +kernel
theorem dX1_addPattern_1 : decode cX1_addPattern 1 = .ok (.ifCond .eq 16, 3) := by decide +kernel
theorem dX1_addPattern_4 : decode cX1_addPattern 4 = .ok (.aload_n 0, 1) := by decide +kernel
theorem dX1_addPattern_5 : decode cX1_addPattern 5 = .ok (.iload_n 1, 1) := by decide +kernel
theorem dX1_addPattern_6 : decode cX1_addPattern 6 = .ok (.iload_n 2, 1) := by decide +kernel
theorem dX1_addPattern_7 : decode cX1_addPattern 7 = .ok (.invokevirtual 131, 3) := by decide +kernel
theorem dX1_addPattern_10 : decode cX1_addPattern 10 = .ok (.ifCond .eq 7, 3) := by decide +kernel
theorem dX1_addPattern_13 : decode cX1_addPattern 13 = .ok (.iconst 1, 1) := by decide +kernel
theorem dX1_addPattern_14 : decode cX1_addPattern 14 = .ok (.goto 4, 3) := by decide +kernel
theorem dX1_addPattern_17 : decode cX1_addPattern 17 = .ok (.iconst 0, 1) := by decide +kernel
theorem dX1_addPattern_18 : decode cX1_addPattern 18 = .ok (.ireturn, 1) := by decide +kernel
theorem dX1_readComparison_0 : decode cX1_readComparison 0 = .ok (.aload_n 0, 1) := by decide +kernel
theorem dX1_readComparison_1 : decode cX1_readComparison 1 = .ok (.aload_n 0, 1) := by decide +kernel
theorem dX1_readComparison_2 : decode cX1_readComparison 2 = .ok (.getfield 30, 3) := by decide +kernel
theorem dX1_readComparison_5 : decode cX1_readComparison 5 = .ok (.invokevirtual 94, 3) := by decide +kernel
theorem dX1_readComparison_8 : decode cX1_readComparison 8 = .ok (.istore_n 1, 1) := by decide +kernel
theorem dX1_readComparison_9 : decode cX1_readComparison 9 = .ok (.iload_n 1, 1) := by decide +kernel
theorem dX1_readComparison_10 : decode cX1_readComparison 10 = .ok (.bipush 35, 2) := by decide +kernel
theorem dX1_readComparison_12 : decode cX1_readComparison 12 = .ok (.if_icmp .eq 17, 3) := by decide +kernel
theorem dX1_readComparison_15 : decode cX1_readComparison 15 = .ok (.iload_n 1, 1) := by decide +kernel
theorem dX1_readComparison_16 : decode cX1_readComparison 16 = .ok (.bipush 97, 2) := by decide +kernel
theorem dX1_readComparison_18 : decode cX1_readComparison 18 = .ok (.if_icmp .lt 9, 3) := by decide +kernel
theorem dX1_readComparison_21 : decode cX1_readComparison 21 = .ok (.iload_n 1, 1) := by decide +kernel
theorem dX1_readComparison_22 : decode cX1_readComparison 22 = .ok (.bipush 99, 2) := by decide +kernel
theorem dX1_readComparison_24 : decode cX1_readComparison 24 = .ok (.if_icmp .le 5, 3) := by decide +kernel
theorem dX1_readComparison_27 : decode cX1_readComparison 27 = .ok (.iconst 0, 1) := by decide +kernel
theorem dX1_readComparison_28 : decode cX1_readComparison 28 = .ok (.ireturn, 1) := by decide +kernel
theorem dX1_readComparison_29 : decode cX1_readComparison 29 = .ok (.aload_n 0, 1) := by decide +kernel
theorem dX1_readComparison_30 : decode cX1_readComparison 30 = .ok (.dup, 1) := by decide +kernel
theorem dX1_readComparison_31 : decode cX1_readComparison 31 = .ok (.getfield 30, 3) := by decide +kernel
theorem dX1_readComparison_34 : decode cX1_readComparison 34 = .ok (.iconst 1, 1) := by decide +kernel
theorem dX1_readComparison_35 : decode cX1_readComparison 35 = .ok (.iadd, 1) := by decide +kernel
theorem dX1_readComparison_36 : decode cX1_readComparison 36 = .ok (.putfield 30, 3) := by decide +kernel
theorem dX1_readComparison_39 : decode cX1_readComparison 39 = .ok (.aload_n 0, 1) := by decide +kernel
theorem dX1_readComparison_40 : decode cX1_readComparison 40 = .ok (.aload_n 0, 1) := by decide +kernel
theorem dX1_readComparison_41 : decode cX1_readComparison 41 = .ok (.getfield 30, 3) := by decide +kernel
theorem dX1_readComparison_44 : decode cX1_readComparison 44 = .ok (.invokevirtual 94, 3) := by decide +kernel
theorem dX1_readComparison_47 : decode cX1_readComparison 47 = .ok (.istore_n 2, 1) := by decide +kernel
theorem dX1_readComparison_48 : decode cX1_readComparison 48 = .ok (.iload_n 2, 1) := by decide +kernel
theorem dX1_readComparison_49 : decode cX1_readComparison 49 = .ok (.bipush 60, 2) := by decide +kernel
theorem dX1_readComparison_51 : decode cX1_readComparison 51 = .ok (.if_icmp .lt 9, 3) := by decide +kernel
theorem dX1_readComparison_54 : decode cX1_readComparison 54 = .ok (.iload_n 2, 1) := by decide +kernel
theorem dX1_readComparison_55 : decode cX1_readComparison 55 = .ok (.bipush 62, 2) := by decide +kernel
theorem dX1_readComparison_57 : decode cX1_readComparison 57 = .ok (.if_icmp .le 5, 3) := by decide +kernel
theorem dX1_readComparison_60 : decode cX1_readComparison 60 = .ok (.iconst 0, 1) := by decide +kernel
theorem dX1_readComparison_61 : decode cX1_readComparison 61 = .ok (.ireturn, 1) := by decide +kernel
theorem dX1_readComparison_62 : decode cX1_readComparison 62 = .ok (.aload_n 0, 1) := by decide +kernel
theorem dX1_readComparison_63 : decode cX1_readComparison 63 = .ok (.dup, 1) := by decide +kernel
theorem dX1_readComparison_64 : decode cX1_readComparison 64 = .ok (.getfield 30, 3) := by decide +kernel
theorem dX1_readComparison_67 : decode cX1_readComparison 67 = .ok (.iconst 1, 1) := by decide +kernel
theorem dX1_readComparison_68 : decode cX1_readComparison 68 = .ok (.iadd, 1) := by decide +kernel
theorem dX1_readComparison_69 : decode cX1_readComparison 69 = .ok (.putfield 30, 3) := by decide +kernel
theorem dX1_readComparison_72 : decode cX1_readComparison 72 = .ok (.aload_n 0, 1) := by decide +kernel
theorem dX1_readComparison_73 : decode cX1_readComparison 73 = .ok (.aload_n 0, 1) := by decide +kernel
theorem dX1_readComparison_74 : decode cX1_readComparison 74 = .ok (.getfield 30, 3) := by decide +kernel
theorem dX1_readComparison_77 : decode cX1_readComparison 77 = .ok (.invokevirtual 94, 3) := by decide +kernel
theorem dX1_readComparison_80 : decode cX1_readComparison 80 = .ok (.istore_n 3, 1) := by decide +kernel
theorem dX1_readComparison_81 : decode cX1_readComparison 81 = .ok (.iload_n 3, 1) := by decide +kernel
theorem dX1_readComparison_82 : decode cX1_readComparison 82 = .ok (.bipush 48, 2) := by decide +kernel
theorem dX1_readComparison_84 : decode cX1_readComparison 84 = .ok (.if_icmp .lt 9, 3) := by decide +kernel
theorem dX1_readComparison_87 : decode cX1_readComparison 87 = .ok (.iload_n 3, 1) := by decide +kernel
theorem dX1_readComparison_88 : decode cX1_readComparison 88 = .ok (.bipush 57, 2) := by decide +kernel
theorem dX1_readComparison_90 : decode cX1_readComparison 90 = .ok (.if_icmp .le 5, 3) := by decide +kernel
theorem dX1_readComparison_93 : decode cX1_readComparison 93 = .ok (.iconst 0, 1) := by decide +kernel
theorem dX1_readComparison_94 : decode cX1_readComparison 94 = .ok (.ireturn, 1) := by decide +kernel
theorem dX1_readComparison_95 : decode cX1_readComparison 95 = .ok (.aload_n 0, 1) := by decide +kernel
theorem dX1_readComparison_96 : decode cX1_readComparison 96 = .ok (.dup, 1) := by decide +kernel
theorem dX1_readComparison_97 : decode cX1_readComparison 97 = .ok (.getfield 30, 3) := by decide +kernel
theorem dX1_readComparison_100 : decode cX1_readComparison 100 = .ok (.iconst 1, 1) := by decide +kernel
theorem dX1_readComparison_101 : decode cX1_readComparison 101 = .ok (.iadd, 1) := by decide +kernel
theorem dX1_readComparison_102 : decode cX1_readComparison 102 = .ok (.putfield 30, 3) := by decide +kernel
theorem dX1_readComparison_105 : decode cX1_readComparison 105 = .ok (.iload_n 1, 1) := by decide +kernel
theorem dX1_readComparison_106 : decode cX1_readComparison 106 = .ok (.bipush 35, 2) := by decide +kernel
theorem dX1_readComparison_108 : decode cX1_readComparison 108 = .ok (.if_icmp .ne 7, 3) := by decide +kernel
theorem dX1_readComparison_111 : decode cX1_readComparison 111 = .ok (.iconst 3, 1) := by decide +kernel
theorem dX1_readComparison_112 : decode cX1_readComparison 112 = .ok (.goto 7, 3) := by decide +kernel
theorem dX1_readComparison_115 : decode cX1_readComparison 115 = .ok (.iload_n 1, 1) := by decide +kernel
theorem dX1_readComparison_116 : decode cX1_readComparison 116 = .ok (.bipush 97, 2) := by decide +kernel
theorem dX1_readComparison_118 : decode cX1_readComparison 118 = .ok (.isub, 1) := by decide +kernel
theorem dX1_readComparison_119 : decode cX1_readComparison 119 = .ok (.istore 4, 2) := by decide +kernel
theorem dX1_readComparison_121 : decode cX1_readComparison 121 = .ok (.aload_n 0, 1) := by decide +kernel
theorem dX1_readComparison_122 : decode cX1_readComparison 122 = .ok (.iconst 4, 1) := by decide +kernel
theorem dX1_readComparison_123 : decode cX1_readComparison 123 = .ok (.iload 4, 2) := by decide +kernel
theorem dX1_readComparison_125 : decode cX1_readComparison 125 = .ok (.iconst 3, 1) := by decide +kernel
theorem dX1_readComparison_126 : decode cX1_readComparison 126 = .ok (.imul, 1) := by decide +kernel
theorem dX1_readComparison_127 : decode cX1_readComparison 127 = .ok (.iload_n 2, 1) := by decide +kernel
theorem dX1_readComparison_128 : decode cX1_readComparison 128 = .ok (.bipush 60, 2) := by decide +kernel
theorem dX1_readComparison_130 : decode cX1_readComparison 130 = .ok (.isub, 1) := by decide +kernel
theorem dX1_readComparison_131 : decode cX1_readComparison 131 = .ok (.iadd, 1) := by decide +kernel
theorem dX1_readComparison_132 : decode cX1_readComparison 132 = .ok (.bipush 10, 2) := by decide +kernel
theorem dX1_readComparison_134 : decode cX1_readComparison 134 = .ok (.imul, 1) := by decide +kernel
theorem dX1_readComparison_135 : decode cX1_readComparison 135 = .ok (.iload_n 3, 1) := by decide +kernel
theorem dX1_readComparison_136 : decode cX1_readComparison 136 = .ok (.bipush 48, 2) := by decide +kernel
theorem dX1_readComparison_138 : decode cX1_readComparison 138 = .ok (.isub, 1) := by decide +kernel
theorem dX1_readComparison_139 : decode cX1_readComparison 139 = .ok (.iadd, 1) := by decide +kernel
theorem dX1_readComparison_140 : decode cX1_readComparison 140 = .ok (.invokevirtual 131, 3) := by decide +kernel
theorem dX1_readComparison_143 : decode cX1_readComparison 143 = .ok (.ireturn, 1) := by decide +kernel
theorem dX1_addStep_0 : decode cX1_addStep 0 = .ok (.aload_n 0, 1) := by decide +kernel
theorem dX1_addStep_1 : decode cX1_addStep 1 = .ok (.getfield 21, 3) := by decide +kernel
theorem dX1_addStep_4 : decode cX1_addStep 4 = .ok (.ifCond .lt 15, 3) := by decide +kernel
theorem dX1_addStep_7 : decode cX1_addStep 7 = .ok (.aload_n 0, 1) := by decide +kernel
theorem dX1_addStep_8 : decode cX1_addStep 8 = .ok (.getfield 21, 3) := by decide +kernel
theorem dX1_addStep_11 : decode cX1_addStep 11 = .ok (.aload_n 0, 1) := by decide +kernel
theorem dX1_addStep_12 : decode cX1_addStep 12 = .ok (.getfield 13, 3) := by decide +kernel
theorem dX1_addStep_15 : decode cX1_addStep 15 = .ok (.arraylength, 1) := by decide +kernel
theorem dX1_addStep_16 : decode cX1_addStep 16 = .ok (.if_icmp .lt 5, 3) := by decide +kernel
theorem dX1_addStep_19 : decode cX1_addStep 19 = .ok (.iconst 0, 1) := by decide +kernel
theorem dX1_addStep_20 : decode cX1_addStep 20 = .ok (.ireturn, 1) := by decide +kernel
theorem dX1_addStep_21 : decode cX1_addStep 21 = .ok (.aload_n 0, 1) := by decide +kernel
theorem dX1_addStep_22 : decode cX1_addStep 22 = .ok (.getfield 13, 3) := by decide +kernel
theorem dX1_addStep_25 : decode cX1_addStep 25 = .ok (.aload_n 0, 1) := by decide +kernel
theorem dX1_addStep_26 : decode cX1_addStep 26 = .ok (.getfield 21, 3) := by decide +kernel
theorem dX1_addStep_29 : decode cX1_addStep 29 = .ok (.iload_n 2, 1) := by decide +kernel
theorem dX1_addStep_30 : decode cX1_addStep 30 = .ok (.iconst 3, 1) := by decide +kernel
theorem dX1_addStep_31 : decode cX1_addStep 31 = .ok (.ishl, 1) := by decide +kernel
theorem dX1_addStep_32 : decode cX1_addStep 32 = .ok (.iload_n 1, 1) := by decide +kernel
theorem dX1_addStep_33 : decode cX1_addStep 33 = .ok (.ior, 1) := by decide +kernel
theorem dX1_addStep_34 : decode cX1_addStep 34 = .ok (.iastore, 1) := by decide +kernel
theorem dX1_addStep_35 : decode cX1_addStep 35 = .ok (.aload_n 0, 1) := by decide +kernel
theorem dX1_addStep_36 : decode cX1_addStep 36 = .ok (.dup, 1) := by decide +kernel
theorem dX1_addStep_37 : decode cX1_addStep 37 = .ok (.getfield 21, 3) := by decide +kernel
theorem dX1_addStep_40 : decode cX1_addStep 40 = .ok (.iconst 1, 1) := by decide +kernel
theorem dX1_addStep_41 : decode cX1_addStep 41 = .ok (.iadd, 1) := by decide +kernel
theorem dX1_addStep_42 : decode cX1_addStep 42 = .ok (.putfield 21, 3) := by decide +kernel
theorem dX1_addStep_45 : decode cX1_addStep 45 = .ok (.iconst 1, 1) := by decide +kernel
theorem dX1_addStep_46 : decode cX1_addStep 46 = .ok (.ireturn, 1) := by decide +kernel
theorem dX2_init_0 : decode cX2_init 0 = .ok (.aload_n 0, 1) := by decide +kernel
theorem dX2_init_1 : decode cX2_init 1 = .ok (.invokespecial 3, 3) := by decide +kernel
theorem dX2_init_4 : decode cX2_init 4 = .ok (.aload_n 0, 1) := by decide +kernel
theorem dX2_init_5 : decode cX2_init 5 = .ok (.bipush 6, 2) := by decide +kernel
theorem dX2_init_7 : decode cX2_init 7 = .ok (.newarray .int, 2) := by decide +kernel
theorem dX2_init_9 : decode cX2_init 9 = .ok (.putfield 9, 3) := by decide +kernel
theorem dX2_init_12 : decode cX2_init 12 = .ok (.aload_n 0, 1) := by decide +kernel
theorem dX2_init_13 : decode cX2_init 13 = .ok (.iconst 5, 1) := by decide +kernel
theorem dX2_init_14 : decode cX2_init 14 = .ok (.anewarray 13, 3) := by decide +kernel
theorem dX2_init_17 : decode cX2_init 17 = .ok (.putfield 15, 3) := by decide +kernel
theorem dX2_init_20 : decode cX2_init 20 = .ok (.aload_n 0, 1) := by decide +kernel
theorem dX2_init_21 : decode cX2_init 21 = .ok (.iconst 1, 1) := by decide +kernel
theorem dX2_init_22 : decode cX2_init 22 = .ok (.putfield 19, 3) := by decide +kernel
theorem dX2_init_25 : decode cX2_init 25 = .ok (.aload_n 0, 1) := by decide +kernel
theorem dX2_init_26 : decode cX2_init 26 = .ok (.bipush 6, 2) := by decide +kernel
theorem dX2_init_28 : decode cX2_init 28 = .ok (.putfield 23, 3) := by decide +kernel
theorem dX2_init_31 : decode cX2_init 31 = .ok (.return_, 1) := by decide +kernel
theorem dX2_copyFrom_0 : decode cX2_copyFrom 0 = .ok (.aload_n 1, 1) := by decide +kernel
theorem dX2_copyFrom_1 : decode cX2_copyFrom 1 = .ok (.getfield 9, 3) := by decide +kernel
theorem dX2_copyFrom_4 : decode cX2_copyFrom 4 = .ok (.iconst 0, 1) := by decide +kernel
theorem dX2_copyFrom_5 : decode cX2_copyFrom 5 = .ok (.aload_n 0, 1) := by decide +kernel
theorem dX2_copyFrom_6 : decode cX2_copyFrom 6 = .ok (.getfield 9, 3) := by decide +kernel
theorem dX2_copyFrom_9 : decode cX2_copyFrom 9 = .ok (.iconst 0, 1) := by decide +kernel
theorem dX2_copyFrom_10 : decode cX2_copyFrom 10 = .ok (.bipush 6, 2) := by decide +kernel
theorem dX2_copyFrom_12 : decode cX2_copyFrom 12 = .ok (.invokestatic 26, 3) := by decide +kernel
theorem dX2_copyFrom_15 : decode cX2_copyFrom 15 = .ok (.iconst 0, 1) := by decide +kernel
theorem dX2_copyFrom_16 : decode cX2_copyFrom 16 = .ok (.istore_n 2, 1) := by decide +kernel
theorem dX2_copyFrom_17 : decode cX2_copyFrom 17 = .ok (.iload_n 2, 1) := by decide +kernel
theorem dX2_copyFrom_18 : decode cX2_copyFrom 18 = .ok (.aload_n 0, 1) := by decide +kernel
theorem dX2_copyFrom_19 : decode cX2_copyFrom 19 = .ok (.getfield 15, 3) := by decide +kernel
theorem dX2_copyFrom_22 : decode cX2_copyFrom 22 = .ok (.arraylength, 1) := by decide +kernel
theorem dX2_copyFrom_23 : decode cX2_copyFrom 23 = .ok (.if_icmp .ge 30, 3) := by decide +kernel
theorem dX2_copyFrom_26 : decode cX2_copyFrom 26 = .ok (.iload_n 2, 1) := by decide +kernel
theorem dX2_copyFrom_27 : decode cX2_copyFrom 27 = .ok (.aload_n 1, 1) := by decide +kernel
theorem dX2_copyFrom_28 : decode cX2_copyFrom 28 = .ok (.getfield 15, 3) := by decide +kernel
theorem dX2_copyFrom_31 : decode cX2_copyFrom 31 = .ok (.arraylength, 1) := by decide +kernel
theorem dX2_copyFrom_32 : decode cX2_copyFrom 32 = .ok (.if_icmp .ge 21, 3) := by decide +kernel
theorem dX2_copyFrom_35 : decode cX2_copyFrom 35 = .ok (.aload_n 0, 1) := by decide +kernel
theorem dX2_copyFrom_36 : decode cX2_copyFrom 36 = .ok (.getfield 15, 3) := by decide +kernel
theorem dX2_copyFrom_39 : decode cX2_copyFrom 39 = .ok (.iload_n 2, 1) := by decide +kernel
theorem dX2_copyFrom_40 : decode cX2_copyFrom 40 = .ok (.aload_n 1, 1) := by decide +kernel
theorem dX2_copyFrom_41 : decode cX2_copyFrom 41 = .ok (.getfield 15, 3) := by decide +kernel
theorem dX2_copyFrom_44 : decode cX2_copyFrom 44 = .ok (.iload_n 2, 1) := by decide +kernel
theorem dX2_copyFrom_45 : decode cX2_copyFrom 45 = .ok (.aaload, 1) := by decide +kernel
theorem dX2_copyFrom_46 : decode cX2_copyFrom 46 = .ok (.aastore, 1) := by decide +kernel
theorem dX2_copyFrom_47 : decode cX2_copyFrom 47 = .ok (.iinc 2 1, 3) := by decide +kernel
theorem dX2_copyFrom_50 : decode cX2_copyFrom 50 = .ok (.goto (-33), 3) := by decide +kernel
theorem dX2_copyFrom_53 : decode cX2_copyFrom 53 = .ok (.aload_n 0, 1) := by decide +kernel
theorem dX2_copyFrom_54 : decode cX2_copyFrom 54 = .ok (.aload_n 1, 1) := by decide +kernel
theorem dX2_copyFrom_55 : decode cX2_copyFrom 55 = .ok (.getfield 32, 3) := by decide +kernel
theorem dX2_copyFrom_58 : decode cX2_copyFrom 58 = .ok (.putfield 32, 3) := by decide +kernel
theorem dX2_copyFrom_61 : decode cX2_copyFrom 61 = .ok (.aload_n 0, 1) := by decide +kernel
theorem dX2_copyFrom_62 : decode cX2_copyFrom 62 = .ok (.aload_n 1, 1) := by decide +kernel
theorem dX2_copyFrom_63 : decode cX2_copyFrom 63 = .ok (.getfield 35, 3) := by decide +kernel
theorem dX2_copyFrom_66 : decode cX2_copyFrom 66 = .ok (.putfield 35, 3) := by decide +kernel
theorem dX2_copyFrom_69 : decode cX2_copyFrom 69 = .ok (.aload_n 0, 1) := by decide +kernel
theorem dX2_copyFrom_70 : decode cX2_copyFrom 70 = .ok (.aload_n 1, 1) := by decide +kernel
theorem dX2_copyFrom_71 : decode cX2_copyFrom 71 = .ok (.getfield 19, 3) := by decide +kernel
theorem dX2_copyFrom_74 : decode cX2_copyFrom 74 = .ok (.putfield 19, 3) := by decide +kernel
theorem dX2_copyFrom_77 : decode cX2_copyFrom 77 = .ok (.aload_n 0, 1) := by decide +kernel
theorem dX2_copyFrom_78 : decode cX2_copyFrom 78 = .ok (.aload_n 1, 1) := by decide +kernel
theorem dX2_copyFrom_79 : decode cX2_copyFrom 79 = .ok (.getfield 23, 3) := by decide +kernel
theorem dX2_copyFrom_82 : decode cX2_copyFrom 82 = .ok (.putfield 23, 3) := by decide +kernel
theorem dX2_copyFrom_85 : decode cX2_copyFrom 85 = .ok (.return_, 1) := by decide +kernel
theorem dX2_axiom_0 : decode cX2_axiom 0 = .ok (.aload_n 0, 1) := by decide +kernel
theorem dX2_axiom_1 : decode cX2_axiom 1 = .ok (.getfield 9, 3) := by decide +kernel
theorem dX2_axiom_4 : decode cX2_axiom 4 = .ok (.iload_n 1, 1) := by decide +kernel
theorem dX2_axiom_5 : decode cX2_axiom 5 = .ok (.invokestatic 38, 3) := by decide +kernel
theorem dX2_axiom_8 : decode cX2_axiom 8 = .ok (.ireturn, 1) := by decide +kernel
theorem dX2_hasAxiom_0 : decode cX2_hasAxiom 0 = .ok (.iconst 0, 1) := by decide +kernel
theorem dX2_hasAxiom_1 : decode cX2_hasAxiom 1 = .ok (.istore_n 2, 1) := by decide +kernel
theorem dX2_hasAxiom_2 : decode cX2_hasAxiom 2 = .ok (.iload_n 2, 1) := by decide +kernel
theorem dX2_hasAxiom_3 : decode cX2_hasAxiom 3 = .ok (.aload_n 0, 1) := by decide +kernel
theorem dX2_hasAxiom_4 : decode cX2_hasAxiom 4 = .ok (.getfield 32, 3) := by decide +kernel
theorem dX2_hasAxiom_7 : decode cX2_hasAxiom 7 = .ok (.if_icmp .ge 20, 3) := by decide +kernel
theorem dX2_hasAxiom_10 : decode cX2_hasAxiom 10 = .ok (.aload_n 0, 1) := by decide +kernel
theorem dX2_hasAxiom_11 : decode cX2_hasAxiom 11 = .ok (.iload_n 2, 1) := by decide +kernel
theorem dX2_hasAxiom_12 : decode cX2_hasAxiom 12 = .ok (.invokevirtual 44, 3) := by decide +kernel
theorem dX2_hasAxiom_15 : decode cX2_hasAxiom 15 = .ok (.iload_n 1, 1) := by decide +kernel
theorem dX2_hasAxiom_16 : decode cX2_hasAxiom 16 = .ok (.if_icmp .ne 5, 3) := by decide +kernel
theorem dX2_hasAxiom_19 : decode cX2_hasAxiom 19 = .ok (.iconst 1, 1) := by decide +kernel
theorem dX2_hasAxiom_20 : decode cX2_hasAxiom 20 = .ok (.ireturn, 1) := by decide +kernel
theorem dX2_hasAxiom_21 : decode cX2_hasAxiom 21 = .ok (.iinc 2 1, 3) := by decide +kernel
theorem dX2_hasAxiom_24 : decode cX2_hasAxiom 24 = .ok (.goto (-22), 3) := by decide +kernel
theorem dX2_hasAxiom_27 : decode cX2_hasAxiom 27 = .ok (.iconst 0, 1) := by decide +kernel
theorem dX2_hasAxiom_28 : decode cX2_hasAxiom 28 = .ok (.ireturn, 1) := by decide +kernel
theorem dX2_putAxiom_0 : decode cX2_putAxiom 0 = .ok (.aload_n 0, 1) := by decide +kernel
theorem dX2_putAxiom_1 : decode cX2_putAxiom 1 = .ok (.getfield 9, 3) := by decide +kernel
theorem dX2_putAxiom_4 : decode cX2_putAxiom 4 = .ok (.aload_n 0, 1) := by decide +kernel
theorem dX2_putAxiom_5 : decode cX2_putAxiom 5 = .ok (.getfield 32, 3) := by decide +kernel
theorem dX2_putAxiom_8 : decode cX2_putAxiom 8 = .ok (.iload_n 1, 1) := by decide +kernel
theorem dX2_putAxiom_9 : decode cX2_putAxiom 9 = .ok (.invokestatic 48, 3) := by decide +kernel
theorem dX2_putAxiom_12 : decode cX2_putAxiom 12 = .ok (.aload_n 0, 1) := by decide +kernel
theorem dX2_putAxiom_13 : decode cX2_putAxiom 13 = .ok (.dup, 1) := by decide +kernel
theorem dX2_putAxiom_14 : decode cX2_putAxiom 14 = .ok (.getfield 32, 3) := by decide +kernel
theorem dX2_putAxiom_17 : decode cX2_putAxiom 17 = .ok (.iconst 1, 1) := by decide +kernel
theorem dX2_putAxiom_18 : decode cX2_putAxiom 18 = .ok (.iadd, 1) := by decide +kernel
theorem dX2_putAxiom_19 : decode cX2_putAxiom 19 = .ok (.putfield 32, 3) := by decide +kernel
theorem dX2_putAxiom_22 : decode cX2_putAxiom 22 = .ok (.return_, 1) := by decide +kernel
theorem dX2_dropAxiom_0 : decode cX2_dropAxiom 0 = .ok (.iload_n 1, 1) := by decide +kernel
theorem dX2_dropAxiom_1 : decode cX2_dropAxiom 1 = .ok (.iconst 1, 1) := by decide +kernel
theorem dX2_dropAxiom_2 : decode cX2_dropAxiom 2 = .ok (.iadd, 1) := by decide +kernel
theorem dX2_dropAxiom_3 : decode cX2_dropAxiom 3 = .ok (.istore_n 2, 1) := by decide +kernel
theorem dX2_dropAxiom_4 : decode cX2_dropAxiom 4 = .ok (.iload_n 2, 1) := by decide +kernel
theorem dX2_dropAxiom_5 : decode cX2_dropAxiom 5 = .ok (.aload_n 0, 1) := by decide +kernel
theorem dX2_dropAxiom_6 : decode cX2_dropAxiom 6 = .ok (.getfield 32, 3) := by decide +kernel
theorem dX2_dropAxiom_9 : decode cX2_dropAxiom 9 = .ok (.if_icmp .ge 24, 3) := by decide +kernel
theorem dX2_dropAxiom_12 : decode cX2_dropAxiom 12 = .ok (.aload_n 0, 1) := by decide +kernel
theorem dX2_dropAxiom_13 : decode cX2_dropAxiom 13 = .ok (.getfield 9, 3) := by decide +kernel
theorem dX2_dropAxiom_16 : decode cX2_dropAxiom 16 = .ok (.iload_n 2, 1) := by decide +kernel
theorem dX2_dropAxiom_17 : decode cX2_dropAxiom 17 = .ok (.iconst 1, 1) := by decide +kernel
theorem dX2_dropAxiom_18 : decode cX2_dropAxiom 18 = .ok (.isub, 1) := by decide +kernel
theorem dX2_dropAxiom_19 : decode cX2_dropAxiom 19 = .ok (.aload_n 0, 1) := by decide +kernel
theorem dX2_dropAxiom_20 : decode cX2_dropAxiom 20 = .ok (.iload_n 2, 1) := by decide +kernel
theorem dX2_dropAxiom_21 : decode cX2_dropAxiom 21 = .ok (.invokevirtual 44, 3) := by decide +kernel
theorem dX2_dropAxiom_24 : decode cX2_dropAxiom 24 = .ok (.invokestatic 48, 3) := by decide +kernel
theorem dX2_dropAxiom_27 : decode cX2_dropAxiom 27 = .ok (.iinc 2 1, 3) := by decide +kernel
theorem dX2_dropAxiom_30 : decode cX2_dropAxiom 30 = .ok (.goto (-26), 3) := by decide +kernel
theorem dX2_dropAxiom_33 : decode cX2_dropAxiom 33 = .ok (.aload_n 0, 1) := by decide +kernel
theorem dX2_dropAxiom_34 : decode cX2_dropAxiom 34 = .ok (.dup, 1) := by decide +kernel
theorem dX2_dropAxiom_35 : decode cX2_dropAxiom 35 = .ok (.getfield 32, 3) := by decide +kernel
theorem dX2_dropAxiom_38 : decode cX2_dropAxiom 38 = .ok (.iconst 1, 1) := by decide +kernel
theorem dX2_dropAxiom_39 : decode cX2_dropAxiom 39 = .ok (.isub, 1) := by decide +kernel
theorem dX2_dropAxiom_40 : decode cX2_dropAxiom 40 = .ok (.putfield 32, 3) := by decide +kernel
theorem dX2_dropAxiom_43 : decode cX2_dropAxiom 43 = .ok (.return_, 1) := by decide +kernel
theorem dX2_context_0 : decode cX2_context 0 = .ok (.iload_n 1, 1) := by decide +kernel
theorem dX2_context_1 : decode cX2_context 1 = .ok (.ifCond .lt 12, 3) := by decide +kernel
theorem dX2_context_4 : decode cX2_context 4 = .ok (.iload_n 1, 1) := by decide +kernel
theorem dX2_context_5 : decode cX2_context 5 = .ok (.aload_n 0, 1) := by decide +kernel
theorem dX2_context_6 : decode cX2_context 6 = .ok (.getfield 15, 3) := by decide +kernel
theorem dX2_context_9 : decode cX2_context 9 = .ok (.arraylength, 1) := by decide +kernel
theorem dX2_context_10 : decode cX2_context 10 = .ok (.if_icmp .lt 7, 3) := by decide +kernel
theorem dX2_context_13 : decode cX2_context 13 = .ok (.aconst_null, 1) := by decide +kernel
theorem dX2_context_14 : decode cX2_context 14 = .ok (.goto 9, 3) := by decide +kernel
theorem dX2_context_17 : decode cX2_context 17 = .ok (.aload_n 0, 1) := by decide +kernel
theorem dX2_context_18 : decode cX2_context 18 = .ok (.getfield 15, 3) := by decide +kernel
theorem dX2_context_21 : decode cX2_context 21 = .ok (.iload_n 1, 1) := by decide +kernel
theorem dX2_context_22 : decode cX2_context 22 = .ok (.aaload, 1) := by decide +kernel
theorem dX2_context_23 : decode cX2_context 23 = .ok (.areturn, 1) := by decide +kernel
theorem dX2_allContexts_0 : decode cX2_allContexts 0 = .ok (.iconst 1, 1) := by decide +kernel
theorem dX2_allContexts_1 : decode cX2_allContexts 1 = .ok (.aload_n 0, 1) := by decide +kernel
theorem dX2_allContexts_2 : decode cX2_allContexts 2 = .ok (.getfield 35, 3) := by decide +kernel
theorem dX2_allContexts_5 : decode cX2_allContexts 5 = .ok (.ishl, 1) := by decide +kernel
theorem dX2_allContexts_6 : decode cX2_allContexts 6 = .ok (.iconst 1, 1) := by decide +kernel
theorem dX2_allContexts_7 : decode cX2_allContexts 7 = .ok (.isub, 1) := by decide +kernel
theorem dX2_allContexts_8 : decode cX2_allContexts 8 = .ok (.ireturn, 1) := by decide +kernel
theorem dX2_putContext_0 : decode cX2_putContext 0 = .ok (.aload_n 0, 1) := by decide +kernel
theorem dX2_putContext_1 : decode cX2_putContext 1 = .ok (.getfield 35, 3) := by decide +kernel
theorem dX2_putContext_4 : decode cX2_putContext 4 = .ok (.ifCond .lt 35, 3) := by decide +kernel
theorem dX2_putContext_7 : decode cX2_putContext 7 = .ok (.aload_n 0, 1) := by decide +kernel
theorem dX2_putContext_8 : decode cX2_putContext 8 = .ok (.getfield 35, 3) := by decide +kernel
theorem dX2_putContext_11 : decode cX2_putContext 11 = .ok (.aload_n 0, 1) := by decide +kernel
theorem dX2_putContext_12 : decode cX2_putContext 12 = .ok (.getfield 15, 3) := by decide +kernel
theorem dX2_putContext_15 : decode cX2_putContext 15 = .ok (.arraylength, 1) := by decide +kernel
theorem dX2_putContext_16 : decode cX2_putContext 16 = .ok (.if_icmp .ge 23, 3) := by decide +kernel
theorem dX2_putContext_19 : decode cX2_putContext 19 = .ok (.aload_n 0, 1) := by decide +kernel
theorem dX2_putContext_20 : decode cX2_putContext 20 = .ok (.getfield 15, 3) := by decide +kernel
theorem dX2_putContext_23 : decode cX2_putContext 23 = .ok (.aload_n 0, 1) := by decide +kernel
theorem dX2_putContext_24 : decode cX2_putContext 24 = .ok (.getfield 35, 3) := by decide +kernel
theorem dX2_putContext_27 : decode cX2_putContext 27 = .ok (.aload_n 1, 1) := by decide +kernel
theorem dX2_putContext_28 : decode cX2_putContext 28 = .ok (.aastore, 1) := by decide +kernel
theorem dX2_putContext_29 : decode cX2_putContext 29 = .ok (.aload_n 0, 1) := by decide +kernel
theorem dX2_putContext_30 : decode cX2_putContext 30 = .ok (.dup, 1) := by decide +kernel
theorem dX2_putContext_31 : decode cX2_putContext 31 = .ok (.getfield 35, 3) := by decide +kernel
theorem dX2_putContext_34 : decode cX2_putContext 34 = .ok (.iconst 1, 1) := by decide +kernel
theorem dX2_putContext_35 : decode cX2_putContext 35 = .ok (.iadd, 1) := by decide +kernel
theorem dX2_putContext_36 : decode cX2_putContext 36 = .ok (.putfield 35, 3) := by decide +kernel
theorem dX2_putContext_39 : decode cX2_putContext 39 = .ok (.return_, 1) := by decide +kernel
theorem dX2_dropContext_0 : decode cX2_dropContext 0 = .ok (.iload_n 1, 1) := by decide +kernel
theorem dX2_dropContext_1 : decode cX2_dropContext 1 = .ok (.istore_n 2, 1) := by decide +kernel
theorem dX2_dropContext_2 : decode cX2_dropContext 2 = .ok (.iload_n 2, 1) := by decide +kernel
theorem dX2_dropContext_3 : decode cX2_dropContext 3 = .ok (.ifCond .lt 31, 3) := by decide +kernel
theorem dX2_dropContext_6 : decode cX2_dropContext 6 = .ok (.iload_n 2, 1) := by decide +kernel
theorem dX2_dropContext_7 : decode cX2_dropContext 7 = .ok (.aload_n 0, 1) := by decide +kernel
theorem dX2_dropContext_8 : decode cX2_dropContext 8 = .ok (.getfield 15, 3) := by decide +kernel
theorem dX2_dropContext_11 : decode cX2_dropContext 11 = .ok (.arraylength, 1) := by decide +kernel
theorem dX2_dropContext_12 : decode cX2_dropContext 12 = .ok (.if_icmp .ge 22, 3) := by decide +kernel
theorem dX2_dropContext_15 : decode cX2_dropContext 15 = .ok (.aload_n 0, 1) := by decide +kernel
theorem dX2_dropContext_16 : decode cX2_dropContext 16 = .ok (.getfield 15, 3) := by decide +kernel
theorem dX2_dropContext_19 : decode cX2_dropContext 19 = .ok (.iload_n 2, 1) := by decide +kernel
theorem dX2_dropContext_20 : decode cX2_dropContext 20 = .ok (.aload_n 0, 1) := by decide +kernel
theorem dX2_dropContext_21 : decode cX2_dropContext 21 = .ok (.iload_n 2, 1) := by decide +kernel
theorem dX2_dropContext_22 : decode cX2_dropContext 22 = .ok (.iconst 1, 1) := by decide +kernel
theorem dX2_dropContext_23 : decode cX2_dropContext 23 = .ok (.iadd, 1) := by decide +kernel
theorem dX2_dropContext_24 : decode cX2_dropContext 24 = .ok (.invokevirtual 52, 3) := by decide +kernel
theorem dX2_dropContext_27 : decode cX2_dropContext 27 = .ok (.aastore, 1) := by decide +kernel
theorem dX2_dropContext_28 : decode cX2_dropContext 28 = .ok (.iinc 2 1, 3) := by decide +kernel
theorem dX2_dropContext_31 : decode cX2_dropContext 31 = .ok (.goto (-29), 3) := by decide +kernel
theorem dX2_dropContext_34 : decode cX2_dropContext 34 = .ok (.aload_n 0, 1) := by decide +kernel
theorem dX2_dropContext_35 : decode cX2_dropContext 35 = .ok (.dup, 1) := by decide +kernel
theorem dX2_dropContext_36 : decode cX2_dropContext 36 = .ok (.getfield 35, 3) := by decide +kernel
theorem dX2_dropContext_39 : decode cX2_dropContext 39 = .ok (.iconst 1, 1) := by decide +kernel
theorem dX2_dropContext_40 : decode cX2_dropContext 40 = .ok (.isub, 1) := by decide +kernel
theorem dX2_dropContext_41 : decode cX2_dropContext 41 = .ok (.putfield 35, 3) := by decide +kernel
theorem dX2_dropContext_44 : decode cX2_dropContext 44 = .ok (.return_, 1) := by decide +kernel
theorem dX2_findInsertions_0 : decode cX2_findInsertions 0 = .ok (.iload_n 1, 1) := by decide +kernel
theorem dX2_findInsertions_1 : decode cX2_findInsertions 1 = .ok (.invokestatic 56, 3) := by decide +kernel
theorem dX2_findInsertions_4 : decode cX2_findInsertions 4 = .ok (.istore_n 3, 1) := by decide +kernel
theorem dX2_findInsertions_5 : decode cX2_findInsertions 5 = .ok (.iconst 0, 1) := by decide +kernel
theorem dX2_findInsertions_6 : decode cX2_findInsertions 6 = .ok (.istore 4, 2) := by decide +kernel
theorem dX2_findInsertions_8 : decode cX2_findInsertions 8 = .ok (.iconst 0, 1) := by decide +kernel
theorem dX2_findInsertions_9 : decode cX2_findInsertions 9 = .ok (.istore 5, 2) := by decide +kernel
theorem dX2_findInsertions_11 : decode cX2_findInsertions 11 = .ok (.iload 5, 2) := by decide +kernel
theorem dX2_findInsertions_13 : decode cX2_findInsertions 13 = .ok (.aload_n 0, 1) := by decide +kernel
theorem dX2_findInsertions_14 : decode cX2_findInsertions 14 = .ok (.getfield 35, 3) := by decide +kernel
theorem dX2_findInsertions_17 : decode cX2_findInsertions 17 = .ok (.if_icmp .ge 117, 3) := by decide +kernel
theorem dX2_findInsertions_20 : decode cX2_findInsertions 20 = .ok (.aload_n 0, 1) := by decide +kernel
theorem dX2_findInsertions_21 : decode cX2_findInsertions 21 = .ok (.iload 5, 2) := by decide +kernel
theorem dX2_findInsertions_23 : decode cX2_findInsertions 23 = .ok (.invokevirtual 52, 3) := by decide +kernel
theorem dX2_findInsertions_26 : decode cX2_findInsertions 26 = .ok (.astore 6, 2) := by decide +kernel
theorem dX2_findInsertions_28 : decode cX2_findInsertions 28 = .ok (.aload 6, 2) := by decide +kernel
theorem dX2_findInsertions_30 : decode cX2_findInsertions 30 = .ok (.ifnull 98, 3) := by decide +kernel
theorem dX2_findInsertions_33 : decode cX2_findInsertions 33 = .ok (.iload_n 3, 1) := by decide +kernel
theorem dX2_findInsertions_34 : decode cX2_findInsertions 34 = .ok (.aload 6, 2) := by decide +kernel
theorem dX2_findInsertions_36 : decode cX2_findInsertions 36 = .ok (.invokevirtual 61, 3) := by decide +kernel
theorem dX2_findInsertions_39 : decode cX2_findInsertions 39 = .ok (.iadd, 1) := by decide +kernel
theorem dX2_findInsertions_40 : decode cX2_findInsertions 40 = .ok (.aload_n 0, 1) := by decide +kernel
theorem dX2_findInsertions_41 : decode cX2_findInsertions 41 = .ok (.getfield 23, 3) := by decide +kernel
theorem dX2_findInsertions_44 : decode cX2_findInsertions 44 = .ok (.if_icmp .le 6, 3) := by decide +kernel
theorem dX2_findInsertions_47 : decode cX2_findInsertions 47 = .ok (.goto 81, 3) := by decide +kernel
theorem dX2_findInsertions_50 : decode cX2_findInsertions 50 = .ok (.iconst 0, 1) := by decide +kernel
theorem dX2_findInsertions_51 : decode cX2_findInsertions 51 = .ok (.istore 7, 2) := by decide +kernel
theorem dX2_findInsertions_53 : decode cX2_findInsertions 53 = .ok (.iload 7, 2) := by decide +kernel
theorem dX2_findInsertions_55 : decode cX2_findInsertions 55 = .ok (.iload_n 3, 1) := by decide +kernel
theorem dX2_findInsertions_56 : decode cX2_findInsertions 56 = .ok (.if_icmp .gt 72, 3) := by decide +kernel
theorem dX2_findInsertions_59 : decode cX2_findInsertions 59 = .ok (.iload 7, 2) := by decide +kernel
theorem dX2_findInsertions_61 : decode cX2_findInsertions 61 = .ok (.istore 8, 2) := by decide +kernel
theorem dX2_findInsertions_63 : decode cX2_findInsertions 63 = .ok (.iload 8, 2) := by decide +kernel
theorem dX2_findInsertions_65 : decode cX2_findInsertions 65 = .ok (.iload_n 3, 1) := by decide +kernel
theorem dX2_findInsertions_66 : decode cX2_findInsertions 66 = .ok (.if_icmp .gt 56, 3) := by decide +kernel
theorem dX2_findInsertions_69 : decode cX2_findInsertions 69 = .ok (.aload 6, 2) := by decide +kernel
theorem dX2_findInsertions_71 : decode cX2_findInsertions 71 = .ok (.aload_n 0, 1) := by decide +kernel
theorem dX2_findInsertions_72 : decode cX2_findInsertions 72 = .ok (.getfield 19, 3) := by decide +kernel
theorem dX2_findInsertions_75 : decode cX2_findInsertions 75 = .ok (.iload_n 1, 1) := by decide +kernel
theorem dX2_findInsertions_76 : decode cX2_findInsertions 76 = .ok (.iload_n 3, 1) := by decide +kernel
theorem dX2_findInsertions_77 : decode cX2_findInsertions 77 = .ok (.iload 7, 2) := by decide +kernel
theorem dX2_findInsertions_79 : decode cX2_findInsertions 79 = .ok (.iload 8, 2) := by decide +kernel
theorem dX2_findInsertions_81 : decode cX2_findInsertions 81 = .ok (.invokevirtual 65, 3) := by decide +kernel
theorem dX2_findInsertions_84 : decode cX2_findInsertions 84 = .ok (.ifCond .eq 32, 3) := by decide +kernel
theorem dX2_findInsertions_87 : decode cX2_findInsertions 87 = .ok (.aload_n 2, 1) := by decide +kernel
theorem dX2_findInsertions_88 : decode cX2_findInsertions 88 = .ok (.iload 4, 2) := by decide +kernel
theorem dX2_findInsertions_90 : decode cX2_findInsertions 90 = .ok (.aload 6, 2) := by decide +kernel
theorem dX2_findInsertions_92 : decode cX2_findInsertions 92 = .ok (.iload_n 1, 1) := by decide +kernel
theorem dX2_findInsertions_93 : decode cX2_findInsertions 93 = .ok (.iload_n 3, 1) := by decide +kernel
theorem dX2_findInsertions_94 : decode cX2_findInsertions 94 = .ok (.iload 7, 2) := by decide +kernel
theorem dX2_findInsertions_96 : decode cX2_findInsertions 96 = .ok (.iload 8, 2) := by decide +kernel
theorem dX2_findInsertions_98 : decode cX2_findInsertions 98 = .ok (.invokevirtual 69, 3) := by decide +kernel
theorem dX2_findInsertions_101 : decode cX2_findInsertions 101 = .ok (.iload 5, 2) := by decide +kernel
theorem dX2_findInsertions_103 : decode cX2_findInsertions 103 = .ok (.iload 7, 2) := by decide +kernel
theorem dX2_findInsertions_105 : decode cX2_findInsertions 105 = .ok (.iload 8, 2) := by decide +kernel
theorem dX2_findInsertions_107 : decode cX2_findInsertions 107 = .ok (.invokestatic 73, 3) := by decide +kernel
theorem dX2_findInsertions_110 : decode cX2_findInsertions 110 = .ok (.invokestatic 48, 3) := by decide +kernel
theorem dX2_findInsertions_113 : decode cX2_findInsertions 113 = .ok (.iinc 4 1, 3) := by decide +kernel
theorem dX2_findInsertions_116 : decode cX2_findInsertions 116 = .ok (.iinc 8 1, 3) := by decide +kernel
theorem dX2_findInsertions_119 : decode cX2_findInsertions 119 = .ok (.goto (-56), 3) := by decide +kernel
theorem dX2_findInsertions_122 : decode cX2_findInsertions 122 = .ok (.iinc 7 1, 3) := by decide +kernel
theorem dX2_findInsertions_125 : decode cX2_findInsertions 125 = .ok (.goto (-72), 3) := by decide +kernel
theorem dX2_findInsertions_128 : decode cX2_findInsertions 128 = .ok (.iinc 5 1, 3) := by decide +kernel
theorem dX2_findInsertions_131 : decode cX2_findInsertions 131 = .ok (.goto (-120), 3) := by decide +kernel
theorem dX2_findInsertions_134 : decode cX2_findInsertions 134 = .ok (.iload 4, 2) := by decide +kernel
theorem dX2_findInsertions_136 : decode cX2_findInsertions 136 = .ok (.ireturn, 1) := by decide +kernel
theorem dX2_findReductions_0 : decode cX2_findReductions 0 = .ok (.iload_n 1, 1) := by decide +kernel
theorem dX2_findReductions_1 : decode cX2_findReductions 1 = .ok (.invokestatic 56, 3) := by decide +kernel
theorem dX2_findReductions_4 : decode cX2_findReductions 4 = .ok (.istore_n 3, 1) := by decide +kernel
theorem dX2_findReductions_5 : decode cX2_findReductions 5 = .ok (.iconst 0, 1) := by decide +kernel
theorem dX2_findReductions_6 : decode cX2_findReductions 6 = .ok (.istore 4, 2) := by decide +kernel
theorem dX2_findReductions_8 : decode cX2_findReductions 8 = .ok (.iconst 0, 1) := by decide +kernel
theorem dX2_findReductions_9 : decode cX2_findReductions 9 = .ok (.istore 5, 2) := by decide +kernel
theorem dX2_findReductions_11 : decode cX2_findReductions 11 = .ok (.iload 5, 2) := by decide +kernel
theorem dX2_findReductions_13 : decode cX2_findReductions 13 = .ok (.aload_n 0, 1) := by decide +kernel
theorem dX2_findReductions_14 : decode cX2_findReductions 14 = .ok (.getfield 35, 3) := by decide +kernel
theorem dX2_findReductions_17 : decode cX2_findReductions 17 = .ok (.if_icmp .ge 148, 3) := by decide +kernel
theorem dX2_findReductions_20 : decode cX2_findReductions 20 = .ok (.iload_n 3, 1) := by decide +kernel
theorem dX2_findReductions_21 : decode cX2_findReductions 21 = .ok (.aload_n 0, 1) := by decide +kernel
theorem dX2_findReductions_22 : decode cX2_findReductions 22 = .ok (.getfield 23, 3) := by decide +kernel
theorem dX2_findReductions_25 : decode cX2_findReductions 25 = .ok (.if_icmp .gt 140, 3) := by decide +kernel
theorem dX2_findReductions_28 : decode cX2_findReductions 28 = .ok (.aload_n 0, 1) := by decide +kernel
theorem dX2_findReductions_29 : decode cX2_findReductions 29 = .ok (.iload 5, 2) := by decide +kernel
theorem dX2_findReductions_31 : decode cX2_findReductions 31 = .ok (.invokevirtual 52, 3) := by decide +kernel
theorem dX2_findReductions_34 : decode cX2_findReductions 34 = .ok (.astore 6, 2) := by decide +kernel
theorem dX2_findReductions_36 : decode cX2_findReductions 36 = .ok (.aload 6, 2) := by decide +kernel
theorem dX2_findReductions_38 : decode cX2_findReductions 38 = .ok (.ifnonnull 6, 3) := by decide +kernel
theorem dX2_findReductions_41 : decode cX2_findReductions 41 = .ok (.goto 118, 3) := by decide +kernel
theorem dX2_findReductions_44 : decode cX2_findReductions 44 = .ok (.iload_n 3, 1) := by decide +kernel
theorem dX2_findReductions_45 : decode cX2_findReductions 45 = .ok (.aload 6, 2) := by decide +kernel
theorem dX2_findReductions_47 : decode cX2_findReductions 47 = .ok (.invokevirtual 61, 3) := by decide +kernel
theorem dX2_findReductions_50 : decode cX2_findReductions 50 = .ok (.isub, 1) := by decide +kernel
theorem dX2_findReductions_51 : decode cX2_findReductions 51 = .ok (.istore 7, 2) := by decide +kernel
theorem dX2_findReductions_53 : decode cX2_findReductions 53 = .ok (.iconst 0, 1) := by decide +kernel
theorem dX2_findReductions_54 : decode cX2_findReductions 54 = .ok (.istore 8, 2) := by decide +kernel
theorem dX2_findReductions_56 : decode cX2_findReductions 56 = .ok (.iload 8, 2) := by decide +kernel
theorem dX2_findReductions_58 : decode cX2_findReductions 58 = .ok (.iload 7, 2) := by decide +kernel
theorem dX2_findReductions_60 : decode cX2_findReductions 60 = .ok (.if_icmp .gt 99, 3) := by decide +kernel
theorem dX2_findReductions_63 : decode cX2_findReductions 63 = .ok (.aload 6, 2) := by decide +kernel
theorem dX2_findReductions_65 : decode cX2_findReductions 65 = .ok (.iload_n 1, 1) := by decide +kernel
theorem dX2_findReductions_66 : decode cX2_findReductions 66 = .ok (.iload_n 3, 1) := by decide +kernel
theorem dX2_findReductions_67 : decode cX2_findReductions 67 = .ok (.iload 8, 2) := by decide +kernel
theorem dX2_findReductions_69 : decode cX2_findReductions 69 = .ok (.invokevirtual 78, 3) := by decide +kernel
theorem dX2_findReductions_72 : decode cX2_findReductions 72 = .ok (.ifCond .ne 6, 3) := by decide +kernel
theorem dX2_findReductions_75 : decode cX2_findReductions 75 = .ok (.goto 78, 3) := by decide +kernel
theorem dX2_findReductions_78 : decode cX2_findReductions 78 = .ok (.iload 8, 2) := by decide +kernel
theorem dX2_findReductions_80 : decode cX2_findReductions 80 = .ok (.istore 9, 2) := by decide +kernel
theorem dX2_findReductions_82 : decode cX2_findReductions 82 = .ok (.iload 9, 2) := by decide +kernel
theorem dX2_findReductions_84 : decode cX2_findReductions 84 = .ok (.iload 7, 2) := by decide +kernel
theorem dX2_findReductions_86 : decode cX2_findReductions 86 = .ok (.if_icmp .gt 67, 3) := by decide +kernel
theorem dX2_findReductions_89 : decode cX2_findReductions 89 = .ok (.aload 6, 2) := by decide +kernel
theorem dX2_findReductions_91 : decode cX2_findReductions 91 = .ok (.iload_n 1, 1) := by decide +kernel
theorem dX2_findReductions_92 : decode cX2_findReductions 92 = .ok (.iload_n 3, 1) := by decide +kernel
theorem dX2_findReductions_93 : decode cX2_findReductions 93 = .ok (.iload 8, 2) := by decide +kernel
theorem dX2_findReductions_95 : decode cX2_findReductions 95 = .ok (.iload 9, 2) := by decide +kernel
theorem dX2_findReductions_97 : decode cX2_findReductions 97 = .ok (.invokevirtual 82, 3) := by decide +kernel
theorem dX2_findReductions_100 : decode cX2_findReductions 100 = .ok (.istore 10, 2) := by decide +kernel
theorem dX2_findReductions_102 : decode cX2_findReductions 102 = .ok (.iload 10, 2) := by decide +kernel
theorem dX2_findReductions_104 : decode cX2_findReductions 104 = .ok (.ifCond .lt 43, 3) := by decide +kernel
theorem dX2_findReductions_107 : decode cX2_findReductions 107 = .ok (.aload 6, 2) := by decide +kernel
theorem dX2_findReductions_109 : decode cX2_findReductions 109 = .ok (.aload_n 0, 1) := by decide +kernel
theorem dX2_findReductions_110 : decode cX2_findReductions 110 = .ok (.getfield 19, 3) := by decide +kernel
theorem dX2_findReductions_113 : decode cX2_findReductions 113 = .ok (.iload 10, 2) := by decide +kernel
theorem dX2_findReductions_115 : decode cX2_findReductions 115 = .ok (.iload 7, 2) := by decide +kernel
theorem dX2_findReductions_117 : decode cX2_findReductions 117 = .ok (.iload 8, 2) := by decide +kernel
theorem dX2_findReductions_119 : decode cX2_findReductions 119 = .ok (.iload 9, 2) := by decide +kernel
theorem dX2_findReductions_121 : decode cX2_findReductions 121 = .ok (.invokevirtual 65, 3) := by decide +kernel
theorem dX2_findReductions_124 : decode cX2_findReductions 124 = .ok (.ifCond .eq 23, 3) := by decide +kernel
theorem dX2_findReductions_127 : decode cX2_findReductions 127 = .ok (.aload_n 2, 1) := by decide +kernel
theorem dX2_findReductions_128 : decode cX2_findReductions 128 = .ok (.iload 4, 2) := by decide +kernel
theorem dX2_findReductions_130 : decode cX2_findReductions 130 = .ok (.iload 10, 2) := by decide +kernel
theorem dX2_findReductions_132 : decode cX2_findReductions 132 = .ok (.iload 5, 2) := by decide +kernel
theorem dX2_findReductions_134 : decode cX2_findReductions 134 = .ok (.iload 8, 2) := by decide +kernel
theorem dX2_findReductions_136 : decode cX2_findReductions 136 = .ok (.iload 9, 2) := by decide +kernel
theorem dX2_findReductions_138 : decode cX2_findReductions 138 = .ok (.invokestatic 73, 3) := by decide +kernel
theorem dX2_findReductions_141 : decode cX2_findReductions 141 = .ok (.invokestatic 48, 3) := by decide +kernel
theorem dX2_findReductions_144 : decode cX2_findReductions 144 = .ok (.iinc 4 1, 3) := by decide +kernel
theorem dX2_findReductions_147 : decode cX2_findReductions 147 = .ok (.iinc 9 1, 3) := by decide +kernel
theorem dX2_findReductions_150 : decode cX2_findReductions 150 = .ok (.goto (-68), 3) := by decide +kernel
theorem dX2_findReductions_153 : decode cX2_findReductions 153 = .ok (.iinc 8 1, 3) := by decide +kernel
theorem dX2_findReductions_156 : decode cX2_findReductions 156 = .ok (.goto (-100), 3) := by decide +kernel
theorem dX2_findReductions_159 : decode cX2_findReductions 159 = .ok (.iinc 5 1, 3) := by decide +kernel
theorem dX2_findReductions_162 : decode cX2_findReductions 162 = .ok (.goto (-151), 3) := by decide +kernel
theorem dX2_findReductions_165 : decode cX2_findReductions 165 = .ok (.iload 4, 2) := by decide +kernel
theorem dX2_findReductions_167 : decode cX2_findReductions 167 = .ok (.ireturn, 1) := by decide +kernel
theorem dX3_init_0 : decode cX3_init 0 = .ok (.aload_n 0, 1) := by decide +kernel
theorem dX3_init_1 : decode cX3_init 1 = .ok (.invokespecial 1, 3) := by decide +kernel
theorem dX3_init_4 : decode cX3_init 4 = .ok (.aload_n 0, 1) := by decide +kernel
theorem dX3_init_5 : decode cX3_init 5 = .ok (.sipush 300, 3) := by decide +kernel
theorem dX3_init_8 : decode cX3_init 8 = .ok (.newarray .int, 2) := by decide +kernel
theorem dX3_init_10 : decode cX3_init 10 = .ok (.putfield 9, 3) := by decide +kernel
theorem dX3_init_13 : decode cX3_init 13 = .ok (.aload_n 0, 1) := by decide +kernel
theorem dX3_init_14 : decode cX3_init 14 = .ok (.sipush 29524, 3) := by decide +kernel
theorem dX3_init_17 : decode cX3_init 17 = .ok (.newarray .int, 2) := by decide +kernel
theorem dX3_init_19 : decode cX3_init 19 = .ok (.putfield 15, 3) := by decide +kernel
theorem dX3_init_22 : decode cX3_init 22 = .ok (.aload_n 0, 1) := by decide +kernel
theorem dX3_init_23 : decode cX3_init 23 = .ok (.ldc 20, 2) := by decide +kernel
theorem dX3_init_25 : decode cX3_init 25 = .ok (.newarray .int, 2) := by decide +kernel
theorem dX3_init_27 : decode cX3_init 27 = .ok (.putfield 21, 3) := by decide +kernel
theorem dX3_init_30 : decode cX3_init 30 = .ok (.aload_n 0, 1) := by decide +kernel
theorem dX3_init_31 : decode cX3_init 31 = .ok (.sipush 301, 3) := by decide +kernel
theorem dX3_init_34 : decode cX3_init 34 = .ok (.newarray .int, 2) := by decide +kernel
theorem dX3_init_36 : decode cX3_init 36 = .ok (.putfield 24, 3) := by decide +kernel
theorem dX3_init_39 : decode cX3_init 39 = .ok (.aload_n 0, 1) := by decide +kernel
theorem dX3_init_40 : decode cX3_init 40 = .ok (.sipush 225, 3) := by decide +kernel
theorem dX3_init_43 : decode cX3_init 43 = .ok (.newarray .int, 2) := by decide +kernel
theorem dX3_init_45 : decode cX3_init 45 = .ok (.putfield 27, 3) := by decide +kernel
theorem dX3_init_48 : decode cX3_init 48 = .ok (.aload_n 0, 1) := by decide +kernel
theorem dX3_init_49 : decode cX3_init 49 = .ok (.sipush 300, 3) := by decide +kernel
theorem dX3_init_52 : decode cX3_init 52 = .ok (.newarray .int, 2) := by decide +kernel
theorem dX3_init_54 : decode cX3_init 54 = .ok (.putfield 30, 3) := by decide +kernel
theorem dX3_init_57 : decode cX3_init 57 = .ok (.aload_n 0, 1) := by decide +kernel
theorem dX3_init_58 : decode cX3_init 58 = .ok (.sipush 300, 3) := by decide +kernel
theorem dX3_init_61 : decode cX3_init 61 = .ok (.newarray .int, 2) := by decide +kernel
theorem dX3_init_63 : decode cX3_init 63 = .ok (.putfield 33, 3) := by decide +kernel
theorem dX3_init_66 : decode cX3_init 66 = .ok (.aload_n 0, 1) := by decide +kernel
theorem dX3_init_67 : decode cX3_init 67 = .ok (.sipush 300, 3) := by decide +kernel
theorem dX3_init_70 : decode cX3_init 70 = .ok (.newarray .int, 2) := by decide +kernel
theorem dX3_init_72 : decode cX3_init 72 = .ok (.putfield 36, 3) := by decide +kernel
theorem dX3_init_75 : decode cX3_init 75 = .ok (.aload_n 0, 1) := by decide +kernel
theorem dX3_init_76 : decode cX3_init 76 = .ok (.sipush 300, 3) := by decide +kernel
theorem dX3_init_79 : decode cX3_init 79 = .ok (.newarray .int, 2) := by decide +kernel
theorem dX3_init_81 : decode cX3_init 81 = .ok (.putfield 39, 3) := by decide +kernel
theorem dX3_init_84 : decode cX3_init 84 = .ok (.aload_n 0, 1) := by decide +kernel
theorem dX3_init_85 : decode cX3_init 85 = .ok (.sipush 300, 3) := by decide +kernel
theorem dX3_init_88 : decode cX3_init 88 = .ok (.newarray .int, 2) := by decide +kernel
theorem dX3_init_90 : decode cX3_init 90 = .ok (.putfield 42, 3) := by decide +kernel
theorem dX3_init_93 : decode cX3_init 93 = .ok (.aload_n 0, 1) := by decide +kernel
theorem dX3_init_94 : decode cX3_init 94 = .ok (.sipush 300, 3) := by decide +kernel
theorem dX3_init_97 : decode cX3_init 97 = .ok (.newarray .int, 2) := by decide +kernel
theorem dX3_init_99 : decode cX3_init 99 = .ok (.putfield 45, 3) := by decide +kernel
theorem dX3_init_102 : decode cX3_init 102 = .ok (.aload_n 0, 1) := by decide +kernel
theorem dX3_init_103 : decode cX3_init 103 = .ok (.sipush 300, 3) := by decide +kernel
theorem dX3_init_106 : decode cX3_init 106 = .ok (.newarray .long, 2) := by decide +kernel
theorem dX3_init_108 : decode cX3_init 108 = .ok (.putfield 48, 3) := by decide +kernel
theorem dX3_init_111 : decode cX3_init 111 = .ok (.aload_n 0, 1) := by decide +kernel
theorem dX3_init_112 : decode cX3_init 112 = .ok (.iconst 5, 1) := by decide +kernel
theorem dX3_init_113 : decode cX3_init 113 = .ok (.newarray .int, 2) := by decide +kernel
theorem dX3_init_115 : decode cX3_init 115 = .ok (.putfield 52, 3) := by decide +kernel
theorem dX3_init_118 : decode cX3_init 118 = .ok (.return_, 1) := by decide +kernel
theorem dX3_build_0 : decode cX3_build 0 = .ok (.aload_n 0, 1) := by decide +kernel
theorem dX3_build_1 : decode cX3_build 1 = .ok (.invokevirtual 55, 3) := by decide +kernel
theorem dX3_build_4 : decode cX3_build 4 = .ok (.iconst 0, 1) := by decide +kernel
theorem dX3_build_5 : decode cX3_build 5 = .ok (.istore_n 2, 1) := by decide +kernel
theorem dX3_build_6 : decode cX3_build 6 = .ok (.iload_n 2, 1) := by decide +kernel
theorem dX3_build_7 : decode cX3_build 7 = .ok (.aload_n 1, 1) := by decide +kernel
theorem dX3_build_8 : decode cX3_build 8 = .ok (.getfield 58, 3) := by decide +kernel
theorem dX3_build_11 : decode cX3_build 11 = .ok (.if_icmp .ge 33, 3) := by decide +kernel
theorem dX3_build_14 : decode cX3_build 14 = .ok (.aload_n 1, 1) := by decide +kernel
theorem dX3_build_15 : decode cX3_build 15 = .ok (.iload_n 2, 1) := by decide +kernel
theorem dX3_build_16 : decode cX3_build 16 = .ok (.invokevirtual 62, 3) := by decide +kernel
theorem dX3_build_19 : decode cX3_build 19 = .ok (.invokestatic 66, 3) := by decide +kernel
theorem dX3_build_22 : decode cX3_build 22 = .ok (.aload_n 1, 1) := by decide +kernel
theorem dX3_build_23 : decode cX3_build 23 = .ok (.getfield 69, 3) := by decide +kernel
theorem dX3_build_26 : decode cX3_build 26 = .ok (.if_icmp .gt 12, 3) := by decide +kernel
theorem dX3_build_29 : decode cX3_build 29 = .ok (.aload_n 0, 1) := by decide +kernel
theorem dX3_build_30 : decode cX3_build 30 = .ok (.aload_n 1, 1) := by decide +kernel
theorem dX3_build_31 : decode cX3_build 31 = .ok (.iload_n 2, 1) := by decide +kernel
theorem dX3_build_32 : decode cX3_build 32 = .ok (.invokevirtual 62, 3) := by decide +kernel
theorem dX3_build_35 : decode cX3_build 35 = .ok (.invokevirtual 72, 3) := by decide +kernel
theorem dX3_build_38 : decode cX3_build 38 = .ok (.iinc 2 1, 3) := by decide +kernel
theorem dX3_build_41 : decode cX3_build 41 = .ok (.goto (-35), 3) := by decide +kernel
theorem dX3_build_44 : decode cX3_build 44 = .ok (.iconst 0, 1) := by decide +kernel
theorem dX3_build_45 : decode cX3_build 45 = .ok (.istore_n 2, 1) := by decide +kernel
theorem dX3_build_46 : decode cX3_build 46 = .ok (.iload_n 2, 1) := by decide +kernel
theorem dX3_build_47 : decode cX3_build 47 = .ok (.aload_n 0, 1) := by decide +kernel
theorem dX3_build_48 : decode cX3_build 48 = .ok (.getfield 76, 3) := by decide +kernel
theorem dX3_build_51 : decode cX3_build 51 = .ok (.if_icmp .ge 54, 3) := by decide +kernel
theorem dX3_build_54 : decode cX3_build 54 = .ok (.iload_n 2, 1) := by decide +kernel
theorem dX3_build_55 : decode cX3_build 55 = .ok (.sipush 300, 3) := by decide +kernel
theorem dX3_build_58 : decode cX3_build 58 = .ok (.if_icmp .ge 47, 3) := by decide +kernel
theorem dX3_build_61 : decode cX3_build 61 = .ok (.aload_n 0, 1) := by decide +kernel
theorem dX3_build_62 : decode cX3_build 62 = .ok (.getfield 79, 3) := by decide +kernel
theorem dX3_build_65 : decode cX3_build 65 = .ok (.ifCond .ne 40, 3) := by decide +kernel
theorem dX3_build_68 : decode cX3_build 68 = .ok (.aload_n 0, 1) := by decide +kernel
theorem dX3_build_69 : decode cX3_build 69 = .ok (.aload_n 1, 1) := by decide +kernel
theorem dX3_build_70 : decode cX3_build 70 = .ok (.aload_n 0, 1) := by decide +kernel
theorem dX3_build_71 : decode cX3_build 71 = .ok (.iload_n 2, 1) := by decide +kernel
theorem dX3_build_72 : decode cX3_build 72 = .ok (.invokevirtual 83, 3) := by decide +kernel
theorem dX3_build_75 : decode cX3_build 75 = .ok (.aload_n 0, 1) := by decide +kernel
theorem dX3_build_76 : decode cX3_build 76 = .ok (.getfield 27, 3) := by decide +kernel
theorem dX3_build_79 : decode cX3_build 79 = .ok (.invokevirtual 86, 3) := by decide +kernel
theorem dX3_build_82 : decode cX3_build 82 = .ok (.invokevirtual 90, 3) := by decide +kernel
theorem dX3_build_85 : decode cX3_build 85 = .ok (.aload_n 0, 1) := by decide +kernel
theorem dX3_build_86 : decode cX3_build 86 = .ok (.getfield 24, 3) := by decide +kernel
theorem dX3_build_89 : decode cX3_build 89 = .ok (.iload_n 2, 1) := by decide +kernel
theorem dX3_build_90 : decode cX3_build 90 = .ok (.iconst 1, 1) := by decide +kernel
theorem dX3_build_91 : decode cX3_build 91 = .ok (.iadd, 1) := by decide +kernel
theorem dX3_build_92 : decode cX3_build 92 = .ok (.aload_n 0, 1) := by decide +kernel
theorem dX3_build_93 : decode cX3_build 93 = .ok (.getfield 93, 3) := by decide +kernel
theorem dX3_build_96 : decode cX3_build 96 = .ok (.invokestatic 96, 3) := by decide +kernel
theorem dX3_build_99 : decode cX3_build 99 = .ok (.iinc 2 1, 3) := by decide +kernel
theorem dX3_build_102 : decode cX3_build 102 = .ok (.goto (-56), 3) := by decide +kernel
theorem dX3_build_105 : decode cX3_build 105 = .ok (.aload_n 0, 1) := by decide +kernel
theorem dX3_build_106 : decode cX3_build 106 = .ok (.getfield 79, 3) := by decide +kernel
theorem dX3_build_109 : decode cX3_build 109 = .ok (.ifCond .ne 20, 3) := by decide +kernel
theorem dX3_build_112 : decode cX3_build 112 = .ok (.aload_n 0, 1) := by decide +kernel
theorem dX3_build_113 : decode cX3_build 113 = .ok (.aload_n 1, 1) := by decide +kernel
theorem dX3_build_114 : decode cX3_build 114 = .ok (.invokevirtual 102, 3) := by decide +kernel
theorem dX3_build_117 : decode cX3_build 117 = .ok (.aload_n 0, 1) := by decide +kernel
theorem dX3_build_118 : decode cX3_build 118 = .ok (.invokevirtual 106, 3) := by decide +kernel
theorem dX3_build_121 : decode cX3_build 121 = .ok (.aload_n 0, 1) := by decide +kernel
theorem dX3_build_122 : decode cX3_build 122 = .ok (.invokevirtual 109, 3) := by decide +kernel
theorem dX3_build_125 : decode cX3_build 125 = .ok (.aload_n 0, 1) := by decide +kernel
theorem dX3_build_126 : decode cX3_build 126 = .ok (.invokevirtual 112, 3) := by decide +kernel
theorem dX3_build_129 : decode cX3_build 129 = .ok (.return_, 1) := by decide +kernel
theorem dX3_forget_0 : decode cX3_forget 0 = .ok (.iconst 0, 1) := by decide +kernel
theorem dX3_forget_1 : decode cX3_forget 1 = .ok (.istore_n 1, 1) := by decide +kernel
theorem dX3_forget_2 : decode cX3_forget 2 = .ok (.iload_n 1, 1) := by decide +kernel
theorem dX3_forget_3 : decode cX3_forget 3 = .ok (.aload_n 0, 1) := by decide +kernel
theorem dX3_forget_4 : decode cX3_forget 4 = .ok (.getfield 76, 3) := by decide +kernel
theorem dX3_forget_7 : decode cX3_forget 7 = .ok (.if_icmp .ge 22, 3) := by decide +kernel
theorem dX3_forget_10 : decode cX3_forget 10 = .ok (.aload_n 0, 1) := by decide +kernel
theorem dX3_forget_11 : decode cX3_forget 11 = .ok (.getfield 15, 3) := by decide +kernel
theorem dX3_forget_14 : decode cX3_forget 14 = .ok (.aload_n 0, 1) := by decide +kernel
theorem dX3_forget_15 : decode cX3_forget 15 = .ok (.iload_n 1, 1) := by decide +kernel
theorem dX3_forget_16 : decode cX3_forget 16 = .ok (.invokevirtual 83, 3) := by decide +kernel
theorem dX3_forget_19 : decode cX3_forget 19 = .ok (.iconst 0, 1) := by decide +kernel
theorem dX3_forget_20 : decode cX3_forget 20 = .ok (.invokestatic 96, 3) := by decide +kernel
theorem dX3_forget_23 : decode cX3_forget 23 = .ok (.iinc 1 1, 3) := by decide +kernel
theorem dX3_forget_26 : decode cX3_forget 26 = .ok (.goto (-24), 3) := by decide +kernel
theorem dX3_forget_29 : decode cX3_forget 29 = .ok (.aload_n 0, 1) := by decide +kernel
theorem dX3_forget_30 : decode cX3_forget 30 = .ok (.getfield 30, 3) := by decide +kernel
theorem dX3_forget_33 : decode cX3_forget 33 = .ok (.iconst 0, 1) := by decide +kernel
theorem dX3_forget_34 : decode cX3_forget 34 = .ok (.invokestatic 115, 3) := by decide +kernel
theorem dX3_forget_37 : decode cX3_forget 37 = .ok (.aload_n 0, 1) := by decide +kernel
theorem dX3_forget_38 : decode cX3_forget 38 = .ok (.getfield 52, 3) := by decide +kernel
theorem dX3_forget_41 : decode cX3_forget 41 = .ok (.iconst 0, 1) := by decide +kernel
theorem dX3_forget_42 : decode cX3_forget 42 = .ok (.invokestatic 115, 3) := by decide +kernel
theorem dX3_forget_45 : decode cX3_forget 45 = .ok (.aload_n 0, 1) := by decide +kernel
theorem dX3_forget_46 : decode cX3_forget 46 = .ok (.iconst 0, 1) := by decide +kernel
theorem dX3_forget_47 : decode cX3_forget 47 = .ok (.putfield 76, 3) := by decide +kernel
theorem dX3_forget_50 : decode cX3_forget 50 = .ok (.aload_n 0, 1) := by decide +kernel
theorem dX3_forget_51 : decode cX3_forget 51 = .ok (.iconst 0, 1) := by decide +kernel
theorem dX3_forget_52 : decode cX3_forget 52 = .ok (.putfield 93, 3) := by decide +kernel
theorem dX3_forget_55 : decode cX3_forget 55 = .ok (.aload_n 0, 1) := by decide +kernel
theorem dX3_forget_56 : decode cX3_forget 56 = .ok (.iconst 0, 1) := by decide +kernel
theorem dX3_forget_57 : decode cX3_forget 57 = .ok (.putfield 79, 3) := by decide +kernel
theorem dX3_forget_60 : decode cX3_forget 60 = .ok (.aload_n 0, 1) := by decide +kernel
theorem dX3_forget_61 : decode cX3_forget 61 = .ok (.iconst 0, 1) := by decide +kernel
theorem dX3_forget_62 : decode cX3_forget 62 = .ok (.putfield 121, 3) := by decide +kernel
theorem dX3_forget_65 : decode cX3_forget 65 = .ok (.aload_n 0, 1) := by decide +kernel
theorem dX3_forget_66 : decode cX3_forget 66 = .ok (.iconst (-1), 1) := by decide +kernel
theorem dX3_forget_67 : decode cX3_forget 67 = .ok (.putfield 124, 3) := by decide +kernel
theorem dX3_forget_70 : decode cX3_forget 70 = .ok (.return_, 1) := by decide +kernel
theorem dX3_addWord_0 : decode cX3_addWord 0 = .ok (.aload_n 0, 1) := by decide +kernel
theorem dX3_addWord_1 : decode cX3_addWord 1 = .ok (.getfield 15, 3) := by decide +kernel
theorem dX3_addWord_4 : decode cX3_addWord 4 = .ok (.iload_n 1, 1) := by decide +kernel
theorem dX3_addWord_5 : decode cX3_addWord 5 = .ok (.invokestatic 127, 3) := by decide +kernel
theorem dX3_addWord_8 : decode cX3_addWord 8 = .ok (.ifCond .eq 4, 3) := by decide +kernel
theorem dX3_addWord_11 : decode cX3_addWord 11 = .ok (.return_, 1) := by decide +kernel
theorem dX3_addWord_12 : decode cX3_addWord 12 = .ok (.aload_n 0, 1) := by decide +kernel
theorem dX3_addWord_13 : decode cX3_addWord 13 = .ok (.getfield 76, 3) := by decide +kernel
theorem dX3_addWord_16 : decode cX3_addWord 16 = .ok (.sipush 300, 3) := by decide +kernel
theorem dX3_addWord_19 : decode cX3_addWord 19 = .ok (.if_icmp .lt 9, 3) := by decide +kernel
theorem dX3_addWord_22 : decode cX3_addWord 22 = .ok (.aload_n 0, 1) := by decide +kernel
theorem dX3_addWord_23 : decode cX3_addWord 23 = .ok (.iconst 1, 1) := by decide +kernel
theorem dX3_addWord_24 : decode cX3_addWord 24 = .ok (.putfield 79, 3) := by decide +kernel
theorem dX3_addWord_27 : decode cX3_addWord 27 = .ok (.return_, 1) := by decide +kernel
theorem dX3_addWord_28 : decode cX3_addWord 28 = .ok (.aload_n 0, 1) := by decide +kernel
theorem dX3_addWord_29 : decode cX3_addWord 29 = .ok (.getfield 15, 3) := by decide +kernel
theorem dX3_addWord_32 : decode cX3_addWord 32 = .ok (.iload_n 1, 1) := by decide +kernel
theorem dX3_addWord_33 : decode cX3_addWord 33 = .ok (.iconst 1, 1) := by decide +kernel
theorem dX3_addWord_34 : decode cX3_addWord 34 = .ok (.invokestatic 96, 3) := by decide +kernel
theorem dX3_addWord_37 : decode cX3_addWord 37 = .ok (.aload_n 0, 1) := by decide +kernel
theorem dX3_addWord_38 : decode cX3_addWord 38 = .ok (.getfield 9, 3) := by decide +kernel
theorem dX3_addWord_41 : decode cX3_addWord 41 = .ok (.aload_n 0, 1) := by decide +kernel
theorem dX3_addWord_42 : decode cX3_addWord 42 = .ok (.getfield 76, 3) := by decide +kernel
theorem dX3_addWord_45 : decode cX3_addWord 45 = .ok (.iload_n 1, 1) := by decide +kernel
theorem dX3_addWord_46 : decode cX3_addWord 46 = .ok (.invokestatic 131, 3) := by decide +kernel
theorem dX3_addWord_49 : decode cX3_addWord 49 = .ok (.aload_n 0, 1) := by decide +kernel
theorem dX3_addWord_50 : decode cX3_addWord 50 = .ok (.dup, 1) := by decide +kernel
theorem dX3_addWord_51 : decode cX3_addWord 51 = .ok (.getfield 76, 3) := by decide +kernel
theorem dX3_addWord_54 : decode cX3_addWord 54 = .ok (.iconst 1, 1) := by decide +kernel
theorem dX3_addWord_55 : decode cX3_addWord 55 = .ok (.iadd, 1) := by decide +kernel
theorem dX3_addWord_56 : decode cX3_addWord 56 = .ok (.putfield 76, 3) := by decide +kernel
theorem dX3_addWord_59 : decode cX3_addWord 59 = .ok (.return_, 1) := by decide +kernel
theorem dX3_addResults_0 : decode cX3_addResults 0 = .ok (.iconst 0, 1) := by decide +kernel
theorem dX3_addResults_1 : decode cX3_addResults 1 = .ok (.istore_n 2, 1) := by decide +kernel
theorem dX3_addResults_2 : decode cX3_addResults 2 = .ok (.iload_n 2, 1) := by decide +kernel
theorem dX3_addResults_3 : decode cX3_addResults 3 = .ok (.iload_n 1, 1) := by decide +kernel
theorem dX3_addResults_4 : decode cX3_addResults 4 = .ok (.if_icmp .ge 48, 3) := by decide +kernel
theorem dX3_addResults_7 : decode cX3_addResults 7 = .ok (.aload_n 0, 1) := by decide +kernel
theorem dX3_addResults_8 : decode cX3_addResults 8 = .ok (.getfield 27, 3) := by decide +kernel
theorem dX3_addResults_11 : decode cX3_addResults 11 = .ok (.iload_n 2, 1) := by decide +kernel
theorem dX3_addResults_12 : decode cX3_addResults 12 = .ok (.invokestatic 127, 3) := by decide +kernel
theorem dX3_addResults_15 : decode cX3_addResults 15 = .ok (.istore_n 3, 1) := by decide +kernel
theorem dX3_addResults_16 : decode cX3_addResults 16 = .ok (.aload_n 0, 1) := by decide +kernel
theorem dX3_addResults_17 : decode cX3_addResults 17 = .ok (.iload_n 3, 1) := by decide +kernel
theorem dX3_addResults_18 : decode cX3_addResults 18 = .ok (.invokestatic 134, 3) := by decide +kernel
theorem dX3_addResults_21 : decode cX3_addResults 21 = .ok (.invokevirtual 72, 3) := by decide +kernel
theorem dX3_addResults_24 : decode cX3_addResults 24 = .ok (.aload_n 0, 1) := by decide +kernel
theorem dX3_addResults_25 : decode cX3_addResults 25 = .ok (.getfield 21, 3) := by decide +kernel
theorem dX3_addResults_28 : decode cX3_addResults 28 = .ok (.aload_n 0, 1) := by decide +kernel
theorem dX3_addResults_29 : decode cX3_addResults 29 = .ok (.getfield 93, 3) := by decide +kernel
theorem dX3_addResults_32 : decode cX3_addResults 32 = .ok (.iload_n 3, 1) := by decide +kernel
theorem dX3_addResults_33 : decode cX3_addResults 33 = .ok (.invokestatic 96, 3) := by decide +kernel
theorem dX3_addResults_36 : decode cX3_addResults 36 = .ok (.aload_n 0, 1) := by decide +kernel
theorem dX3_addResults_37 : decode cX3_addResults 37 = .ok (.dup, 1) := by decide +kernel
theorem dX3_addResults_38 : decode cX3_addResults 38 = .ok (.getfield 93, 3) := by decide +kernel
theorem dX3_addResults_41 : decode cX3_addResults 41 = .ok (.iconst 1, 1) := by decide +kernel
theorem dX3_addResults_42 : decode cX3_addResults 42 = .ok (.iadd, 1) := by decide +kernel
theorem dX3_addResults_43 : decode cX3_addResults 43 = .ok (.putfield 93, 3) := by decide +kernel
theorem dX3_addResults_46 : decode cX3_addResults 46 = .ok (.iinc 2 1, 3) := by decide +kernel
theorem dX3_addResults_49 : decode cX3_addResults 49 = .ok (.goto (-47), 3) := by decide +kernel
theorem dX3_addResults_52 : decode cX3_addResults 52 = .ok (.return_, 1) := by decide +kernel
theorem dX3_numberWords_0 : decode cX3_numberWords 0 = .ok (.iconst 0, 1) := by decide +kernel
theorem dX3_numberWords_1 : decode cX3_numberWords 1 = .ok (.istore_n 2, 1) := by decide +kernel
theorem dX3_numberWords_2 : decode cX3_numberWords 2 = .ok (.iload_n 2, 1) := by decide +kernel
theorem dX3_numberWords_3 : decode cX3_numberWords 3 = .ok (.aload_n 0, 1) := by decide +kernel
theorem dX3_numberWords_4 : decode cX3_numberWords 4 = .ok (.getfield 76, 3) := by decide +kernel
theorem dX3_numberWords_7 : decode cX3_numberWords 7 = .ok (.if_icmp .ge 24, 3) := by decide +kernel
theorem dX3_numberWords_10 : decode cX3_numberWords 10 = .ok (.aload_n 0, 1) := by decide +kernel
theorem dX3_numberWords_11 : decode cX3_numberWords 11 = .ok (.getfield 15, 3) := by decide +kernel
theorem dX3_numberWords_14 : decode cX3_numberWords 14 = .ok (.aload_n 0, 1) := by decide +kernel
theorem dX3_numberWords_15 : decode cX3_numberWords 15 = .ok (.iload_n 2, 1) := by decide +kernel
theorem dX3_numberWords_16 : decode cX3_numberWords 16 = .ok (.invokevirtual 83, 3) := by decide +kernel
theorem dX3_numberWords_19 : decode cX3_numberWords 19 = .ok (.iload_n 2, 1) := by decide +kernel
theorem dX3_numberWords_20 : decode cX3_numberWords 20 = .ok (.iconst 1, 1) := by decide +kernel
theorem dX3_numberWords_21 : decode cX3_numberWords 21 = .ok (.iadd, 1) := by decide +kernel
theorem dX3_numberWords_22 : decode cX3_numberWords 22 = .ok (.invokestatic 96, 3) := by decide +kernel
theorem dX3_numberWords_25 : decode cX3_numberWords 25 = .ok (.iinc 2 1, 3) := by decide +kernel
theorem dX3_numberWords_28 : decode cX3_numberWords 28 = .ok (.goto (-26), 3) := by decide +kernel
theorem dX3_numberWords_31 : decode cX3_numberWords 31 = .ok (.iconst 0, 1) := by decide +kernel
theorem dX3_numberWords_32 : decode cX3_numberWords 32 = .ok (.istore_n 2, 1) := by decide +kernel
theorem dX3_numberWords_33 : decode cX3_numberWords 33 = .ok (.iload_n 2, 1) := by decide +kernel
theorem dX3_numberWords_34 : decode cX3_numberWords 34 = .ok (.aload_n 0, 1) := by decide +kernel
theorem dX3_numberWords_35 : decode cX3_numberWords 35 = .ok (.getfield 93, 3) := by decide +kernel
theorem dX3_numberWords_38 : decode cX3_numberWords 38 = .ok (.if_icmp .ge 38, 3) := by decide +kernel
theorem dX3_numberWords_41 : decode cX3_numberWords 41 = .ok (.aload_n 0, 1) := by decide +kernel
theorem dX3_numberWords_42 : decode cX3_numberWords 42 = .ok (.getfield 21, 3) := by decide +kernel
theorem dX3_numberWords_45 : decode cX3_numberWords 45 = .ok (.iload_n 2, 1) := by decide +kernel
theorem dX3_numberWords_46 : decode cX3_numberWords 46 = .ok (.invokestatic 127, 3) := by decide +kernel
theorem dX3_numberWords_49 : decode cX3_numberWords 49 = .ok (.istore_n 3, 1) := by decide +kernel
theorem dX3_numberWords_50 : decode cX3_numberWords 50 = .ok (.aload_n 0, 1) := by decide +kernel
theorem dX3_numberWords_51 : decode cX3_numberWords 51 = .ok (.getfield 21, 3) := by decide +kernel
theorem dX3_numberWords_54 : decode cX3_numberWords 54 = .ok (.iload_n 2, 1) := by decide +kernel
theorem dX3_numberWords_55 : decode cX3_numberWords 55 = .ok (.iload_n 3, 1) := by decide +kernel
theorem dX3_numberWords_56 : decode cX3_numberWords 56 = .ok (.aload_n 0, 1) := by decide +kernel
theorem dX3_numberWords_57 : decode cX3_numberWords 57 = .ok (.iload_n 3, 1) := by decide +kernel
theorem dX3_numberWords_58 : decode cX3_numberWords 58 = .ok (.invokestatic 134, 3) := by decide +kernel
theorem dX3_numberWords_61 : decode cX3_numberWords 61 = .ok (.invokevirtual 139, 3) := by decide +kernel
theorem dX3_numberWords_64 : decode cX3_numberWords 64 = .ok (.invokestatic 142, 3) := by decide +kernel
theorem dX3_numberWords_67 : decode cX3_numberWords 67 = .ok (.invokestatic 96, 3) := by decide +kernel
theorem dX3_numberWords_70 : decode cX3_numberWords 70 = .ok (.iinc 2 1, 3) := by decide +kernel
theorem dX3_numberWords_73 : decode cX3_numberWords 73 = .ok (.goto (-40), 3) := by decide +kernel
theorem dX3_numberWords_76 : decode cX3_numberWords 76 = .ok (.iconst 0, 1) := by decide +kernel
theorem dX3_numberWords_77 : decode cX3_numberWords 77 = .ok (.istore_n 2, 1) := by decide +kernel
theorem dX3_numberWords_78 : decode cX3_numberWords 78 = .ok (.iload_n 2, 1) := by decide +kernel
theorem dX3_numberWords_79 : decode cX3_numberWords 79 = .ok (.aload_n 1, 1) := by decide +kernel
theorem dX3_numberWords_80 : decode cX3_numberWords 80 = .ok (.getfield 58, 3) := by decide +kernel
theorem dX3_numberWords_83 : decode cX3_numberWords 83 = .ok (.if_icmp .ge 26, 3) := by decide +kernel
theorem dX3_numberWords_86 : decode cX3_numberWords 86 = .ok (.aload_n 0, 1) := by decide +kernel
theorem dX3_numberWords_87 : decode cX3_numberWords 87 = .ok (.getfield 30, 3) := by decide +kernel
theorem dX3_numberWords_90 : decode cX3_numberWords 90 = .ok (.aload_n 0, 1) := by decide +kernel
theorem dX3_numberWords_91 : decode cX3_numberWords 91 = .ok (.aload_n 1, 1) := by decide +kernel
theorem dX3_numberWords_92 : decode cX3_numberWords 92 = .ok (.iload_n 2, 1) := by decide +kernel
theorem dX3_numberWords_93 : decode cX3_numberWords 93 = .ok (.invokevirtual 62, 3) := by decide +kernel
theorem dX3_numberWords_96 : decode cX3_numberWords 96 = .ok (.invokevirtual 139, 3) := by decide +kernel
theorem dX3_numberWords_99 : decode cX3_numberWords 99 = .ok (.iconst 1, 1) := by decide +kernel
theorem dX3_numberWords_100 : decode cX3_numberWords 100 = .ok (.invokestatic 96, 3) := by decide +kernel
theorem dX3_numberWords_103 : decode cX3_numberWords 103 = .ok (.iinc 2 1, 3) := by decide +kernel
theorem dX3_numberWords_106 : decode cX3_numberWords 106 = .ok (.goto (-28), 3) := by decide +kernel
theorem dX3_numberWords_109 : decode cX3_numberWords 109 = .ok (.return_, 1) := by decide +kernel
theorem dX3_countPaths_0 : decode cX3_countPaths 0 = .ok (.iconst 0, 1) := by decide +kernel
theorem dX3_countPaths_1 : decode cX3_countPaths 1 = .ok (.istore_n 1, 1) := by decide +kernel
theorem dX3_countPaths_2 : decode cX3_countPaths 2 = .ok (.iload_n 1, 1) := by decide +kernel
theorem dX3_countPaths_3 : decode cX3_countPaths 3 = .ok (.aload_n 0, 1) := by decide +kernel
theorem dX3_countPaths_4 : decode cX3_countPaths 4 = .ok (.getfield 76, 3) := by decide +kernel
theorem dX3_countPaths_7 : decode cX3_countPaths 7 = .ok (.if_icmp .ge 26, 3) := by decide +kernel
theorem dX3_countPaths_10 : decode cX3_countPaths 10 = .ok (.aload_n 0, 1) := by decide +kernel
theorem dX3_countPaths_11 : decode cX3_countPaths 11 = .ok (.getfield 48, 3) := by decide +kernel
theorem dX3_countPaths_14 : decode cX3_countPaths 14 = .ok (.iload_n 1, 1) := by decide +kernel
theorem dX3_countPaths_15 : decode cX3_countPaths 15 = .ok (.aload_n 0, 1) := by decide +kernel
theorem dX3_countPaths_16 : decode cX3_countPaths 16 = .ok (.getfield 30, 3) := by decide +kernel
theorem dX3_countPaths_19 : decode cX3_countPaths 19 = .ok (.iload_n 1, 1) := by decide +kernel
theorem dX3_countPaths_20 : decode cX3_countPaths 20 = .ok (.invokestatic 127, 3) := by decide +kernel
theorem dX3_countPaths_23 : decode cX3_countPaths 23 = .ok (.i2l, 1) := by decide +kernel
theorem dX3_countPaths_24 : decode cX3_countPaths 24 = .ok (.invokestatic 146, 3) := by decide +kernel
theorem dX3_countPaths_27 : decode cX3_countPaths 27 = .ok (.iinc 1 1, 3) := by decide +kernel
theorem dX3_countPaths_30 : decode cX3_countPaths 30 = .ok (.goto (-28), 3) := by decide +kernel
theorem dX3_countPaths_33 : decode cX3_countPaths 33 = .ok (.iconst 0, 1) := by decide +kernel
theorem dX3_countPaths_34 : decode cX3_countPaths 34 = .ok (.istore_n 1, 1) := by decide +kernel
theorem dX3_countPaths_35 : decode cX3_countPaths 35 = .ok (.iload_n 1, 1) := by decide +kernel
theorem dX3_countPaths_36 : decode cX3_countPaths 36 = .ok (.aload_n 0, 1) := by decide +kernel
theorem dX3_countPaths_37 : decode cX3_countPaths 37 = .ok (.getfield 76, 3) := by decide +kernel
theorem dX3_countPaths_40 : decode cX3_countPaths 40 = .ok (.if_icmp .ge 75, 3) := by decide +kernel
theorem dX3_countPaths_43 : decode cX3_countPaths 43 = .ok (.aload_n 0, 1) := by decide +kernel
theorem dX3_countPaths_44 : decode cX3_countPaths 44 = .ok (.getfield 24, 3) := by decide +kernel
theorem dX3_countPaths_47 : decode cX3_countPaths 47 = .ok (.iload_n 1, 1) := by decide +kernel
theorem dX3_countPaths_48 : decode cX3_countPaths 48 = .ok (.invokestatic 127, 3) := by decide +kernel
theorem dX3_countPaths_51 : decode cX3_countPaths 51 = .ok (.istore_n 2, 1) := by decide +kernel
theorem dX3_countPaths_52 : decode cX3_countPaths 52 = .ok (.iload_n 2, 1) := by decide +kernel
theorem dX3_countPaths_53 : decode cX3_countPaths 53 = .ok (.aload_n 0, 1) := by decide +kernel
theorem dX3_countPaths_54 : decode cX3_countPaths 54 = .ok (.getfield 24, 3) := by decide +kernel
theorem dX3_countPaths_57 : decode cX3_countPaths 57 = .ok (.iload_n 1, 1) := by decide +kernel
theorem dX3_countPaths_58 : decode cX3_countPaths 58 = .ok (.iconst 1, 1) := by decide +kernel
theorem dX3_countPaths_59 : decode cX3_countPaths 59 = .ok (.iadd, 1) := by decide +kernel
theorem dX3_countPaths_60 : decode cX3_countPaths 60 = .ok (.invokestatic 127, 3) := by decide +kernel
theorem dX3_countPaths_63 : decode cX3_countPaths 63 = .ok (.if_icmp .ge 46, 3) := by decide +kernel
theorem dX3_countPaths_66 : decode cX3_countPaths 66 = .ok (.aload_n 0, 1) := by decide +kernel
theorem dX3_countPaths_67 : decode cX3_countPaths 67 = .ok (.getfield 21, 3) := by decide +kernel
theorem dX3_countPaths_70 : decode cX3_countPaths 70 = .ok (.iload_n 2, 1) := by decide +kernel
theorem dX3_countPaths_71 : decode cX3_countPaths 71 = .ok (.invokestatic 127, 3) := by decide +kernel
theorem dX3_countPaths_74 : decode cX3_countPaths 74 = .ok (.invokestatic 134, 3) := by decide +kernel
theorem dX3_countPaths_77 : decode cX3_countPaths 77 = .ok (.istore_n 3, 1) := by decide +kernel
theorem dX3_countPaths_78 : decode cX3_countPaths 78 = .ok (.aload_n 0, 1) := by decide +kernel
theorem dX3_countPaths_79 : decode cX3_countPaths 79 = .ok (.getfield 48, 3) := by decide +kernel
theorem dX3_countPaths_82 : decode cX3_countPaths 82 = .ok (.iload_n 3, 1) := by decide +kernel
theorem dX3_countPaths_83 : decode cX3_countPaths 83 = .ok (.aload_n 0, 1) := by decide +kernel
theorem dX3_countPaths_84 : decode cX3_countPaths 84 = .ok (.getfield 48, 3) := by decide +kernel
theorem dX3_countPaths_87 : decode cX3_countPaths 87 = .ok (.iload_n 3, 1) := by decide +kernel
theorem dX3_countPaths_88 : decode cX3_countPaths 88 = .ok (.invokestatic 149, 3) := by decide +kernel
theorem dX3_countPaths_91 : decode cX3_countPaths 91 = .ok (.aload_n 0, 1) := by decide +kernel
theorem dX3_countPaths_92 : decode cX3_countPaths 92 = .ok (.getfield 48, 3) := by decide +kernel
theorem dX3_countPaths_95 : decode cX3_countPaths 95 = .ok (.iload_n 1, 1) := by decide +kernel
theorem dX3_countPaths_96 : decode cX3_countPaths 96 = .ok (.invokestatic 149, 3) := by decide +kernel
theorem dX3_countPaths_99 : decode cX3_countPaths 99 = .ok (.ladd, 1) := by decide +kernel
theorem dX3_countPaths_100 : decode cX3_countPaths 100 = .ok (.invokestatic 146, 3) := by decide +kernel
theorem dX3_countPaths_103 : decode cX3_countPaths 103 = .ok (.iinc 2 1, 3) := by decide +kernel
theorem dX3_countPaths_106 : decode cX3_countPaths 106 = .ok (.goto (-54), 3) := by decide +kernel
theorem dX3_countPaths_109 : decode cX3_countPaths 109 = .ok (.iinc 1 1, 3) := by decide +kernel
theorem dX3_countPaths_112 : decode cX3_countPaths 112 = .ok (.goto (-77), 3) := by decide +kernel
theorem dX3_countPaths_115 : decode cX3_countPaths 115 = .ok (.return_, 1) := by decide +kernel
theorem dX3_findFollowers_0 : decode cX3_findFollowers 0 = .ok (.aload_n 0, 1) := by decide +kernel
theorem dX3_findFollowers_1 : decode cX3_findFollowers 1 = .ok (.getfield 33, 3) := by decide +kernel
theorem dX3_findFollowers_4 : decode cX3_findFollowers 4 = .ok (.iconst 0, 1) := by decide +kernel
theorem dX3_findFollowers_5 : decode cX3_findFollowers 5 = .ok (.invokestatic 115, 3) := by decide +kernel
theorem dX3_findFollowers_8 : decode cX3_findFollowers 8 = .ok (.iconst 0, 1) := by decide +kernel
theorem dX3_findFollowers_9 : decode cX3_findFollowers 9 = .ok (.istore_n 1, 1) := by decide +kernel
theorem dX3_findFollowers_10 : decode cX3_findFollowers 10 = .ok (.iload_n 1, 1) := by decide +kernel
theorem dX3_findFollowers_11 : decode cX3_findFollowers 11 = .ok (.aload_n 0, 1) := by decide +kernel
theorem dX3_findFollowers_12 : decode cX3_findFollowers 12 = .ok (.getfield 76, 3) := by decide +kernel
theorem dX3_findFollowers_15 : decode cX3_findFollowers 15 = .ok (.if_icmp .ge 143, 3) := by decide +kernel
theorem dX3_findFollowers_18 : decode cX3_findFollowers 18 = .ok (.iconst 0, 1) := by decide +kernel
theorem dX3_findFollowers_19 : decode cX3_findFollowers 19 = .ok (.istore_n 2, 1) := by decide +kernel
theorem dX3_findFollowers_20 : decode cX3_findFollowers 20 = .ok (.aload_n 0, 1) := by decide +kernel
theorem dX3_findFollowers_21 : decode cX3_findFollowers 21 = .ok (.getfield 24, 3) := by decide +kernel
theorem dX3_findFollowers_24 : decode cX3_findFollowers 24 = .ok (.iload_n 1, 1) := by decide +kernel
theorem dX3_findFollowers_25 : decode cX3_findFollowers 25 = .ok (.invokestatic 127, 3) := by decide +kernel
theorem dX3_findFollowers_28 : decode cX3_findFollowers 28 = .ok (.istore_n 3, 1) := by decide +kernel
theorem dX3_findFollowers_29 : decode cX3_findFollowers 29 = .ok (.iload_n 3, 1) := by decide +kernel
theorem dX3_findFollowers_30 : decode cX3_findFollowers 30 = .ok (.aload_n 0, 1) := by decide +kernel
theorem dX3_findFollowers_31 : decode cX3_findFollowers 31 = .ok (.getfield 24, 3) := by decide +kernel
theorem dX3_findFollowers_34 : decode cX3_findFollowers 34 = .ok (.iload_n 1, 1) := by decide +kernel
theorem dX3_findFollowers_35 : decode cX3_findFollowers 35 = .ok (.iconst 1, 1) := by decide +kernel
theorem dX3_findFollowers_36 : decode cX3_findFollowers 36 = .ok (.iadd, 1) := by decide +kernel
theorem dX3_findFollowers_37 : decode cX3_findFollowers 37 = .ok (.invokestatic 127, 3) := by decide +kernel
theorem dX3_findFollowers_40 : decode cX3_findFollowers 40 = .ok (.if_icmp .ge 60, 3) := by decide +kernel
theorem dX3_findFollowers_43 : decode cX3_findFollowers 43 = .ok (.aload_n 0, 1) := by decide +kernel
theorem dX3_findFollowers_44 : decode cX3_findFollowers 44 = .ok (.getfield 21, 3) := by decide +kernel
theorem dX3_findFollowers_47 : decode cX3_findFollowers 47 = .ok (.iload_n 3, 1) := by decide +kernel
theorem dX3_findFollowers_48 : decode cX3_findFollowers 48 = .ok (.invokestatic 127, 3) := by decide +kernel
theorem dX3_findFollowers_51 : decode cX3_findFollowers 51 = .ok (.istore 4, 2) := by decide +kernel
theorem dX3_findFollowers_53 : decode cX3_findFollowers 53 = .ok (.iconst 1, 1) := by decide +kernel
theorem dX3_findFollowers_54 : decode cX3_findFollowers 54 = .ok (.iload 4, 2) := by decide +kernel
theorem dX3_findFollowers_56 : decode cX3_findFollowers 56 = .ok (.invokestatic 152, 3) := by decide +kernel
theorem dX3_findFollowers_59 : decode cX3_findFollowers 59 = .ok (.ishl, 1) := by decide +kernel
theorem dX3_findFollowers_60 : decode cX3_findFollowers 60 = .ok (.istore 5, 2) := by decide +kernel
theorem dX3_findFollowers_62 : decode cX3_findFollowers 62 = .ok (.iload_n 2, 1) := by decide +kernel
theorem dX3_findFollowers_63 : decode cX3_findFollowers 63 = .ok (.iload 5, 2) := by decide +kernel
theorem dX3_findFollowers_65 : decode cX3_findFollowers 65 = .ok (.ior, 1) := by decide +kernel
theorem dX3_findFollowers_66 : decode cX3_findFollowers 66 = .ok (.istore_n 2, 1) := by decide +kernel
theorem dX3_findFollowers_67 : decode cX3_findFollowers 67 = .ok (.aload_n 0, 1) := by decide +kernel
theorem dX3_findFollowers_68 : decode cX3_findFollowers 68 = .ok (.getfield 33, 3) := by decide +kernel
theorem dX3_findFollowers_71 : decode cX3_findFollowers 71 = .ok (.iload 4, 2) := by decide +kernel
theorem dX3_findFollowers_73 : decode cX3_findFollowers 73 = .ok (.invokestatic 134, 3) := by decide +kernel
theorem dX3_findFollowers_76 : decode cX3_findFollowers 76 = .ok (.aload_n 0, 1) := by decide +kernel
theorem dX3_findFollowers_77 : decode cX3_findFollowers 77 = .ok (.getfield 33, 3) := by decide +kernel
theorem dX3_findFollowers_80 : decode cX3_findFollowers 80 = .ok (.iload 4, 2) := by decide +kernel
theorem dX3_findFollowers_82 : decode cX3_findFollowers 82 = .ok (.invokestatic 134, 3) := by decide +kernel
theorem dX3_findFollowers_85 : decode cX3_findFollowers 85 = .ok (.invokestatic 127, 3) := by decide +kernel
theorem dX3_findFollowers_88 : decode cX3_findFollowers 88 = .ok (.iload 5, 2) := by decide +kernel
theorem dX3_findFollowers_90 : decode cX3_findFollowers 90 = .ok (.ior, 1) := by decide +kernel
theorem dX3_findFollowers_91 : decode cX3_findFollowers 91 = .ok (.invokestatic 96, 3) := by decide +kernel
theorem dX3_findFollowers_94 : decode cX3_findFollowers 94 = .ok (.iinc 3 1, 3) := by decide +kernel
theorem dX3_findFollowers_97 : decode cX3_findFollowers 97 = .ok (.goto (-68), 3) := by decide +kernel
theorem dX3_findFollowers_100 : decode cX3_findFollowers 100 = .ok (.aload_n 0, 1) := by decide +kernel
theorem dX3_findFollowers_101 : decode cX3_findFollowers 101 = .ok (.dup, 1) := by decide +kernel
theorem dX3_findFollowers_102 : decode cX3_findFollowers 102 = .ok (.getfield 121, 3) := by decide +kernel
theorem dX3_findFollowers_105 : decode cX3_findFollowers 105 = .ok (.iload_n 2, 1) := by decide +kernel
theorem dX3_findFollowers_106 : decode cX3_findFollowers 106 = .ok (.ior, 1) := by decide +kernel
theorem dX3_findFollowers_107 : decode cX3_findFollowers 107 = .ok (.putfield 121, 3) := by decide +kernel
theorem dX3_findFollowers_110 : decode cX3_findFollowers 110 = .ok (.iconst 0, 1) := by decide +kernel
theorem dX3_findFollowers_111 : decode cX3_findFollowers 111 = .ok (.istore_n 3, 1) := by decide +kernel
theorem dX3_findFollowers_112 : decode cX3_findFollowers 112 = .ok (.iload_n 3, 1) := by decide +kernel
theorem dX3_findFollowers_113 : decode cX3_findFollowers 113 = .ok (.aload_n 0, 1) := by decide +kernel
theorem dX3_findFollowers_114 : decode cX3_findFollowers 114 = .ok (.getfield 52, 3) := by decide +kernel
theorem dX3_findFollowers_117 : decode cX3_findFollowers 117 = .ok (.arraylength, 1) := by decide +kernel
theorem dX3_findFollowers_118 : decode cX3_findFollowers 118 = .ok (.if_icmp .ge 34, 3) := by decide +kernel
theorem dX3_findFollowers_121 : decode cX3_findFollowers 121 = .ok (.aload_n 0, 1) := by decide +kernel
theorem dX3_findFollowers_122 : decode cX3_findFollowers 122 = .ok (.getfield 33, 3) := by decide +kernel
theorem dX3_findFollowers_125 : decode cX3_findFollowers 125 = .ok (.iload_n 1, 1) := by decide +kernel
theorem dX3_findFollowers_126 : decode cX3_findFollowers 126 = .ok (.invokestatic 127, 3) := by decide +kernel
theorem dX3_findFollowers_129 : decode cX3_findFollowers 129 = .ok (.iconst 1, 1) := by decide +kernel
theorem dX3_findFollowers_130 : decode cX3_findFollowers 130 = .ok (.iload_n 3, 1) := by decide +kernel
theorem dX3_findFollowers_131 : decode cX3_findFollowers 131 = .ok (.ishl, 1) := by decide +kernel
theorem dX3_findFollowers_132 : decode cX3_findFollowers 132 = .ok (.iand, 1) := by decide +kernel
theorem dX3_findFollowers_133 : decode cX3_findFollowers 133 = .ok (.ifCond .eq 13, 3) := by decide +kernel
theorem dX3_findFollowers_136 : decode cX3_findFollowers 136 = .ok (.aload_n 0, 1) := by decide +kernel
theorem dX3_findFollowers_137 : decode cX3_findFollowers 137 = .ok (.getfield 52, 3) := by decide +kernel
theorem dX3_findFollowers_140 : decode cX3_findFollowers 140 = .ok (.iload_n 3, 1) := by decide +kernel
theorem dX3_findFollowers_141 : decode cX3_findFollowers 141 = .ok (.dup2, 1) := by decide +kernel
theorem dX3_findFollowers_142 : decode cX3_findFollowers 142 = .ok (.iaload, 1) := by decide +kernel
theorem dX3_findFollowers_143 : decode cX3_findFollowers 143 = .ok (.iload_n 2, 1) := by decide +kernel
theorem dX3_findFollowers_144 : decode cX3_findFollowers 144 = .ok (.ior, 1) := by decide +kernel
theorem dX3_findFollowers_145 : decode cX3_findFollowers 145 = .ok (.iastore, 1) := by decide +kernel
theorem dX3_findFollowers_146 : decode cX3_findFollowers 146 = .ok (.iinc 3 1, 3) := by decide +kernel
theorem dX3_findFollowers_149 : decode cX3_findFollowers 149 = .ok (.goto (-37), 3) := by decide +kernel
theorem dX3_findFollowers_152 : decode cX3_findFollowers 152 = .ok (.iinc 1 1, 3) := by decide +kernel
theorem dX3_findFollowers_155 : decode cX3_findFollowers 155 = .ok (.goto (-145), 3) := by decide +kernel
theorem dX3_findFollowers_158 : decode cX3_findFollowers 158 = .ok (.return_, 1) := by decide +kernel
theorem dX3_findBestDerivations_0 : decode cX3_findBestDerivations 0 = .ok (.iconst 0, 1) := by decide +kernel
theorem dX3_findBestDerivations_1 : decode cX3_findBestDerivations 1 = .ok (.istore_n 1, 1) := by decide +kernel
theorem dX3_findBestDerivations_2 : decode cX3_findBestDerivations 2 = .ok (.iconst 0, 1) := by decide +kernel
theorem dX3_findBestDerivations_3 : decode cX3_findBestDerivations 3 = .ok (.istore_n 2, 1) := by decide +kernel
theorem dX3_findBestDerivations_4 : decode cX3_findBestDerivations 4 = .ok (.iload_n 2, 1) := by decide +kernel
theorem dX3_findBestDerivations_5 : decode cX3_findBestDerivations 5 = .ok (.aload_n 0, 1) := by decide +kernel
theorem dX3_findBestDerivations_6 : decode cX3_findBestDerivations 6 = .ok (.getfield 76, 3) := by decide +kernel
theorem dX3_findBestDerivations_9 : decode cX3_findBestDerivations 9 = .ok (.if_icmp .ge 51, 3) := by decide +kernel
theorem dX3_findBestDerivations_12 : decode cX3_findBestDerivations 12 = .ok (.aload_n 0, 1) := by decide +kernel
theorem dX3_findBestDerivations_13 : decode cX3_findBestDerivations 13 = .ok (.getfield 39, 3) := by decide +kernel
theorem dX3_findBestDerivations_16 : decode cX3_findBestDerivations 16 = .ok (.iload_n 2, 1) := by decide +kernel
theorem dX3_findBestDerivations_17 : decode cX3_findBestDerivations 17 = .ok (.aload_n 0, 1) := by decide +kernel
theorem dX3_findBestDerivations_18 : decode cX3_findBestDerivations 18 = .ok (.getfield 30, 3) := by decide +kernel
theorem dX3_findBestDerivations_21 : decode cX3_findBestDerivations 21 = .ok (.iload_n 2, 1) := by decide +kernel
theorem dX3_findBestDerivations_22 : decode cX3_findBestDerivations 22 = .ok (.invokestatic 127, 3) := by decide +kernel
theorem dX3_findBestDerivations_25 : decode cX3_findBestDerivations 25 = .ok (.iconst 1, 1) := by decide +kernel
theorem dX3_findBestDerivations_26 : decode cX3_findBestDerivations 26 = .ok (.isub, 1) := by decide +kernel
theorem dX3_findBestDerivations_27 : decode cX3_findBestDerivations 27 = .ok (.invokestatic 96, 3) := by decide +kernel
theorem dX3_findBestDerivations_30 : decode cX3_findBestDerivations 30 = .ok (.aload_n 0, 1) := by decide +kernel
theorem dX3_findBestDerivations_31 : decode cX3_findBestDerivations 31 = .ok (.getfield 30, 3) := by decide +kernel
theorem dX3_findBestDerivations_34 : decode cX3_findBestDerivations 34 = .ok (.iload_n 2, 1) := by decide +kernel
theorem dX3_findBestDerivations_35 : decode cX3_findBestDerivations 35 = .ok (.invokestatic 127, 3) := by decide +kernel
theorem dX3_findBestDerivations_38 : decode cX3_findBestDerivations 38 = .ok (.iconst 1, 1) := by decide +kernel
theorem dX3_findBestDerivations_39 : decode cX3_findBestDerivations 39 = .ok (.if_icmp .ne 15, 3) := by decide +kernel
theorem dX3_findBestDerivations_42 : decode cX3_findBestDerivations 42 = .ok (.aload_n 0, 1) := by decide +kernel
theorem dX3_findBestDerivations_43 : decode cX3_findBestDerivations 43 = .ok (.getfield 36, 3) := by decide +kernel
theorem dX3_findBestDerivations_46 : decode cX3_findBestDerivations 46 = .ok (.iload_n 1, 1) := by decide +kernel
theorem dX3_findBestDerivations_47 : decode cX3_findBestDerivations 47 = .ok (.iload_n 2, 1) := by decide +kernel
theorem dX3_findBestDerivations_48 : decode cX3_findBestDerivations 48 = .ok (.invokestatic 96, 3) := by decide +kernel
theorem dX3_findBestDerivations_51 : decode cX3_findBestDerivations 51 = .ok (.iinc 1 1, 3) := by decide +kernel
theorem dX3_findBestDerivations_54 : decode cX3_findBestDerivations 54 = .ok (.iinc 2 1, 3) := by decide +kernel
theorem dX3_findBestDerivations_57 : decode cX3_findBestDerivations 57 = .ok (.goto (-53), 3) := by decide +kernel
theorem dX3_findBestDerivations_60 : decode cX3_findBestDerivations 60 = .ok (.iconst 0, 1) := by decide +kernel
theorem dX3_findBestDerivations_61 : decode cX3_findBestDerivations 61 = .ok (.istore_n 2, 1) := by decide +kernel
theorem dX3_findBestDerivations_62 : decode cX3_findBestDerivations 62 = .ok (.iload_n 2, 1) := by decide +kernel
theorem dX3_findBestDerivations_63 : decode cX3_findBestDerivations 63 = .ok (.iload_n 1, 1) := by decide +kernel
theorem dX3_findBestDerivations_64 : decode cX3_findBestDerivations 64 = .ok (.if_icmp .ge 139, 3) := by decide +kernel
theorem dX3_findBestDerivations_67 : decode cX3_findBestDerivations 67 = .ok (.iload_n 2, 1) := by decide +kernel
theorem dX3_findBestDerivations_68 : decode cX3_findBestDerivations 68 = .ok (.sipush 300, 3) := by decide +kernel
theorem dX3_findBestDerivations_71 : decode cX3_findBestDerivations 71 = .ok (.if_icmp .ge 132, 3) := by decide +kernel
theorem dX3_findBestDerivations_74 : decode cX3_findBestDerivations 74 = .ok (.aload_n 0, 1) := by decide +kernel
theorem dX3_findBestDerivations_75 : decode cX3_findBestDerivations 75 = .ok (.getfield 36, 3) := by decide +kernel
theorem dX3_findBestDerivations_78 : decode cX3_findBestDerivations 78 = .ok (.iload_n 2, 1) := by decide +kernel
theorem dX3_findBestDerivations_79 : decode cX3_findBestDerivations 79 = .ok (.invokestatic 127, 3) := by decide +kernel
theorem dX3_findBestDerivations_82 : decode cX3_findBestDerivations 82 = .ok (.istore_n 3, 1) := by decide +kernel
theorem dX3_findBestDerivations_83 : decode cX3_findBestDerivations 83 = .ok (.aload_n 0, 1) := by decide +kernel
theorem dX3_findBestDerivations_84 : decode cX3_findBestDerivations 84 = .ok (.getfield 24, 3) := by decide +kernel
theorem dX3_findBestDerivations_87 : decode cX3_findBestDerivations 87 = .ok (.iload_n 3, 1) := by decide +kernel
theorem dX3_findBestDerivations_88 : decode cX3_findBestDerivations 88 = .ok (.invokestatic 127, 3) := by decide +kernel
theorem dX3_findBestDerivations_91 : decode cX3_findBestDerivations 91 = .ok (.istore 4, 2) := by decide +kernel
theorem dX3_findBestDerivations_93 : decode cX3_findBestDerivations 93 = .ok (.iload 4, 2) := by decide +kernel
theorem dX3_findBestDerivations_95 : decode cX3_findBestDerivations 95 = .ok (.aload_n 0, 1) := by decide +kernel
theorem dX3_findBestDerivations_96 : decode cX3_findBestDerivations 96 = .ok (.getfield 24, 3) := by decide +kernel
theorem dX3_findBestDerivations_99 : decode cX3_findBestDerivations 99 = .ok (.iload_n 3, 1) := by decide +kernel
theorem dX3_findBestDerivations_100 : decode cX3_findBestDerivations 100 = .ok (.iconst 1, 1) := by decide +kernel
theorem dX3_findBestDerivations_101 : decode cX3_findBestDerivations 101 = .ok (.iadd, 1) := by decide +kernel
theorem dX3_findBestDerivations_102 : decode cX3_findBestDerivations 102 = .ok (.invokestatic 127, 3) := by decide +kernel
theorem dX3_findBestDerivations_105 : decode cX3_findBestDerivations 105 = .ok (.if_icmp .ge 92, 3) := by decide +kernel
theorem dX3_findBestDerivations_108 : decode cX3_findBestDerivations 108 = .ok (.aload_n 0, 1) := by decide +kernel
theorem dX3_findBestDerivations_109 : decode cX3_findBestDerivations 109 = .ok (.getfield 21, 3) := by decide +kernel
theorem dX3_findBestDerivations_112 : decode cX3_findBestDerivations 112 = .ok (.iload 4, 2) := by decide +kernel
theorem dX3_findBestDerivations_114 : decode cX3_findBestDerivations 114 = .ok (.invokestatic 127, 3) := by decide +kernel
theorem dX3_findBestDerivations_117 : decode cX3_findBestDerivations 117 = .ok (.istore 5, 2) := by decide +kernel
theorem dX3_findBestDerivations_119 : decode cX3_findBestDerivations 119 = .ok (.iload 5, 2) := by decide +kernel
theorem dX3_findBestDerivations_121 : decode cX3_findBestDerivations 121 = .ok (.invokestatic 134, 3) := by decide +kernel
theorem dX3_findBestDerivations_124 : decode cX3_findBestDerivations 124 = .ok (.istore 6, 2) := by decide +kernel
theorem dX3_findBestDerivations_126 : decode cX3_findBestDerivations 126 = .ok (.aload_n 0, 1) := by decide +kernel
theorem dX3_findBestDerivations_127 : decode cX3_findBestDerivations 127 = .ok (.getfield 39, 3) := by decide +kernel
theorem dX3_findBestDerivations_130 : decode cX3_findBestDerivations 130 = .ok (.iload 6, 2) := by decide +kernel
theorem dX3_findBestDerivations_132 : decode cX3_findBestDerivations 132 = .ok (.invokestatic 127, 3) := by decide +kernel
theorem dX3_findBestDerivations_135 : decode cX3_findBestDerivations 135 = .ok (.ifCond .ge 56, 3) := by decide +kernel
theorem dX3_findBestDerivations_138 : decode cX3_findBestDerivations 138 = .ok (.aload_n 0, 1) := by decide +kernel
theorem dX3_findBestDerivations_139 : decode cX3_findBestDerivations 139 = .ok (.getfield 39, 3) := by decide +kernel
theorem dX3_findBestDerivations_142 : decode cX3_findBestDerivations 142 = .ok (.iload 6, 2) := by decide +kernel
theorem dX3_findBestDerivations_144 : decode cX3_findBestDerivations 144 = .ok (.aload_n 0, 1) := by decide +kernel
theorem dX3_findBestDerivations_145 : decode cX3_findBestDerivations 145 = .ok (.getfield 39, 3) := by decide +kernel
theorem dX3_findBestDerivations_148 : decode cX3_findBestDerivations 148 = .ok (.iload_n 3, 1) := by decide +kernel
theorem dX3_findBestDerivations_149 : decode cX3_findBestDerivations 149 = .ok (.invokestatic 127, 3) := by decide +kernel
theorem dX3_findBestDerivations_152 : decode cX3_findBestDerivations 152 = .ok (.iconst 1, 1) := by decide +kernel
theorem dX3_findBestDerivations_153 : decode cX3_findBestDerivations 153 = .ok (.iadd, 1) := by decide +kernel
theorem dX3_findBestDerivations_154 : decode cX3_findBestDerivations 154 = .ok (.invokestatic 96, 3) := by decide +kernel
theorem dX3_findBestDerivations_157 : decode cX3_findBestDerivations 157 = .ok (.aload_n 0, 1) := by decide +kernel
theorem dX3_findBestDerivations_158 : decode cX3_findBestDerivations 158 = .ok (.getfield 42, 3) := by decide +kernel
theorem dX3_findBestDerivations_161 : decode cX3_findBestDerivations 161 = .ok (.iload 6, 2) := by decide +kernel
theorem dX3_findBestDerivations_163 : decode cX3_findBestDerivations 163 = .ok (.iload 5, 2) := by decide +kernel
theorem dX3_findBestDerivations_165 : decode cX3_findBestDerivations 165 = .ok (.invokestatic 96, 3) := by decide +kernel
theorem dX3_findBestDerivations_168 : decode cX3_findBestDerivations 168 = .ok (.aload_n 0, 1) := by decide +kernel
theorem dX3_findBestDerivations_169 : decode cX3_findBestDerivations 169 = .ok (.getfield 45, 3) := by decide +kernel
theorem dX3_findBestDerivations_172 : decode cX3_findBestDerivations 172 = .ok (.iload 6, 2) := by decide +kernel
theorem dX3_findBestDerivations_174 : decode cX3_findBestDerivations 174 = .ok (.iload_n 3, 1) := by decide +kernel
theorem dX3_findBestDerivations_175 : decode cX3_findBestDerivations 175 = .ok (.invokestatic 96, 3) := by decide +kernel
theorem dX3_findBestDerivations_178 : decode cX3_findBestDerivations 178 = .ok (.aload_n 0, 1) := by decide +kernel
theorem dX3_findBestDerivations_179 : decode cX3_findBestDerivations 179 = .ok (.getfield 36, 3) := by decide +kernel
theorem dX3_findBestDerivations_182 : decode cX3_findBestDerivations 182 = .ok (.iload_n 1, 1) := by decide +kernel
theorem dX3_findBestDerivations_183 : decode cX3_findBestDerivations 183 = .ok (.iload 6, 2) := by decide +kernel
theorem dX3_findBestDerivations_185 : decode cX3_findBestDerivations 185 = .ok (.invokestatic 96, 3) := by decide +kernel
theorem dX3_findBestDerivations_188 : decode cX3_findBestDerivations 188 = .ok (.iinc 1 1, 3) := by decide +kernel
theorem dX3_findBestDerivations_191 : decode cX3_findBestDerivations 191 = .ok (.iinc 4 1, 3) := by decide +kernel
theorem dX3_findBestDerivations_194 : decode cX3_findBestDerivations 194 = .ok (.goto (-101), 3) := by decide +kernel
theorem dX3_findBestDerivations_197 : decode cX3_findBestDerivations 197 = .ok (.iinc 2 1, 3) := by decide +kernel
theorem dX3_findBestDerivations_200 : decode cX3_findBestDerivations 200 = .ok (.goto (-138), 3) := by decide +kernel
theorem dX3_findBestDerivations_203 : decode cX3_findBestDerivations 203 = .ok (.return_, 1) := by decide +kernel
theorem dX3_wordAt_0 : decode cX3_wordAt 0 = .ok (.aload_n 0, 1) := by decide +kernel
theorem dX3_wordAt_1 : decode cX3_wordAt 1 = .ok (.getfield 9, 3) := by decide +kernel
theorem dX3_wordAt_4 : decode cX3_wordAt 4 = .ok (.iload_n 1, 1) := by decide +kernel
theorem dX3_wordAt_5 : decode cX3_wordAt 5 = .ok (.invokestatic 127, 3) := by decide +kernel
theorem dX3_wordAt_8 : decode cX3_wordAt 8 = .ok (.ireturn, 1) := by decide +kernel
theorem dX3_placeOf_0 : decode cX3_placeOf 0 = .ok (.aload_n 0, 1) := by decide +kernel
theorem dX3_placeOf_1 : decode cX3_placeOf 1 = .ok (.getfield 15, 3) := by decide +kernel
theorem dX3_placeOf_4 : decode cX3_placeOf 4 = .ok (.iload_n 1, 1) := by decide +kernel
theorem dX3_placeOf_5 : decode cX3_placeOf 5 = .ok (.invokestatic 127, 3) := by decide +kernel
theorem dX3_placeOf_8 : decode cX3_placeOf 8 = .ok (.iconst 1, 1) := by decide +kernel
theorem dX3_placeOf_9 : decode cX3_placeOf 9 = .ok (.isub, 1) := by decide +kernel
theorem dX3_placeOf_10 : decode cX3_placeOf 10 = .ok (.ireturn, 1) := by decide +kernel
theorem dX3_wordsOfLength_0 : decode cX3_wordsOfLength 0 = .ok (.iconst 0, 1) := by decide +kernel
theorem dX3_wordsOfLength_1 : decode cX3_wordsOfLength 1 = .ok (.istore_n 2, 1) := by decide +kernel
theorem dX3_wordsOfLength_2 : decode cX3_wordsOfLength 2 = .ok (.iconst 0, 1) := by decide +kernel
theorem dX3_wordsOfLength_3 : decode cX3_wordsOfLength 3 = .ok (.istore_n 3, 1) := by decide +kernel
theorem dX3_wordsOfLength_4 : decode cX3_wordsOfLength 4 = .ok (.iload_n 3, 1) := by decide +kernel
theorem dX3_wordsOfLength_5 : decode cX3_wordsOfLength 5 = .ok (.aload_n 0, 1) := by decide +kernel
theorem dX3_wordsOfLength_6 : decode cX3_wordsOfLength 6 = .ok (.getfield 76, 3) := by decide +kernel
theorem dX3_wordsOfLength_9 : decode cX3_wordsOfLength 9 = .ok (.if_icmp .ge 24, 3) := by decide +kernel
theorem dX3_wordsOfLength_12 : decode cX3_wordsOfLength 12 = .ok (.aload_n 0, 1) := by decide +kernel
theorem dX3_wordsOfLength_13 : decode cX3_wordsOfLength 13 = .ok (.iload_n 3, 1) := by decide +kernel
theorem dX3_wordsOfLength_14 : decode cX3_wordsOfLength 14 = .ok (.invokevirtual 83, 3) := by decide +kernel
theorem dX3_wordsOfLength_17 : decode cX3_wordsOfLength 17 = .ok (.invokestatic 66, 3) := by decide +kernel
theorem dX3_wordsOfLength_20 : decode cX3_wordsOfLength 20 = .ok (.iload_n 1, 1) := by decide +kernel
theorem dX3_wordsOfLength_21 : decode cX3_wordsOfLength 21 = .ok (.if_icmp .ne 6, 3) := by decide +kernel
theorem dX3_wordsOfLength_24 : decode cX3_wordsOfLength 24 = .ok (.iinc 2 1, 3) := by decide +kernel
theorem dX3_wordsOfLength_27 : decode cX3_wordsOfLength 27 = .ok (.iinc 3 1, 3) := by decide +kernel
theorem dX3_wordsOfLength_30 : decode cX3_wordsOfLength 30 = .ok (.goto (-26), 3) := by decide +kernel
theorem dX3_wordsOfLength_33 : decode cX3_wordsOfLength 33 = .ok (.iload_n 2, 1) := by decide +kernel
theorem dX3_wordsOfLength_34 : decode cX3_wordsOfLength 34 = .ok (.ireturn, 1) := by decide +kernel
theorem dX3_isGeneratedBy_0 : decode cX3_isGeneratedBy 0 = .ok (.aload_n 0, 1) := by decide +kernel
theorem dX3_isGeneratedBy_1 : decode cX3_isGeneratedBy 1 = .ok (.getfield 30, 3) := by decide +kernel
theorem dX3_isGeneratedBy_4 : decode cX3_isGeneratedBy 4 = .ok (.iconst 0, 1) := by decide +kernel
theorem dX3_isGeneratedBy_5 : decode cX3_isGeneratedBy 5 = .ok (.aload_n 0, 1) := by decide +kernel
theorem dX3_isGeneratedBy_6 : decode cX3_isGeneratedBy 6 = .ok (.getfield 33, 3) := by decide +kernel
theorem dX3_isGeneratedBy_9 : decode cX3_isGeneratedBy 9 = .ok (.iconst 0, 1) := by decide +kernel
theorem dX3_isGeneratedBy_10 : decode cX3_isGeneratedBy 10 = .ok (.sipush 300, 3) := by decide +kernel
theorem dX3_isGeneratedBy_13 : decode cX3_isGeneratedBy 13 = .ok (.invokestatic 155, 3) := by decide +kernel
theorem dX3_isGeneratedBy_16 : decode cX3_isGeneratedBy 16 = .ok (.iconst 0, 1) := by decide +kernel
theorem dX3_isGeneratedBy_17 : decode cX3_isGeneratedBy 17 = .ok (.istore_n 2, 1) := by decide +kernel
theorem dX3_isGeneratedBy_18 : decode cX3_isGeneratedBy 18 = .ok (.iload_n 2, 1) := by decide +kernel
theorem dX3_isGeneratedBy_19 : decode cX3_isGeneratedBy 19 = .ok (.aload_n 0, 1) := by decide +kernel
theorem dX3_isGeneratedBy_20 : decode cX3_isGeneratedBy 20 = .ok (.getfield 76, 3) := by decide +kernel
theorem dX3_isGeneratedBy_23 : decode cX3_isGeneratedBy 23 = .ok (.if_icmp .ge 86, 3) := by decide +kernel
theorem dX3_isGeneratedBy_26 : decode cX3_isGeneratedBy 26 = .ok (.aload_n 0, 1) := by decide +kernel
theorem dX3_isGeneratedBy_27 : decode cX3_isGeneratedBy 27 = .ok (.getfield 33, 3) := by decide +kernel
theorem dX3_isGeneratedBy_30 : decode cX3_isGeneratedBy 30 = .ok (.iload_n 2, 1) := by decide +kernel
theorem dX3_isGeneratedBy_31 : decode cX3_isGeneratedBy 31 = .ok (.invokestatic 127, 3) := by decide +kernel
theorem dX3_isGeneratedBy_34 : decode cX3_isGeneratedBy 34 = .ok (.ifCond .ne 5, 3) := by decide +kernel
theorem dX3_isGeneratedBy_37 : decode cX3_isGeneratedBy 37 = .ok (.iconst 0, 1) := by decide +kernel
theorem dX3_isGeneratedBy_38 : decode cX3_isGeneratedBy 38 = .ok (.ireturn, 1) := by decide +kernel
theorem dX3_isGeneratedBy_39 : decode cX3_isGeneratedBy 39 = .ok (.aload_n 0, 1) := by decide +kernel
theorem dX3_isGeneratedBy_40 : decode cX3_isGeneratedBy 40 = .ok (.getfield 24, 3) := by decide +kernel
theorem dX3_isGeneratedBy_43 : decode cX3_isGeneratedBy 43 = .ok (.iload_n 2, 1) := by decide +kernel
theorem dX3_isGeneratedBy_44 : decode cX3_isGeneratedBy 44 = .ok (.invokestatic 127, 3) := by decide +kernel
theorem dX3_isGeneratedBy_47 : decode cX3_isGeneratedBy 47 = .ok (.istore_n 3, 1) := by decide +kernel
theorem dX3_isGeneratedBy_48 : decode cX3_isGeneratedBy 48 = .ok (.iload_n 3, 1) := by decide +kernel
theorem dX3_isGeneratedBy_49 : decode cX3_isGeneratedBy 49 = .ok (.aload_n 0, 1) := by decide +kernel
theorem dX3_isGeneratedBy_50 : decode cX3_isGeneratedBy 50 = .ok (.getfield 24, 3) := by decide +kernel
theorem dX3_isGeneratedBy_53 : decode cX3_isGeneratedBy 53 = .ok (.iload_n 2, 1) := by decide +kernel
theorem dX3_isGeneratedBy_54 : decode cX3_isGeneratedBy 54 = .ok (.iconst 1, 1) := by decide +kernel
theorem dX3_isGeneratedBy_55 : decode cX3_isGeneratedBy 55 = .ok (.iadd, 1) := by decide +kernel
theorem dX3_isGeneratedBy_56 : decode cX3_isGeneratedBy 56 = .ok (.invokestatic 127, 3) := by decide +kernel
theorem dX3_isGeneratedBy_59 : decode cX3_isGeneratedBy 59 = .ok (.if_icmp .ge 44, 3) := by decide +kernel
theorem dX3_isGeneratedBy_62 : decode cX3_isGeneratedBy 62 = .ok (.aload_n 0, 1) := by decide +kernel
theorem dX3_isGeneratedBy_63 : decode cX3_isGeneratedBy 63 = .ok (.getfield 21, 3) := by decide +kernel
theorem dX3_isGeneratedBy_66 : decode cX3_isGeneratedBy 66 = .ok (.iload_n 3, 1) := by decide +kernel
theorem dX3_isGeneratedBy_67 : decode cX3_isGeneratedBy 67 = .ok (.invokestatic 127, 3) := by decide +kernel
theorem dX3_isGeneratedBy_70 : decode cX3_isGeneratedBy 70 = .ok (.istore 4, 2) := by decide +kernel
theorem dX3_isGeneratedBy_72 : decode cX3_isGeneratedBy 72 = .ok (.iload_n 1, 1) := by decide +kernel
theorem dX3_isGeneratedBy_73 : decode cX3_isGeneratedBy 73 = .ok (.iconst 1, 1) := by decide +kernel
theorem dX3_isGeneratedBy_74 : decode cX3_isGeneratedBy 74 = .ok (.iload 4, 2) := by decide +kernel
theorem dX3_isGeneratedBy_76 : decode cX3_isGeneratedBy 76 = .ok (.invokestatic 152, 3) := by decide +kernel
theorem dX3_isGeneratedBy_79 : decode cX3_isGeneratedBy 79 = .ok (.ishl, 1) := by decide +kernel
theorem dX3_isGeneratedBy_80 : decode cX3_isGeneratedBy 80 = .ok (.iand, 1) := by decide +kernel
theorem dX3_isGeneratedBy_81 : decode cX3_isGeneratedBy 81 = .ok (.ifCond .eq 16, 3) := by decide +kernel
theorem dX3_isGeneratedBy_84 : decode cX3_isGeneratedBy 84 = .ok (.aload_n 0, 1) := by decide +kernel
theorem dX3_isGeneratedBy_85 : decode cX3_isGeneratedBy 85 = .ok (.getfield 33, 3) := by decide +kernel
theorem dX3_isGeneratedBy_88 : decode cX3_isGeneratedBy 88 = .ok (.iload 4, 2) := by decide +kernel
theorem dX3_isGeneratedBy_90 : decode cX3_isGeneratedBy 90 = .ok (.invokestatic 134, 3) := by decide +kernel
theorem dX3_isGeneratedBy_93 : decode cX3_isGeneratedBy 93 = .ok (.iconst 1, 1) := by decide +kernel
theorem dX3_isGeneratedBy_94 : decode cX3_isGeneratedBy 94 = .ok (.invokestatic 96, 3) := by decide +kernel
theorem dX3_isGeneratedBy_97 : decode cX3_isGeneratedBy 97 = .ok (.iinc 3 1, 3) := by decide +kernel
theorem dX3_isGeneratedBy_100 : decode cX3_isGeneratedBy 100 = .ok (.goto (-52), 3) := by decide +kernel
theorem dX3_isGeneratedBy_103 : decode cX3_isGeneratedBy 103 = .ok (.iinc 2 1, 3) := by decide +kernel
theorem dX3_isGeneratedBy_106 : decode cX3_isGeneratedBy 106 = .ok (.goto (-88), 3) := by decide +kernel
theorem dX3_isGeneratedBy_109 : decode cX3_isGeneratedBy 109 = .ok (.iconst 1, 1) := by decide +kernel
theorem dX3_isGeneratedBy_110 : decode cX3_isGeneratedBy 110 = .ok (.ireturn, 1) := by decide +kernel
theorem dX3_smallestContextSet_0 : decode cX3_smallestContextSet 0 = .ok (.aload_n 0, 1) := by decide +kernel
theorem dX3_smallestContextSet_1 : decode cX3_smallestContextSet 1 = .ok (.getfield 124, 3) := by decide +kernel
theorem dX3_smallestContextSet_4 : decode cX3_smallestContextSet 4 = .ok (.ifCond .lt 8, 3) := by decide +kernel
theorem dX3_smallestContextSet_7 : decode cX3_smallestContextSet 7 = .ok (.aload_n 0, 1) := by decide +kernel
theorem dX3_smallestContextSet_8 : decode cX3_smallestContextSet 8 = .ok (.getfield 124, 3) := by decide +kernel
theorem dX3_smallestContextSet_11 : decode cX3_smallestContextSet 11 = .ok (.ireturn, 1) := by decide +kernel
theorem dX3_smallestContextSet_12 : decode cX3_smallestContextSet 12 = .ok (.aload_n 0, 1) := by decide +kernel
theorem dX3_smallestContextSet_13 : decode cX3_smallestContextSet 13 = .ok (.iload_n 1, 1) := by decide +kernel
theorem dX3_smallestContextSet_14 : decode cX3_smallestContextSet 14 = .ok (.putfield 124, 3) := by decide +kernel
theorem dX3_smallestContextSet_17 : decode cX3_smallestContextSet 17 = .ok (.iconst 0, 1) := by decide +kernel
theorem dX3_smallestContextSet_18 : decode cX3_smallestContextSet 18 = .ok (.istore_n 2, 1) := by decide +kernel
theorem dX3_smallestContextSet_19 : decode cX3_smallestContextSet 19 = .ok (.iload_n 2, 1) := by decide +kernel
theorem dX3_smallestContextSet_20 : decode cX3_smallestContextSet 20 = .ok (.iload_n 1, 1) := by decide +kernel
theorem dX3_smallestContextSet_21 : decode cX3_smallestContextSet 21 = .ok (.if_icmp .ge 36, 3) := by decide +kernel
theorem dX3_smallestContextSet_24 : decode cX3_smallestContextSet 24 = .ok (.iload_n 2, 1) := by decide +kernel
theorem dX3_smallestContextSet_25 : decode cX3_smallestContextSet 25 = .ok (.invokestatic 161, 3) := by decide +kernel
theorem dX3_smallestContextSet_28 : decode cX3_smallestContextSet 28 = .ok (.aload_n 0, 1) := by decide +kernel
theorem dX3_smallestContextSet_29 : decode cX3_smallestContextSet 29 = .ok (.getfield 124, 3) := by decide +kernel
theorem dX3_smallestContextSet_32 : decode cX3_smallestContextSet 32 = .ok (.invokestatic 161, 3) := by decide +kernel
theorem dX3_smallestContextSet_35 : decode cX3_smallestContextSet 35 = .ok (.if_icmp .ge 16, 3) := by decide +kernel
theorem dX3_smallestContextSet_38 : decode cX3_smallestContextSet 38 = .ok (.aload_n 0, 1) := by decide +kernel
theorem dX3_smallestContextSet_39 : decode cX3_smallestContextSet 39 = .ok (.iload_n 2, 1) := by decide +kernel
theorem dX3_smallestContextSet_40 : decode cX3_smallestContextSet 40 = .ok (.invokevirtual 166, 3) := by decide +kernel
theorem dX3_smallestContextSet_43 : decode cX3_smallestContextSet 43 = .ok (.ifCond .eq 8, 3) := by decide +kernel
theorem dX3_smallestContextSet_46 : decode cX3_smallestContextSet 46 = .ok (.aload_n 0, 1) := by decide +kernel
theorem dX3_smallestContextSet_47 : decode cX3_smallestContextSet 47 = .ok (.iload_n 2, 1) := by decide +kernel
theorem dX3_smallestContextSet_48 : decode cX3_smallestContextSet 48 = .ok (.putfield 124, 3) := by decide +kernel
theorem dX3_smallestContextSet_51 : decode cX3_smallestContextSet 51 = .ok (.iinc 2 1, 3) := by decide +kernel
theorem dX3_smallestContextSet_54 : decode cX3_smallestContextSet 54 = .ok (.goto (-35), 3) := by decide +kernel
theorem dX3_smallestContextSet_57 : decode cX3_smallestContextSet 57 = .ok (.aload_n 0, 1) := by decide +kernel
theorem dX3_smallestContextSet_58 : decode cX3_smallestContextSet 58 = .ok (.getfield 124, 3) := by decide +kernel
theorem dX3_smallestContextSet_61 : decode cX3_smallestContextSet 61 = .ok (.ireturn, 1) := by decide +kernel
theorem dX3_followersOf_0 : decode cX3_followersOf 0 = .ok (.aload_n 0, 1) := by decide +kernel
theorem dX3_followersOf_1 : decode cX3_followersOf 1 = .ok (.getfield 52, 3) := by decide +kernel
theorem dX3_followersOf_4 : decode cX3_followersOf 4 = .ok (.iload_n 1, 1) := by decide +kernel
theorem dX3_followersOf_5 : decode cX3_followersOf 5 = .ok (.invokestatic 127, 3) := by decide +kernel
theorem dX3_followersOf_8 : decode cX3_followersOf 8 = .ok (.ireturn, 1) := by decide +kernel
theorem dX4_of_0 : decode cX4_of 0 = .ok (.iload_n 0, 1) := by decide +kernel
theorem dX4_of_1 : decode cX4_of 1 = .ok (.bipush 11, 2) := by decide +kernel
theorem dX4_of_3 : decode cX4_of 3 = .ok (.ishl, 1) := by decide +kernel
theorem dX4_of_4 : decode cX4_of 4 = .ok (.iload_n 1, 1) := by decide +kernel
theorem dX4_of_5 : decode cX4_of 5 = .ok (.bipush 8, 2) := by decide +kernel
theorem dX4_of_7 : decode cX4_of 7 = .ok (.ishl, 1) := by decide +kernel
theorem dX4_of_8 : decode cX4_of 8 = .ok (.ior, 1) := by decide +kernel
theorem dX4_of_9 : decode cX4_of 9 = .ok (.iload_n 2, 1) := by decide +kernel
theorem dX4_of_10 : decode cX4_of 10 = .ok (.iconst 4, 1) := by decide +kernel
theorem dX4_of_11 : decode cX4_of 11 = .ok (.ishl, 1) := by decide +kernel
theorem dX4_of_12 : decode cX4_of 12 = .ok (.ior, 1) := by decide +kernel
theorem dX4_of_13 : decode cX4_of 13 = .ok (.iload_n 3, 1) := by decide +kernel
theorem dX4_of_14 : decode cX4_of 14 = .ok (.ior, 1) := by decide +kernel
theorem dX4_of_15 : decode cX4_of 15 = .ok (.ireturn, 1) := by decide +kernel
theorem dX4_withWord_0 : decode cX4_withWord 0 = .ok (.iload_n 1, 1) := by decide +kernel
theorem dX4_withWord_1 : decode cX4_withWord 1 = .ok (.bipush 11, 2) := by decide +kernel
theorem dX4_withWord_3 : decode cX4_withWord 3 = .ok (.ishl, 1) := by decide +kernel
theorem dX4_withWord_4 : decode cX4_withWord 4 = .ok (.iload_n 0, 1) := by decide +kernel
theorem dX4_withWord_5 : decode cX4_withWord 5 = .ok (.sipush 2047, 3) := by decide +kernel
theorem dX4_withWord_8 : decode cX4_withWord 8 = .ok (.iand, 1) := by decide +kernel
theorem dX4_withWord_9 : decode cX4_withWord 9 = .ok (.ior, 1) := by decide +kernel
theorem dX4_withWord_10 : decode cX4_withWord 10 = .ok (.ireturn, 1) := by decide +kernel
theorem dX4_word_0 : decode cX4_word 0 = .ok (.iload_n 0, 1) := by decide +kernel
theorem dX4_word_1 : decode cX4_word 1 = .ok (.bipush 11, 2) := by decide +kernel
theorem dX4_word_3 : decode cX4_word 3 = .ok (.ishr, 1) := by decide +kernel
theorem dX4_word_4 : decode cX4_word 4 = .ok (.ireturn, 1) := by decide +kernel
theorem dX4_context_0 : decode cX4_context 0 = .ok (.iload_n 0, 1) := by decide +kernel
theorem dX4_context_1 : decode cX4_context 1 = .ok (.bipush 8, 2) := by decide +kernel
theorem dX4_context_3 : decode cX4_context 3 = .ok (.ishr, 1) := by decide +kernel
theorem dX4_context_4 : decode cX4_context 4 = .ok (.bipush 7, 2) := by decide +kernel
theorem dX4_context_6 : decode cX4_context 6 = .ok (.iand, 1) := by decide +kernel
theorem dX4_context_7 : decode cX4_context 7 = .ok (.ireturn, 1) := by decide +kernel
theorem dX5_init_0 : decode cX5_init 0 = .ok (.aload_n 0, 1) := by decide +kernel
theorem dX5_init_1 : decode cX5_init 1 = .ok (.invokespecial 1, 3) := by decide +kernel
theorem dX5_init_4 : decode cX5_init 4 = .ok (.aload_n 0, 1) := by decide +kernel
theorem dX5_init_5 : decode cX5_init 5 = .ok (.sipush 512, 3) := by decide +kernel
theorem dX5_init_8 : decode cX5_init 8 = .ok (.newarray .int, 2) := by decide +kernel
theorem dX5_init_10 : decode cX5_init 10 = .ok (.putfield 9, 3) := by decide +kernel
theorem dX5_init_13 : decode cX5_init 13 = .ok (.aload_n 0, 1) := by decide +kernel
theorem dX5_init_14 : decode cX5_init 14 = .ok (.iconst (-1), 1) := by decide +kernel
theorem dX5_init_15 : decode cX5_init 15 = .ok (.putfield 13, 3) := by decide +kernel
theorem dX5_init_18 : decode cX5_init 18 = .ok (.aload_n 0, 1) := by decide +kernel
theorem dX5_init_19 : decode cX5_init 19 = .ok (.sipush 29524, 3) := by decide +kernel
theorem dX5_init_22 : decode cX5_init 22 = .ok (.newarray .int, 2) := by decide +kernel
theorem dX5_init_24 : decode cX5_init 24 = .ok (.putfield 19, 3) := by decide +kernel
theorem dX5_init_27 : decode cX5_init 27 = .ok (.aload_n 0, 1) := by decide +kernel
theorem dX5_init_28 : decode cX5_init 28 = .ok (.sipush 29524, 3) := by decide +kernel
theorem dX5_init_31 : decode cX5_init 31 = .ok (.newarray .int, 2) := by decide +kernel
theorem dX5_init_33 : decode cX5_init 33 = .ok (.putfield 22, 3) := by decide +kernel
theorem dX5_init_36 : decode cX5_init 36 = .ok (.aload_n 0, 1) := by decide +kernel
theorem dX5_init_37 : decode cX5_init 37 = .ok (.iconst 0, 1) := by decide +kernel
theorem dX5_init_38 : decode cX5_init 38 = .ok (.putfield 25, 3) := by decide +kernel
theorem dX5_init_41 : decode cX5_init 41 = .ok (.aload_n 0, 1) := by decide +kernel
theorem dX5_init_42 : decode cX5_init 42 = .ok (.bipush 10, 2) := by decide +kernel
theorem dX5_init_44 : decode cX5_init 44 = .ok (.sipush 225, 3) := by decide +kernel
theorem dX5_init_47 : decode cX5_init 47 = .ok (.multianewarray 30 2, 4) := by decide +kernel
theorem dX5_init_51 : decode cX5_init 51 = .ok (.putfield 32, 3) := by decide +kernel
theorem dX5_init_54 : decode cX5_init 54 = .ok (.return_, 1) := by decide +kernel
theorem dX5_forget_0 : decode cX5_forget 0 = .ok (.aload_n 0, 1) := by decide +kernel
theorem dX5_forget_1 : decode cX5_forget 1 = .ok (.iconst (-1), 1) := by decide +kernel
theorem dX5_forget_2 : decode cX5_forget 2 = .ok (.putfield 13, 3) := by decide +kernel
theorem dX5_forget_5 : decode cX5_forget 5 = .ok (.aload_n 0, 1) := by decide +kernel
theorem dX5_forget_6 : decode cX5_forget 6 = .ok (.iconst 0, 1) := by decide +kernel
theorem dX5_forget_7 : decode cX5_forget 7 = .ok (.putfield 25, 3) := by decide +kernel
theorem dX5_forget_10 : decode cX5_forget 10 = .ok (.return_, 1) := by decide +kernel
theorem dX5_areSingle_0 : decode cX5_areSingle 0 = .ok (.aload_n 0, 1) := by decide +kernel
theorem dX5_areSingle_1 : decode cX5_areSingle 1 = .ok (.getfield 25, 3) := by decide +kernel
theorem dX5_areSingle_4 : decode cX5_areSingle 4 = .ok (.ifCond .ne 60, 3) := by decide +kernel
theorem dX5_areSingle_7 : decode cX5_areSingle 7 = .ok (.aload_n 0, 1) := by decide +kernel
theorem dX5_areSingle_8 : decode cX5_areSingle 8 = .ok (.getfield 22, 3) := by decide +kernel
theorem dX5_areSingle_11 : decode cX5_areSingle 11 = .ok (.iconst 0, 1) := by decide +kernel
theorem dX5_areSingle_12 : decode cX5_areSingle 12 = .ok (.invokestatic 68, 3) := by decide +kernel
theorem dX5_areSingle_15 : decode cX5_areSingle 15 = .ok (.aload_n 0, 1) := by decide +kernel
theorem dX5_areSingle_16 : decode cX5_areSingle 16 = .ok (.iconst 1, 1) := by decide +kernel
theorem dX5_areSingle_17 : decode cX5_areSingle 17 = .ok (.putfield 25, 3) := by decide +kernel
theorem dX5_areSingle_20 : decode cX5_areSingle 20 = .ok (.iconst 0, 1) := by decide +kernel
theorem dX5_areSingle_21 : decode cX5_areSingle 21 = .ok (.istore_n 3, 1) := by decide +kernel
theorem dX5_areSingle_22 : decode cX5_areSingle 22 = .ok (.iload_n 3, 1) := by decide +kernel
theorem dX5_areSingle_23 : decode cX5_areSingle 23 = .ok (.aload_n 2, 1) := by decide +kernel
theorem dX5_areSingle_24 : decode cX5_areSingle 24 = .ok (.getfield 74, 3) := by decide +kernel
theorem dX5_areSingle_27 : decode cX5_areSingle 27 = .ok (.if_icmp .ge 37, 3) := by decide +kernel
theorem dX5_areSingle_30 : decode cX5_areSingle 30 = .ok (.aload_n 0, 1) := by decide +kernel
theorem dX5_areSingle_31 : decode cX5_areSingle 31 = .ok (.getfield 25, 3) := by decide +kernel
theorem dX5_areSingle_34 : decode cX5_areSingle 34 = .ok (.iconst 1, 1) := by decide +kernel
theorem dX5_areSingle_35 : decode cX5_areSingle 35 = .ok (.if_icmp .ne 29, 3) := by decide +kernel
theorem dX5_areSingle_38 : decode cX5_areSingle 38 = .ok (.aload_n 0, 1) := by decide +kernel
theorem dX5_areSingle_39 : decode cX5_areSingle 39 = .ok (.aload_n 1, 1) := by decide +kernel
theorem dX5_areSingle_40 : decode cX5_areSingle 40 = .ok (.aload_n 2, 1) := by decide +kernel
theorem dX5_areSingle_41 : decode cX5_areSingle 41 = .ok (.iload_n 3, 1) := by decide +kernel
theorem dX5_areSingle_42 : decode cX5_areSingle 42 = .ok (.invokevirtual 79, 3) := by decide +kernel
theorem dX5_areSingle_45 : decode cX5_areSingle 45 = .ok (.iconst 0, 1) := by decide +kernel
theorem dX5_areSingle_46 : decode cX5_areSingle 46 = .ok (.invokevirtual 82, 3) := by decide +kernel
theorem dX5_areSingle_49 : decode cX5_areSingle 49 = .ok (.iconst (-1), 1) := by decide +kernel
theorem dX5_areSingle_50 : decode cX5_areSingle 50 = .ok (.if_icmp .ne 8, 3) := by decide +kernel
theorem dX5_areSingle_53 : decode cX5_areSingle 53 = .ok (.aload_n 0, 1) := by decide +kernel
theorem dX5_areSingle_54 : decode cX5_areSingle 54 = .ok (.iconst 2, 1) := by decide +kernel
theorem dX5_areSingle_55 : decode cX5_areSingle 55 = .ok (.putfield 25, 3) := by decide +kernel
theorem dX5_areSingle_58 : decode cX5_areSingle 58 = .ok (.iinc 3 1, 3) := by decide +kernel
theorem dX5_areSingle_61 : decode cX5_areSingle 61 = .ok (.goto (-39), 3) := by decide +kernel
theorem dX5_areSingle_64 : decode cX5_areSingle 64 = .ok (.aload_n 0, 1) := by decide +kernel
theorem dX5_areSingle_65 : decode cX5_areSingle 65 = .ok (.getfield 25, 3) := by decide +kernel
theorem dX5_areSingle_68 : decode cX5_areSingle 68 = .ok (.iconst 1, 1) := by decide +kernel
theorem dX5_areSingle_69 : decode cX5_areSingle 69 = .ok (.if_icmp .ne 7, 3) := by decide +kernel
theorem dX5_areSingle_72 : decode cX5_areSingle 72 = .ok (.iconst 1, 1) := by decide +kernel
theorem dX5_areSingle_73 : decode cX5_areSingle 73 = .ok (.goto 4, 3) := by decide +kernel
theorem dX5_areSingle_76 : decode cX5_areSingle 76 = .ok (.iconst 0, 1) := by decide +kernel
theorem dX5_areSingle_77 : decode cX5_areSingle 77 = .ok (.ireturn, 1) := by decide +kernel
theorem dX5_onlyForm_0 : decode cX5_onlyForm 0 = .ok (.aload_n 0, 1) := by decide +kernel
theorem dX5_onlyForm_1 : decode cX5_onlyForm 1 = .ok (.getfield 22, 3) := by decide +kernel
theorem dX5_onlyForm_4 : decode cX5_onlyForm 4 = .ok (.iload_n 2, 1) := by decide +kernel
theorem dX5_onlyForm_5 : decode cX5_onlyForm 5 = .ok (.invokestatic 45, 3) := by decide +kernel
theorem dX5_onlyForm_8 : decode cX5_onlyForm 8 = .ok (.istore 4, 2) := by decide +kernel
theorem dX5_onlyForm_10 : decode cX5_onlyForm 10 = .ok (.iload 4, 2) := by decide +kernel
theorem dX5_onlyForm_12 : decode cX5_onlyForm 12 = .ok (.ifCond .ne 16, 3) := by decide +kernel
theorem dX5_onlyForm_15 : decode cX5_onlyForm 15 = .ok (.iload_n 3, 1) := by decide +kernel
theorem dX5_onlyForm_16 : decode cX5_onlyForm 16 = .ok (.ifCond .lt 12, 3) := by decide +kernel
theorem dX5_onlyForm_19 : decode cX5_onlyForm 19 = .ok (.iload_n 3, 1) := by decide +kernel
theorem dX5_onlyForm_20 : decode cX5_onlyForm 20 = .ok (.aload_n 0, 1) := by decide +kernel
theorem dX5_onlyForm_21 : decode cX5_onlyForm 21 = .ok (.getfield 32, 3) := by decide +kernel
theorem dX5_onlyForm_24 : decode cX5_onlyForm 24 = .ok (.arraylength, 1) := by decide +kernel
theorem dX5_onlyForm_25 : decode cX5_onlyForm 25 = .ok (.if_icmp .lt 6, 3) := by decide +kernel
theorem dX5_onlyForm_28 : decode cX5_onlyForm 28 = .ok (.iload 4, 2) := by decide +kernel
theorem dX5_onlyForm_30 : decode cX5_onlyForm 30 = .ok (.ireturn, 1) := by decide +kernel
theorem dX5_onlyForm_31 : decode cX5_onlyForm 31 = .ok (.aload_n 0, 1) := by decide +kernel
theorem dX5_onlyForm_32 : decode cX5_onlyForm 32 = .ok (.getfield 32, 3) := by decide +kernel
theorem dX5_onlyForm_35 : decode cX5_onlyForm 35 = .ok (.iload_n 3, 1) := by decide +kernel
theorem dX5_onlyForm_36 : decode cX5_onlyForm 36 = .ok (.aaload, 1) := by decide +kernel
theorem dX5_onlyForm_37 : decode cX5_onlyForm 37 = .ok (.astore 5, 2) := by decide +kernel
theorem dX5_onlyForm_39 : decode cX5_onlyForm 39 = .ok (.aload_n 1, 1) := by decide +kernel
theorem dX5_onlyForm_40 : decode cX5_onlyForm 40 = .ok (.iload_n 2, 1) := by decide +kernel
theorem dX5_onlyForm_41 : decode cX5_onlyForm 41 = .ok (.aload 5, 2) := by decide +kernel
theorem dX5_onlyForm_43 : decode cX5_onlyForm 43 = .ok (.invokevirtual 55, 3) := by decide +kernel
theorem dX5_onlyForm_46 : decode cX5_onlyForm 46 = .ok (.istore 6, 2) := by decide +kernel
theorem dX5_onlyForm_48 : decode cX5_onlyForm 48 = .ok (.iload 6, 2) := by decide +kernel
theorem dX5_onlyForm_50 : decode cX5_onlyForm 50 = .ok (.ifCond .ne 9, 3) := by decide +kernel
theorem dX5_onlyForm_53 : decode cX5_onlyForm 53 = .ok (.iload_n 2, 1) := by decide +kernel
theorem dX5_onlyForm_54 : decode cX5_onlyForm 54 = .ok (.iconst 1, 1) := by decide +kernel
theorem dX5_onlyForm_55 : decode cX5_onlyForm 55 = .ok (.iadd, 1) := by decide +kernel
theorem dX5_onlyForm_56 : decode cX5_onlyForm 56 = .ok (.goto 4, 3) := by decide +kernel
theorem dX5_onlyForm_59 : decode cX5_onlyForm 59 = .ok (.iconst 0, 1) := by decide +kernel
theorem dX5_onlyForm_60 : decode cX5_onlyForm 60 = .ok (.istore 7, 2) := by decide +kernel
theorem dX5_onlyForm_62 : decode cX5_onlyForm 62 = .ok (.iconst 0, 1) := by decide +kernel
theorem dX5_onlyForm_63 : decode cX5_onlyForm 63 = .ok (.istore 8, 2) := by decide +kernel
theorem dX5_onlyForm_65 : decode cX5_onlyForm 65 = .ok (.iload 8, 2) := by decide +kernel
theorem dX5_onlyForm_67 : decode cX5_onlyForm 67 = .ok (.iload 6, 2) := by decide +kernel
theorem dX5_onlyForm_69 : decode cX5_onlyForm 69 = .ok (.if_icmp .ge 55, 3) := by decide +kernel
theorem dX5_onlyForm_72 : decode cX5_onlyForm 72 = .ok (.iload 7, 2) := by decide +kernel
theorem dX5_onlyForm_74 : decode cX5_onlyForm 74 = .ok (.iconst (-1), 1) := by decide +kernel
theorem dX5_onlyForm_75 : decode cX5_onlyForm 75 = .ok (.if_icmp .eq 49, 3) := by decide +kernel
theorem dX5_onlyForm_78 : decode cX5_onlyForm 78 = .ok (.aload_n 0, 1) := by decide +kernel
theorem dX5_onlyForm_79 : decode cX5_onlyForm 79 = .ok (.aload_n 1, 1) := by decide +kernel
theorem dX5_onlyForm_80 : decode cX5_onlyForm 80 = .ok (.aload 5, 2) := by decide +kernel
theorem dX5_onlyForm_82 : decode cX5_onlyForm 82 = .ok (.iload 8, 2) := by decide +kernel
theorem dX5_onlyForm_84 : decode cX5_onlyForm 84 = .ok (.invokestatic 45, 3) := by decide +kernel
theorem dX5_onlyForm_87 : decode cX5_onlyForm 87 = .ok (.invokestatic 59, 3) := by decide +kernel
theorem dX5_onlyForm_90 : decode cX5_onlyForm 90 = .ok (.iload_n 3, 1) := by decide +kernel
theorem dX5_onlyForm_91 : decode cX5_onlyForm 91 = .ok (.iconst 1, 1) := by decide +kernel
theorem dX5_onlyForm_92 : decode cX5_onlyForm 92 = .ok (.iadd, 1) := by decide +kernel
theorem dX5_onlyForm_93 : decode cX5_onlyForm 93 = .ok (.invokevirtual 82, 3) := by decide +kernel
theorem dX5_onlyForm_96 : decode cX5_onlyForm 96 = .ok (.istore 9, 2) := by decide +kernel
theorem dX5_onlyForm_98 : decode cX5_onlyForm 98 = .ok (.iload 7, 2) := by decide +kernel
theorem dX5_onlyForm_100 : decode cX5_onlyForm 100 = .ok (.ifCond .eq 10, 3) := by decide +kernel
theorem dX5_onlyForm_103 : decode cX5_onlyForm 103 = .ok (.iload 7, 2) := by decide +kernel
theorem dX5_onlyForm_105 : decode cX5_onlyForm 105 = .ok (.iload 9, 2) := by decide +kernel
theorem dX5_onlyForm_107 : decode cX5_onlyForm 107 = .ok (.if_icmp .ne 8, 3) := by decide +kernel
theorem dX5_onlyForm_110 : decode cX5_onlyForm 110 = .ok (.iload 9, 2) := by decide +kernel
theorem dX5_onlyForm_112 : decode cX5_onlyForm 112 = .ok (.goto 4, 3) := by decide +kernel
theorem dX5_onlyForm_115 : decode cX5_onlyForm 115 = .ok (.iconst (-1), 1) := by decide +kernel
theorem dX5_onlyForm_116 : decode cX5_onlyForm 116 = .ok (.istore 7, 2) := by decide +kernel
theorem dX5_onlyForm_118 : decode cX5_onlyForm 118 = .ok (.iinc 8 1, 3) := by decide +kernel
theorem dX5_onlyForm_121 : decode cX5_onlyForm 121 = .ok (.goto (-56), 3) := by decide +kernel
theorem dX5_onlyForm_124 : decode cX5_onlyForm 124 = .ok (.aload_n 0, 1) := by decide +kernel
theorem dX5_onlyForm_125 : decode cX5_onlyForm 125 = .ok (.getfield 22, 3) := by decide +kernel
theorem dX5_onlyForm_128 : decode cX5_onlyForm 128 = .ok (.iload_n 2, 1) := by decide +kernel
theorem dX5_onlyForm_129 : decode cX5_onlyForm 129 = .ok (.iload 7, 2) := by decide +kernel
theorem dX5_onlyForm_131 : decode cX5_onlyForm 131 = .ok (.invokestatic 51, 3) := by decide +kernel
theorem dX5_onlyForm_134 : decode cX5_onlyForm 134 = .ok (.iload 7, 2) := by decide +kernel
theorem dX5_onlyForm_136 : decode cX5_onlyForm 136 = .ok (.ireturn, 1) := by decide +kernel
theorem dX6_at_0 : decode cX6_at 0 = .ok (.iload_n 1, 1) := by decide +kernel
theorem dX6_at_1 : decode cX6_at 1 = .ok (.ifCond .lt 9, 3) := by decide +kernel
theorem dX6_at_4 : decode cX6_at 4 = .ok (.iload_n 1, 1) := by decide +kernel
theorem dX6_at_5 : decode cX6_at 5 = .ok (.aload_n 0, 1) := by decide +kernel
theorem dX6_at_6 : decode cX6_at 6 = .ok (.arraylength, 1) := by decide +kernel
theorem dX6_at_7 : decode cX6_at 7 = .ok (.if_icmp .lt 7, 3) := by decide +kernel
theorem dX6_at_10 : decode cX6_at 10 = .ok (.iconst 0, 1) := by decide +kernel
theorem dX6_at_11 : decode cX6_at 11 = .ok (.goto 6, 3) := by decide +kernel
theorem dX6_at_14 : decode cX6_at 14 = .ok (.aload_n 0, 1) := by decide +kernel
theorem dX6_at_15 : decode cX6_at 15 = .ok (.iload_n 1, 1) := by decide +kernel
theorem dX6_at_16 : decode cX6_at 16 = .ok (.iaload, 1) := by decide +kernel
theorem dX6_at_17 : decode cX6_at 17 = .ok (.ireturn, 1) := by decide +kernel
theorem dX6_put_0 : decode cX6_put 0 = .ok (.iload_n 1, 1) := by decide +kernel
theorem dX6_put_1 : decode cX6_put 1 = .ok (.ifCond .lt 13, 3) := by decide +kernel
theorem dX6_put_4 : decode cX6_put 4 = .ok (.iload_n 1, 1) := by decide +kernel
theorem dX6_put_5 : decode cX6_put 5 = .ok (.aload_n 0, 1) := by decide +kernel
theorem dX6_put_6 : decode cX6_put 6 = .ok (.arraylength, 1) := by decide +kernel
theorem dX6_put_7 : decode cX6_put 7 = .ok (.if_icmp .ge 7, 3) := by decide +kernel
theorem dX6_put_10 : decode cX6_put 10 = .ok (.aload_n 0, 1) := by decide +kernel
theorem dX6_put_11 : decode cX6_put 11 = .ok (.iload_n 1, 1) := by decide +kernel
theorem dX6_put_12 : decode cX6_put 12 = .ok (.iload_n 2, 1) := by decide +kernel
theorem dX6_put_13 : decode cX6_put 13 = .ok (.iastore, 1) := by decide +kernel
theorem dX6_put_14 : decode cX6_put 14 = .ok (.return_, 1) := by decide +kernel
theorem dX6_at__0 : decode cX6_at_ 0 = .ok (.iload_n 1, 1) := by decide +kernel
theorem dX6_at__1 : decode cX6_at_ 1 = .ok (.ifCond .lt 9, 3) := by decide +kernel
theorem dX6_at__4 : decode cX6_at_ 4 = .ok (.iload_n 1, 1) := by decide +kernel
theorem dX6_at__5 : decode cX6_at_ 5 = .ok (.aload_n 0, 1) := by decide +kernel
theorem dX6_at__6 : decode cX6_at_ 6 = .ok (.arraylength, 1) := by decide +kernel
theorem dX6_at__7 : decode cX6_at_ 7 = .ok (.if_icmp .lt 7, 3) := by decide +kernel
theorem dX6_at__10 : decode cX6_at_ 10 = .ok (.lconst 0, 1) := by decide +kernel
theorem dX6_at__11 : decode cX6_at_ 11 = .ok (.goto 6, 3) := by decide +kernel
theorem dX6_at__14 : decode cX6_at_ 14 = .ok (.aload_n 0, 1) := by decide +kernel
theorem dX6_at__15 : decode cX6_at_ 15 = .ok (.iload_n 1, 1) := by decide +kernel
theorem dX6_at__16 : decode cX6_at_ 16 = .ok (.laload, 1) := by decide +kernel
theorem dX6_at__17 : decode cX6_at_ 17 = .ok (.lreturn, 1) := by decide +kernel
theorem dX6_put__0 : decode cX6_put_ 0 = .ok (.iload_n 1, 1) := by decide +kernel
theorem dX6_put__1 : decode cX6_put_ 1 = .ok (.ifCond .lt 13, 3) := by decide +kernel
theorem dX6_put__4 : decode cX6_put_ 4 = .ok (.iload_n 1, 1) := by decide +kernel
theorem dX6_put__5 : decode cX6_put_ 5 = .ok (.aload_n 0, 1) := by decide +kernel
theorem dX6_put__6 : decode cX6_put_ 6 = .ok (.arraylength, 1) := by decide +kernel
theorem dX6_put__7 : decode cX6_put_ 7 = .ok (.if_icmp .ge 7, 3) := by decide +kernel
theorem dX6_put__10 : decode cX6_put_ 10 = .ok (.aload_n 0, 1) := by decide +kernel
theorem dX6_put__11 : decode cX6_put_ 11 = .ok (.iload_n 1, 1) := by decide +kernel
theorem dX6_put__12 : decode cX6_put_ 12 = .ok (.lload_n 2, 1) := by decide +kernel
theorem dX6_put__13 : decode cX6_put_ 13 = .ok (.lastore, 1) := by decide +kernel
theorem dX6_put__14 : decode cX6_put_ 14 = .ok (.return_, 1) := by decide +kernel
theorem dX6_putInOrder_0 : decode cX6_putInOrder 0 = .ok (.iload_n 1, 1) := by decide +kernel
theorem dX6_putInOrder_1 : decode cX6_putInOrder 1 = .ok (.istore_n 3, 1) := by decide +kernel
theorem dX6_putInOrder_2 : decode cX6_putInOrder 2 = .ok (.iload_n 1, 1) := by decide +kernel
theorem dX6_putInOrder_3 : decode cX6_putInOrder 3 = .ok (.iconst 1, 1) := by decide +kernel
theorem dX6_putInOrder_4 : decode cX6_putInOrder 4 = .ok (.isub, 1) := by decide +kernel
theorem dX6_putInOrder_5 : decode cX6_putInOrder 5 = .ok (.istore 4, 2) := by decide +kernel
theorem dX6_putInOrder_7 : decode cX6_putInOrder 7 = .ok (.iload 4, 2) := by decide +kernel
theorem dX6_putInOrder_9 : decode cX6_putInOrder 9 = .ok (.ifCond .lt 36, 3) := by decide +kernel
theorem dX6_putInOrder_12 : decode cX6_putInOrder 12 = .ok (.aload_n 0, 1) := by decide +kernel
theorem dX6_putInOrder_13 : decode cX6_putInOrder 13 = .ok (.iload 4, 2) := by decide +kernel
theorem dX6_putInOrder_15 : decode cX6_putInOrder 15 = .ok (.invokestatic 7, 3) := by decide +kernel
theorem dX6_putInOrder_18 : decode cX6_putInOrder 18 = .ok (.iload_n 2, 1) := by decide +kernel
theorem dX6_putInOrder_19 : decode cX6_putInOrder 19 = .ok (.if_icmp .le 26, 3) := by decide +kernel
theorem dX6_putInOrder_22 : decode cX6_putInOrder 22 = .ok (.aload_n 0, 1) := by decide +kernel
theorem dX6_putInOrder_23 : decode cX6_putInOrder 23 = .ok (.iload 4, 2) := by decide +kernel
theorem dX6_putInOrder_25 : decode cX6_putInOrder 25 = .ok (.iconst 1, 1) := by decide +kernel
theorem dX6_putInOrder_26 : decode cX6_putInOrder 26 = .ok (.iadd, 1) := by decide +kernel
theorem dX6_putInOrder_27 : decode cX6_putInOrder 27 = .ok (.aload_n 0, 1) := by decide +kernel
theorem dX6_putInOrder_28 : decode cX6_putInOrder 28 = .ok (.iload 4, 2) := by decide +kernel
theorem dX6_putInOrder_30 : decode cX6_putInOrder 30 = .ok (.invokestatic 7, 3) := by decide +kernel
theorem dX6_putInOrder_33 : decode cX6_putInOrder 33 = .ok (.invokestatic 13, 3) := by decide +kernel
theorem dX6_putInOrder_36 : decode cX6_putInOrder 36 = .ok (.iload 4, 2) := by decide +kernel
theorem dX6_putInOrder_38 : decode cX6_putInOrder 38 = .ok (.istore_n 3, 1) := by decide +kernel
theorem dX6_putInOrder_39 : decode cX6_putInOrder 39 = .ok (.iinc 4 (-1), 3) := by decide +kernel
theorem dX6_putInOrder_42 : decode cX6_putInOrder 42 = .ok (.goto (-35), 3) := by decide +kernel
theorem dX6_putInOrder_45 : decode cX6_putInOrder 45 = .ok (.aload_n 0, 1) := by decide +kernel
theorem dX6_putInOrder_46 : decode cX6_putInOrder 46 = .ok (.iload_n 3, 1) := by decide +kernel
theorem dX6_putInOrder_47 : decode cX6_putInOrder 47 = .ok (.iload_n 2, 1) := by decide +kernel
theorem dX6_putInOrder_48 : decode cX6_putInOrder 48 = .ok (.invokestatic 13, 3) := by decide +kernel
theorem dX6_putInOrder_51 : decode cX6_putInOrder 51 = .ok (.return_, 1) := by decide +kernel
theorem dX7_init_0 : decode cX7_init 0 = .ok (.aload_n 0, 1) := by decide +kernel
theorem dX7_init_1 : decode cX7_init 1 = .ok (.invokespecial 1, 3) := by decide +kernel
theorem dX7_init_4 : decode cX7_init 4 = .ok (.aload_n 0, 1) := by decide +kernel
theorem dX7_init_5 : decode cX7_init 5 = .ok (.sipush 462, 3) := by decide +kernel
theorem dX7_init_8 : decode cX7_init 8 = .ok (.newarray .long, 2) := by decide +kernel
theorem dX7_init_10 : decode cX7_init 10 = .ok (.putfield 9, 3) := by decide +kernel
theorem dX7_init_13 : decode cX7_init 13 = .ok (.aload_n 0, 1) := by decide +kernel
theorem dX7_init_14 : decode cX7_init 14 = .ok (.sipush 462, 3) := by decide +kernel
theorem dX7_init_17 : decode cX7_init 17 = .ok (.newarray .long, 2) := by decide +kernel
theorem dX7_init_19 : decode cX7_init 19 = .ok (.putfield 15, 3) := by decide +kernel
theorem dX7_init_22 : decode cX7_init 22 = .ok (.aload_n 0, 1) := by decide +kernel
theorem dX7_init_23 : decode cX7_init 23 = .ok (.aload_n 1, 1) := by decide +kernel
theorem dX7_init_24 : decode cX7_init 24 = .ok (.putfield 18, 3) := by decide +kernel
theorem dX7_init_27 : decode cX7_init 27 = .ok (.return_, 1) := by decide +kernel
theorem dX7_fulfils_0 : decode cX7_fulfils 0 = .ok (.iload_n 1, 1) := by decide +kernel
theorem dX7_fulfils_1 : decode cX7_fulfils 1 = .ok (.bipush 6, 2) := by decide +kernel
theorem dX7_fulfils_3 : decode cX7_fulfils 3 = .ok (.ishr, 1) := by decide +kernel
theorem dX7_fulfils_4 : decode cX7_fulfils 4 = .ok (.istore_n 2, 1) := by decide +kernel
theorem dX7_fulfils_5 : decode cX7_fulfils 5 = .ok (.lconst 1, 1) := by decide +kernel
theorem dX7_fulfils_6 : decode cX7_fulfils 6 = .ok (.iload_n 1, 1) := by decide +kernel
theorem dX7_fulfils_7 : decode cX7_fulfils 7 = .ok (.bipush 63, 2) := by decide +kernel
theorem dX7_fulfils_9 : decode cX7_fulfils 9 = .ok (.iand, 1) := by decide +kernel
theorem dX7_fulfils_10 : decode cX7_fulfils 10 = .ok (.lshl, 1) := by decide +kernel
theorem dX7_fulfils_11 : decode cX7_fulfils 11 = .ok (.lstore_n 3, 1) := by decide +kernel
theorem dX7_fulfils_12 : decode cX7_fulfils 12 = .ok (.aload_n 0, 1) := by decide +kernel
theorem dX7_fulfils_13 : decode cX7_fulfils 13 = .ok (.getfield 9, 3) := by decide +kernel
theorem dX7_fulfils_16 : decode cX7_fulfils 16 = .ok (.iload_n 2, 1) := by decide +kernel
theorem dX7_fulfils_17 : decode cX7_fulfils 17 = .ok (.invokestatic 22, 3) := by decide +kernel
theorem dX7_fulfils_20 : decode cX7_fulfils 20 = .ok (.lload_n 3, 1) := by decide +kernel
theorem dX7_fulfils_21 : decode cX7_fulfils 21 = .ok (.land, 1) := by decide +kernel
theorem dX7_fulfils_22 : decode cX7_fulfils 22 = .ok (.lconst 0, 1) := by decide +kernel
theorem dX7_fulfils_23 : decode cX7_fulfils 23 = .ok (.lcmp, 1) := by decide +kernel
theorem dX7_fulfils_24 : decode cX7_fulfils 24 = .ok (.ifCond .ne 47, 3) := by decide +kernel
theorem dX7_fulfils_27 : decode cX7_fulfils 27 = .ok (.aload_n 0, 1) := by decide +kernel
theorem dX7_fulfils_28 : decode cX7_fulfils 28 = .ok (.getfield 9, 3) := by decide +kernel
theorem dX7_fulfils_31 : decode cX7_fulfils 31 = .ok (.iload_n 2, 1) := by decide +kernel
theorem dX7_fulfils_32 : decode cX7_fulfils 32 = .ok (.aload_n 0, 1) := by decide +kernel
theorem dX7_fulfils_33 : decode cX7_fulfils 33 = .ok (.getfield 9, 3) := by decide +kernel
theorem dX7_fulfils_36 : decode cX7_fulfils 36 = .ok (.iload_n 2, 1) := by decide +kernel
theorem dX7_fulfils_37 : decode cX7_fulfils 37 = .ok (.invokestatic 22, 3) := by decide +kernel
theorem dX7_fulfils_40 : decode cX7_fulfils 40 = .ok (.lload_n 3, 1) := by decide +kernel
theorem dX7_fulfils_41 : decode cX7_fulfils 41 = .ok (.lor, 1) := by decide +kernel
theorem dX7_fulfils_42 : decode cX7_fulfils 42 = .ok (.invokestatic 28, 3) := by decide +kernel
theorem dX7_fulfils_45 : decode cX7_fulfils 45 = .ok (.aload_n 0, 1) := by decide +kernel
theorem dX7_fulfils_46 : decode cX7_fulfils 46 = .ok (.iload_n 1, 1) := by decide +kernel
theorem dX7_fulfils_47 : decode cX7_fulfils 47 = .ok (.invokevirtual 32, 3) := by decide +kernel
theorem dX7_fulfils_50 : decode cX7_fulfils 50 = .ok (.ifCond .eq 21, 3) := by decide +kernel
theorem dX7_fulfils_53 : decode cX7_fulfils 53 = .ok (.aload_n 0, 1) := by decide +kernel
theorem dX7_fulfils_54 : decode cX7_fulfils 54 = .ok (.getfield 15, 3) := by decide +kernel
theorem dX7_fulfils_57 : decode cX7_fulfils 57 = .ok (.iload_n 2, 1) := by decide +kernel
theorem dX7_fulfils_58 : decode cX7_fulfils 58 = .ok (.aload_n 0, 1) := by decide +kernel
theorem dX7_fulfils_59 : decode cX7_fulfils 59 = .ok (.getfield 15, 3) := by decide +kernel
theorem dX7_fulfils_62 : decode cX7_fulfils 62 = .ok (.iload_n 2, 1) := by decide +kernel
theorem dX7_fulfils_63 : decode cX7_fulfils 63 = .ok (.invokestatic 22, 3) := by decide +kernel
theorem dX7_fulfils_66 : decode cX7_fulfils 66 = .ok (.lload_n 3, 1) := by decide +kernel
theorem dX7_fulfils_67 : decode cX7_fulfils 67 = .ok (.lor, 1) := by decide +kernel
theorem dX7_fulfils_68 : decode cX7_fulfils 68 = .ok (.invokestatic 28, 3) := by decide +kernel
theorem dX7_fulfils_71 : decode cX7_fulfils 71 = .ok (.aload_n 0, 1) := by decide +kernel
theorem dX7_fulfils_72 : decode cX7_fulfils 72 = .ok (.getfield 15, 3) := by decide +kernel
theorem dX7_fulfils_75 : decode cX7_fulfils 75 = .ok (.iload_n 2, 1) := by decide +kernel
theorem dX7_fulfils_76 : decode cX7_fulfils 76 = .ok (.invokestatic 22, 3) := by decide +kernel
theorem dX7_fulfils_79 : decode cX7_fulfils 79 = .ok (.lload_n 3, 1) := by decide +kernel
theorem dX7_fulfils_80 : decode cX7_fulfils 80 = .ok (.land, 1) := by decide +kernel
theorem dX7_fulfils_81 : decode cX7_fulfils 81 = .ok (.lconst 0, 1) := by decide +kernel
theorem dX7_fulfils_82 : decode cX7_fulfils 82 = .ok (.lcmp, 1) := by decide +kernel
theorem dX7_fulfils_83 : decode cX7_fulfils 83 = .ok (.ifCond .eq 7, 3) := by decide +kernel
theorem dX7_fulfils_86 : decode cX7_fulfils 86 = .ok (.iconst 1, 1) := by decide +kernel
theorem dX7_fulfils_87 : decode cX7_fulfils 87 = .ok (.goto 4, 3) := by decide +kernel
theorem dX7_fulfils_90 : decode cX7_fulfils 90 = .ok (.iconst 0, 1) := by decide +kernel
theorem dX7_fulfils_91 : decode cX7_fulfils 91 = .ok (.ireturn, 1) := by decide +kernel
theorem dX7_evaluate_0 : decode cX7_evaluate 0 = .ok (.iload_n 1, 1) := by decide +kernel
theorem dX7_evaluate_1 : decode cX7_evaluate 1 = .ok (.invokestatic 36, 3) := by decide +kernel
theorem dX7_evaluate_4 : decode cX7_evaluate 4 = .ok (.istore_n 2, 1) := by decide +kernel
theorem dX7_evaluate_5 : decode cX7_evaluate 5 = .ok (.lconst 0, 1) := by decide +kernel
theorem dX7_evaluate_6 : decode cX7_evaluate 6 = .ok (.lstore_n 3, 1) := by decide +kernel
theorem dX7_evaluate_7 : decode cX7_evaluate 7 = .ok (.iconst 0, 1) := by decide +kernel
theorem dX7_evaluate_8 : decode cX7_evaluate 8 = .ok (.istore 5, 2) := by decide +kernel
theorem dX7_evaluate_10 : decode cX7_evaluate 10 = .ok (.iload 5, 2) := by decide +kernel
theorem dX7_evaluate_12 : decode cX7_evaluate 12 = .ok (.aload_n 0, 1) := by decide +kernel
theorem dX7_evaluate_13 : decode cX7_evaluate 13 = .ok (.getfield 18, 3) := by decide +kernel
theorem dX7_evaluate_16 : decode cX7_evaluate 16 = .ok (.arraylength, 1) := by decide +kernel
theorem dX7_evaluate_17 : decode cX7_evaluate 17 = .ok (.if_icmp .ge 156, 3) := by decide +kernel
theorem dX7_evaluate_20 : decode cX7_evaluate 20 = .ok (.aload_n 0, 1) := by decide +kernel
theorem dX7_evaluate_21 : decode cX7_evaluate 21 = .ok (.getfield 18, 3) := by decide +kernel
theorem dX7_evaluate_24 : decode cX7_evaluate 24 = .ok (.iload 5, 2) := by decide +kernel
theorem dX7_evaluate_26 : decode cX7_evaluate 26 = .ok (.iaload, 1) := by decide +kernel
theorem dX7_evaluate_27 : decode cX7_evaluate 27 = .ok (.bipush 7, 2) := by decide +kernel
theorem dX7_evaluate_29 : decode cX7_evaluate 29 = .ok (.iand, 1) := by decide +kernel
theorem dX7_evaluate_30 : decode cX7_evaluate 30 = .ok (.istore 6, 2) := by decide +kernel
theorem dX7_evaluate_32 : decode cX7_evaluate 32 = .ok (.aload_n 0, 1) := by decide +kernel
theorem dX7_evaluate_33 : decode cX7_evaluate 33 = .ok (.getfield 18, 3) := by decide +kernel
theorem dX7_evaluate_36 : decode cX7_evaluate 36 = .ok (.iload 5, 2) := by decide +kernel
theorem dX7_evaluate_38 : decode cX7_evaluate 38 = .ok (.iaload, 1) := by decide +kernel
theorem dX7_evaluate_39 : decode cX7_evaluate 39 = .ok (.iconst 3, 1) := by decide +kernel
theorem dX7_evaluate_40 : decode cX7_evaluate 40 = .ok (.ishr, 1) := by decide +kernel
theorem dX7_evaluate_41 : decode cX7_evaluate 41 = .ok (.istore 7, 2) := by decide +kernel
theorem dX7_evaluate_43 : decode cX7_evaluate 43 = .ok (.iload 6, 2) := by decide +kernel
theorem dX7_evaluate_45 : decode cX7_evaluate 45 = .ok (.tableswitch 99 0 4 #[35, 44, 51, 64, 75], 35) := by decide +kernel
theorem dX7_evaluate_80 : decode cX7_evaluate 80 = .ok (.lload_n 3, 1) := by decide +kernel
theorem dX7_evaluate_81 : decode cX7_evaluate 81 = .ok (.iconst 1, 1) := by decide +kernel
theorem dX7_evaluate_82 : decode cX7_evaluate 82 = .ok (.lshl, 1) := by decide +kernel
theorem dX7_evaluate_83 : decode cX7_evaluate 83 = .ok (.lconst 1, 1) := by decide +kernel
theorem dX7_evaluate_84 : decode cX7_evaluate 84 = .ok (.lor, 1) := by decide +kernel
theorem dX7_evaluate_85 : decode cX7_evaluate 85 = .ok (.lstore_n 3, 1) := by decide +kernel
theorem dX7_evaluate_86 : decode cX7_evaluate 86 = .ok (.goto 81, 3) := by decide +kernel
theorem dX7_evaluate_89 : decode cX7_evaluate 89 = .ok (.lload_n 3, 1) := by decide +kernel
theorem dX7_evaluate_90 : decode cX7_evaluate 90 = .ok (.lconst 1, 1) := by decide +kernel
theorem dX7_evaluate_91 : decode cX7_evaluate 91 = .ok (.lxor, 1) := by decide +kernel
theorem dX7_evaluate_92 : decode cX7_evaluate 92 = .ok (.lstore_n 3, 1) := by decide +kernel
theorem dX7_evaluate_93 : decode cX7_evaluate 93 = .ok (.goto 74, 3) := by decide +kernel
theorem dX7_evaluate_96 : decode cX7_evaluate 96 = .ok (.lload_n 3, 1) := by decide +kernel
theorem dX7_evaluate_97 : decode cX7_evaluate 97 = .ok (.iconst 1, 1) := by decide +kernel
theorem dX7_evaluate_98 : decode cX7_evaluate 98 = .ok (.lshr, 1) := by decide +kernel
theorem dX7_evaluate_99 : decode cX7_evaluate 99 = .ok (.lload_n 3, 1) := by decide +kernel
theorem dX7_evaluate_100 : decode cX7_evaluate 100 = .ok (.ldc2_w 40, 3) := by decide +kernel
theorem dX7_evaluate_103 : decode cX7_evaluate 103 = .ok (.lor, 1) := by decide +kernel
theorem dX7_evaluate_104 : decode cX7_evaluate 104 = .ok (.land, 1) := by decide +kernel
theorem dX7_evaluate_105 : decode cX7_evaluate 105 = .ok (.lstore_n 3, 1) := by decide +kernel
theorem dX7_evaluate_106 : decode cX7_evaluate 106 = .ok (.goto 61, 3) := by decide +kernel
theorem dX7_evaluate_109 : decode cX7_evaluate 109 = .ok (.lload_n 3, 1) := by decide +kernel
theorem dX7_evaluate_110 : decode cX7_evaluate 110 = .ok (.iconst 1, 1) := by decide +kernel
theorem dX7_evaluate_111 : decode cX7_evaluate 111 = .ok (.lshr, 1) := by decide +kernel
theorem dX7_evaluate_112 : decode cX7_evaluate 112 = .ok (.lload_n 3, 1) := by decide +kernel
theorem dX7_evaluate_113 : decode cX7_evaluate 113 = .ok (.lconst 1, 1) := by decide +kernel
theorem dX7_evaluate_114 : decode cX7_evaluate 114 = .ok (.land, 1) := by decide +kernel
theorem dX7_evaluate_115 : decode cX7_evaluate 115 = .ok (.lor, 1) := by decide +kernel
theorem dX7_evaluate_116 : decode cX7_evaluate 116 = .ok (.lstore_n 3, 1) := by decide +kernel
theorem dX7_evaluate_117 : decode cX7_evaluate 117 = .ok (.goto 50, 3) := by decide +kernel
theorem dX7_evaluate_120 : decode cX7_evaluate 120 = .ok (.lload_n 3, 1) := by decide +kernel
theorem dX7_evaluate_121 : decode cX7_evaluate 121 = .ok (.iconst 1, 1) := by decide +kernel
theorem dX7_evaluate_122 : decode cX7_evaluate 122 = .ok (.lshl, 1) := by decide +kernel
theorem dX7_evaluate_123 : decode cX7_evaluate 123 = .ok (.iload 7, 2) := by decide +kernel
theorem dX7_evaluate_125 : decode cX7_evaluate 125 = .ok (.iload_n 1, 1) := by decide +kernel
theorem dX7_evaluate_126 : decode cX7_evaluate 126 = .ok (.iload_n 2, 1) := by decide +kernel
theorem dX7_evaluate_127 : decode cX7_evaluate 127 = .ok (.invokestatic 42, 3) := by decide +kernel
theorem dX7_evaluate_130 : decode cX7_evaluate 130 = .ok (.ifCond .eq 7, 3) := by decide +kernel
theorem dX7_evaluate_133 : decode cX7_evaluate 133 = .ok (.iconst 1, 1) := by decide +kernel
theorem dX7_evaluate_134 : decode cX7_evaluate 134 = .ok (.goto 4, 3) := by decide +kernel
theorem dX7_evaluate_137 : decode cX7_evaluate 137 = .ok (.iconst 0, 1) := by decide +kernel
theorem dX7_evaluate_138 : decode cX7_evaluate 138 = .ok (.i2l, 1) := by decide +kernel
theorem dX7_evaluate_139 : decode cX7_evaluate 139 = .ok (.lor, 1) := by decide +kernel
theorem dX7_evaluate_140 : decode cX7_evaluate 140 = .ok (.lstore_n 3, 1) := by decide +kernel
theorem dX7_evaluate_141 : decode cX7_evaluate 141 = .ok (.goto 26, 3) := by decide +kernel
theorem dX7_evaluate_144 : decode cX7_evaluate 144 = .ok (.lload_n 3, 1) := by decide +kernel
theorem dX7_evaluate_145 : decode cX7_evaluate 145 = .ok (.iconst 1, 1) := by decide +kernel
theorem dX7_evaluate_146 : decode cX7_evaluate 146 = .ok (.lshl, 1) := by decide +kernel
theorem dX7_evaluate_147 : decode cX7_evaluate 147 = .ok (.iload 6, 2) := by decide +kernel
theorem dX7_evaluate_149 : decode cX7_evaluate 149 = .ok (.iload 7, 2) := by decide +kernel
theorem dX7_evaluate_151 : decode cX7_evaluate 151 = .ok (.iload_n 1, 1) := by decide +kernel
theorem dX7_evaluate_152 : decode cX7_evaluate 152 = .ok (.iload_n 2, 1) := by decide +kernel
theorem dX7_evaluate_153 : decode cX7_evaluate 153 = .ok (.invokestatic 46, 3) := by decide +kernel
theorem dX7_evaluate_156 : decode cX7_evaluate 156 = .ok (.ifCond .eq 7, 3) := by decide +kernel
theorem dX7_evaluate_159 : decode cX7_evaluate 159 = .ok (.iconst 1, 1) := by decide +kernel
theorem dX7_evaluate_160 : decode cX7_evaluate 160 = .ok (.goto 4, 3) := by decide +kernel
theorem dX7_evaluate_163 : decode cX7_evaluate 163 = .ok (.iconst 0, 1) := by decide +kernel
theorem dX7_evaluate_164 : decode cX7_evaluate 164 = .ok (.i2l, 1) := by decide +kernel
theorem dX7_evaluate_165 : decode cX7_evaluate 165 = .ok (.lor, 1) := by decide +kernel
theorem dX7_evaluate_166 : decode cX7_evaluate 166 = .ok (.lstore_n 3, 1) := by decide +kernel
theorem dX7_evaluate_167 : decode cX7_evaluate 167 = .ok (.iinc 5 1, 3) := by decide +kernel
theorem dX7_evaluate_170 : decode cX7_evaluate 170 = .ok (.goto (-160), 3) := by decide +kernel
theorem dX7_evaluate_173 : decode cX7_evaluate 173 = .ok (.lload_n 3, 1) := by decide +kernel
theorem dX7_evaluate_174 : decode cX7_evaluate 174 = .ok (.lconst 1, 1) := by decide +kernel
theorem dX7_evaluate_175 : decode cX7_evaluate 175 = .ok (.land, 1) := by decide +kernel
theorem dX7_evaluate_176 : decode cX7_evaluate 176 = .ok (.lconst 0, 1) := by decide +kernel
theorem dX7_evaluate_177 : decode cX7_evaluate 177 = .ok (.lcmp, 1) := by decide +kernel
theorem dX7_evaluate_178 : decode cX7_evaluate 178 = .ok (.ifCond .eq 7, 3) := by decide +kernel
theorem dX7_evaluate_181 : decode cX7_evaluate 181 = .ok (.iconst 1, 1) := by decide +kernel
theorem dX7_evaluate_182 : decode cX7_evaluate 182 = .ok (.goto 4, 3) := by decide +kernel
theorem dX7_evaluate_185 : decode cX7_evaluate 185 = .ok (.iconst 0, 1) := by decide +kernel
theorem dX7_evaluate_186 : decode cX7_evaluate 186 = .ok (.ireturn, 1) := by decide +kernel
theorem dX7_compares_0 : decode cX7_compares 0 = .ok (.iload_n 0, 1) := by decide +kernel
theorem dX7_compares_1 : decode cX7_compares 1 = .ok (.bipush 30, 2) := by decide +kernel
theorem dX7_compares_3 : decode cX7_compares 3 = .ok (.idiv, 1) := by decide +kernel
theorem dX7_compares_4 : decode cX7_compares 4 = .ok (.istore_n 3, 1) := by decide +kernel
theorem dX7_compares_5 : decode cX7_compares 5 = .ok (.iload_n 0, 1) := by decide +kernel
theorem dX7_compares_6 : decode cX7_compares 6 = .ok (.bipush 10, 2) := by decide +kernel
theorem dX7_compares_8 : decode cX7_compares 8 = .ok (.idiv, 1) := by decide +kernel
theorem dX7_compares_9 : decode cX7_compares 9 = .ok (.iconst 3, 1) := by decide +kernel
theorem dX7_compares_10 : decode cX7_compares 10 = .ok (.irem, 1) := by decide +kernel
theorem dX7_compares_11 : decode cX7_compares 11 = .ok (.istore 4, 2) := by decide +kernel
theorem dX7_compares_13 : decode cX7_compares 13 = .ok (.iload_n 0, 1) := by decide +kernel
theorem dX7_compares_14 : decode cX7_compares 14 = .ok (.bipush 10, 2) := by decide +kernel
theorem dX7_compares_16 : decode cX7_compares 16 = .ok (.irem, 1) := by decide +kernel
theorem dX7_compares_17 : decode cX7_compares 17 = .ok (.istore 5, 2) := by decide +kernel
theorem dX7_compares_19 : decode cX7_compares 19 = .ok (.iload_n 3, 1) := by decide +kernel
theorem dX7_compares_20 : decode cX7_compares 20 = .ok (.iconst 3, 1) := by decide +kernel
theorem dX7_compares_21 : decode cX7_compares 21 = .ok (.if_icmp .ne 7, 3) := by decide +kernel
theorem dX7_compares_24 : decode cX7_compares 24 = .ok (.iload_n 2, 1) := by decide +kernel
theorem dX7_compares_25 : decode cX7_compares 25 = .ok (.goto 4, 3) := by decide +kernel
theorem dX7_compares_28 : decode cX7_compares 28 = .ok (.iconst 0, 1) := by decide +kernel
theorem dX7_compares_29 : decode cX7_compares 29 = .ok (.istore 6, 2) := by decide +kernel
theorem dX7_compares_31 : decode cX7_compares 31 = .ok (.iload_n 1, 1) := by decide +kernel
theorem dX7_compares_32 : decode cX7_compares 32 = .ok (.istore 7, 2) := by decide +kernel
theorem dX7_compares_34 : decode cX7_compares 34 = .ok (.iconst 0, 1) := by decide +kernel
theorem dX7_compares_35 : decode cX7_compares 35 = .ok (.istore 8, 2) := by decide +kernel
theorem dX7_compares_37 : decode cX7_compares 37 = .ok (.iload 8, 2) := by decide +kernel
theorem dX7_compares_39 : decode cX7_compares 39 = .ok (.iload_n 2, 1) := by decide +kernel
theorem dX7_compares_40 : decode cX7_compares 40 = .ok (.if_icmp .ge 30, 3) := by decide +kernel
theorem dX7_compares_43 : decode cX7_compares 43 = .ok (.iload 7, 2) := by decide +kernel
theorem dX7_compares_45 : decode cX7_compares 45 = .ok (.iconst 1, 1) := by decide +kernel
theorem dX7_compares_46 : decode cX7_compares 46 = .ok (.isub, 1) := by decide +kernel
theorem dX7_compares_47 : decode cX7_compares 47 = .ok (.iconst 3, 1) := by decide +kernel
theorem dX7_compares_48 : decode cX7_compares 48 = .ok (.irem, 1) := by decide +kernel
theorem dX7_compares_49 : decode cX7_compares 49 = .ok (.iload_n 3, 1) := by decide +kernel
theorem dX7_compares_50 : decode cX7_compares 50 = .ok (.if_icmp .ne 6, 3) := by decide +kernel
theorem dX7_compares_53 : decode cX7_compares 53 = .ok (.iinc 6 1, 3) := by decide +kernel
theorem dX7_compares_56 : decode cX7_compares 56 = .ok (.iload 7, 2) := by decide +kernel
theorem dX7_compares_58 : decode cX7_compares 58 = .ok (.iconst 1, 1) := by decide +kernel
theorem dX7_compares_59 : decode cX7_compares 59 = .ok (.isub, 1) := by decide +kernel
theorem dX7_compares_60 : decode cX7_compares 60 = .ok (.iconst 3, 1) := by decide +kernel
theorem dX7_compares_61 : decode cX7_compares 61 = .ok (.idiv, 1) := by decide +kernel
theorem dX7_compares_62 : decode cX7_compares 62 = .ok (.istore 7, 2) := by decide +kernel
theorem dX7_compares_64 : decode cX7_compares 64 = .ok (.iinc 8 1, 3) := by decide +kernel
theorem dX7_compares_67 : decode cX7_compares 67 = .ok (.goto (-30), 3) := by decide +kernel
theorem dX7_compares_70 : decode cX7_compares 70 = .ok (.iload 4, 2) := by decide +kernel
theorem dX7_compares_72 : decode cX7_compares 72 = .ok (.ifCond .ne 16, 3) := by decide +kernel
theorem dX7_compares_75 : decode cX7_compares 75 = .ok (.iload 6, 2) := by decide +kernel
theorem dX7_compares_77 : decode cX7_compares 77 = .ok (.iload 5, 2) := by decide +kernel
theorem dX7_compares_79 : decode cX7_compares 79 = .ok (.if_icmp .ge 7, 3) := by decide +kernel
theorem dX7_compares_82 : decode cX7_compares 82 = .ok (.iconst 1, 1) := by decide +kernel
theorem dX7_compares_83 : decode cX7_compares 83 = .ok (.goto 4, 3) := by decide +kernel
theorem dX7_compares_86 : decode cX7_compares 86 = .ok (.iconst 0, 1) := by decide +kernel
theorem dX7_compares_87 : decode cX7_compares 87 = .ok (.ireturn, 1) := by decide +kernel
theorem dX7_compares_88 : decode cX7_compares 88 = .ok (.iload 4, 2) := by decide +kernel
theorem dX7_compares_90 : decode cX7_compares 90 = .ok (.iconst 1, 1) := by decide +kernel
theorem dX7_compares_91 : decode cX7_compares 91 = .ok (.if_icmp .ne 18, 3) := by decide +kernel
theorem dX7_compares_94 : decode cX7_compares 94 = .ok (.iload 6, 2) := by decide +kernel
theorem dX7_compares_96 : decode cX7_compares 96 = .ok (.iload 5, 2) := by decide +kernel
theorem dX7_compares_98 : decode cX7_compares 98 = .ok (.if_icmp .ne 7, 3) := by decide +kernel
theorem dX7_compares_101 : decode cX7_compares 101 = .ok (.iconst 1, 1) := by decide +kernel
theorem dX7_compares_102 : decode cX7_compares 102 = .ok (.goto 19, 3) := by decide +kernel
theorem dX7_compares_105 : decode cX7_compares 105 = .ok (.iconst 0, 1) := by decide +kernel
theorem dX7_compares_106 : decode cX7_compares 106 = .ok (.goto 15, 3) := by decide +kernel
theorem dX7_compares_109 : decode cX7_compares 109 = .ok (.iload 6, 2) := by decide +kernel
theorem dX7_compares_111 : decode cX7_compares 111 = .ok (.iload 5, 2) := by decide +kernel
theorem dX7_compares_113 : decode cX7_compares 113 = .ok (.if_icmp .le 7, 3) := by decide +kernel
theorem dX7_compares_116 : decode cX7_compares 116 = .ok (.iconst 1, 1) := by decide +kernel
theorem dX7_compares_117 : decode cX7_compares 117 = .ok (.goto 4, 3) := by decide +kernel
theorem dX7_compares_120 : decode cX7_compares 120 = .ok (.iconst 0, 1) := by decide +kernel
theorem dX7_compares_121 : decode cX7_compares 121 = .ok (.ireturn, 1) := by decide +kernel
theorem dX7_matches_0 : decode cX7_matches 0 = .ok (.iload_n 1, 1) := by decide +kernel
theorem dX7_matches_1 : decode cX7_matches 1 = .ok (.iconst 4, 1) := by decide +kernel
theorem dX7_matches_2 : decode cX7_matches 2 = .ok (.if_icmp .ge 7, 3) := by decide +kernel
theorem dX7_matches_5 : decode cX7_matches 5 = .ok (.iconst 1, 1) := by decide +kernel
theorem dX7_matches_6 : decode cX7_matches 6 = .ok (.goto 14, 3) := by decide +kernel
theorem dX7_matches_9 : decode cX7_matches 9 = .ok (.iload_n 1, 1) := by decide +kernel
theorem dX7_matches_10 : decode cX7_matches 10 = .ok (.bipush 13, 2) := by decide +kernel
theorem dX7_matches_12 : decode cX7_matches 12 = .ok (.if_icmp .ge 7, 3) := by decide +kernel
theorem dX7_matches_15 : decode cX7_matches 15 = .ok (.iconst 2, 1) := by decide +kernel
theorem dX7_matches_16 : decode cX7_matches 16 = .ok (.goto 4, 3) := by decide +kernel
theorem dX7_matches_19 : decode cX7_matches 19 = .ok (.iconst 3, 1) := by decide +kernel
theorem dX7_matches_20 : decode cX7_matches 20 = .ok (.istore 4, 2) := by decide +kernel
theorem dX7_matches_22 : decode cX7_matches 22 = .ok (.iload 4, 2) := by decide +kernel
theorem dX7_matches_24 : decode cX7_matches 24 = .ok (.iconst 1, 1) := by decide +kernel
theorem dX7_matches_25 : decode cX7_matches 25 = .ok (.if_icmp .ne 7, 3) := by decide +kernel
theorem dX7_matches_28 : decode cX7_matches 28 = .ok (.iconst 3, 1) := by decide +kernel
theorem dX7_matches_29 : decode cX7_matches 29 = .ok (.goto 16, 3) := by decide +kernel
theorem dX7_matches_32 : decode cX7_matches 32 = .ok (.iload 4, 2) := by decide +kernel
theorem dX7_matches_34 : decode cX7_matches 34 = .ok (.iconst 2, 1) := by decide +kernel
theorem dX7_matches_35 : decode cX7_matches 35 = .ok (.if_icmp .ne 8, 3) := by decide +kernel
theorem dX7_matches_38 : decode cX7_matches 38 = .ok (.bipush 9, 2) := by decide +kernel
theorem dX7_matches_40 : decode cX7_matches 40 = .ok (.goto 5, 3) := by decide +kernel
theorem dX7_matches_43 : decode cX7_matches 43 = .ok (.bipush 27, 2) := by decide +kernel
theorem dX7_matches_45 : decode cX7_matches 45 = .ok (.istore 5, 2) := by decide +kernel
theorem dX7_matches_47 : decode cX7_matches 47 = .ok (.iload_n 0, 1) := by decide +kernel
theorem dX7_matches_48 : decode cX7_matches 48 = .ok (.iconst 5, 1) := by decide +kernel
theorem dX7_matches_49 : decode cX7_matches 49 = .ok (.if_icmp .ne 10, 3) := by decide +kernel
theorem dX7_matches_52 : decode cX7_matches 52 = .ok (.iload_n 3, 1) := by decide +kernel
theorem dX7_matches_53 : decode cX7_matches 53 = .ok (.iload 4, 2) := by decide +kernel
theorem dX7_matches_55 : decode cX7_matches 55 = .ok (.isub, 1) := by decide +kernel
theorem dX7_matches_56 : decode cX7_matches 56 = .ok (.goto 4, 3) := by decide +kernel
theorem dX7_matches_59 : decode cX7_matches 59 = .ok (.iconst 0, 1) := by decide +kernel
theorem dX7_matches_60 : decode cX7_matches 60 = .ok (.istore 6, 2) := by decide +kernel
theorem dX7_matches_62 : decode cX7_matches 62 = .ok (.iload_n 0, 1) := by decide +kernel
theorem dX7_matches_63 : decode cX7_matches 63 = .ok (.bipush 6, 2) := by decide +kernel
theorem dX7_matches_65 : decode cX7_matches 65 = .ok (.if_icmp .ne 14, 3) := by decide +kernel
theorem dX7_matches_68 : decode cX7_matches 68 = .ok (.iconst 0, 1) := by decide +kernel
theorem dX7_matches_69 : decode cX7_matches 69 = .ok (.iload_n 3, 1) := by decide +kernel
theorem dX7_matches_70 : decode cX7_matches 70 = .ok (.iload 4, 2) := by decide +kernel
theorem dX7_matches_72 : decode cX7_matches 72 = .ok (.isub, 1) := by decide +kernel
theorem dX7_matches_73 : decode cX7_matches 73 = .ok (.invokestatic 50, 3) := by decide +kernel
theorem dX7_matches_76 : decode cX7_matches 76 = .ok (.goto 7, 3) := by decide +kernel
theorem dX7_matches_79 : decode cX7_matches 79 = .ok (.iload_n 3, 1) := by decide +kernel
theorem dX7_matches_80 : decode cX7_matches 80 = .ok (.iload 4, 2) := by decide +kernel
theorem dX7_matches_82 : decode cX7_matches 82 = .ok (.isub, 1) := by decide +kernel
theorem dX7_matches_83 : decode cX7_matches 83 = .ok (.istore 7, 2) := by decide +kernel
theorem dX7_matches_85 : decode cX7_matches 85 = .ok (.iload_n 2, 1) := by decide +kernel
theorem dX7_matches_86 : decode cX7_matches 86 = .ok (.istore 8, 2) := by decide +kernel
theorem dX7_matches_88 : decode cX7_matches 88 = .ok (.iconst 0, 1) := by decide +kernel
theorem dX7_matches_89 : decode cX7_matches 89 = .ok (.istore 9, 2) := by decide +kernel
theorem dX7_matches_91 : decode cX7_matches 91 = .ok (.iload 9, 2) := by decide +kernel
theorem dX7_matches_93 : decode cX7_matches 93 = .ok (.iload 7, 2) := by decide +kernel
theorem dX7_matches_95 : decode cX7_matches 95 = .ok (.if_icmp .gt 45, 3) := by decide +kernel
theorem dX7_matches_98 : decode cX7_matches 98 = .ok (.iload 9, 2) := by decide +kernel
theorem dX7_matches_100 : decode cX7_matches 100 = .ok (.iload 6, 2) := by decide +kernel
theorem dX7_matches_102 : decode cX7_matches 102 = .ok (.if_icmp .lt 24, 3) := by decide +kernel
theorem dX7_matches_105 : decode cX7_matches 105 = .ok (.iload 8, 2) := by decide +kernel
theorem dX7_matches_107 : decode cX7_matches 107 = .ok (.iload 5, 2) := by decide +kernel
theorem dX7_matches_109 : decode cX7_matches 109 = .ok (.iconst 2, 1) := by decide +kernel
theorem dX7_matches_110 : decode cX7_matches 110 = .ok (.idiv, 1) := by decide +kernel
theorem dX7_matches_111 : decode cX7_matches 111 = .ok (.isub, 1) := by decide +kernel
theorem dX7_matches_112 : decode cX7_matches 112 = .ok (.iload 5, 2) := by decide +kernel
theorem dX7_matches_114 : decode cX7_matches 114 = .ok (.irem, 1) := by decide +kernel
theorem dX7_matches_115 : decode cX7_matches 115 = .ok (.iload 5, 2) := by decide +kernel
theorem dX7_matches_117 : decode cX7_matches 117 = .ok (.iconst 2, 1) := by decide +kernel
theorem dX7_matches_118 : decode cX7_matches 118 = .ok (.idiv, 1) := by decide +kernel
theorem dX7_matches_119 : decode cX7_matches 119 = .ok (.iadd, 1) := by decide +kernel
theorem dX7_matches_120 : decode cX7_matches 120 = .ok (.iload_n 1, 1) := by decide +kernel
theorem dX7_matches_121 : decode cX7_matches 121 = .ok (.if_icmp .ne 5, 3) := by decide +kernel
theorem dX7_matches_124 : decode cX7_matches 124 = .ok (.iconst 1, 1) := by decide +kernel
theorem dX7_matches_125 : decode cX7_matches 125 = .ok (.ireturn, 1) := by decide +kernel
theorem dX7_matches_126 : decode cX7_matches 126 = .ok (.iload 8, 2) := by decide +kernel
theorem dX7_matches_128 : decode cX7_matches 128 = .ok (.iconst 1, 1) := by decide +kernel
theorem dX7_matches_129 : decode cX7_matches 129 = .ok (.isub, 1) := by decide +kernel
theorem dX7_matches_130 : decode cX7_matches 130 = .ok (.iconst 3, 1) := by decide +kernel
theorem dX7_matches_131 : decode cX7_matches 131 = .ok (.idiv, 1) := by decide +kernel
theorem dX7_matches_132 : decode cX7_matches 132 = .ok (.istore 8, 2) := by decide +kernel
theorem dX7_matches_134 : decode cX7_matches 134 = .ok (.iinc 9 1, 3) := by decide +kernel
theorem dX7_matches_137 : decode cX7_matches 137 = .ok (.goto (-46), 3) := by decide +kernel
theorem dX7_matches_140 : decode cX7_matches 140 = .ok (.iconst 0, 1) := by decide +kernel
theorem dX7_matches_141 : decode cX7_matches 141 = .ok (.ireturn, 1) := by decide +kernel
theorem dX8_init_0 : decode cX8_init 0 = .ok (.aload_n 0, 1) := by decide +kernel
theorem dX8_init_1 : decode cX8_init 1 = .ok (.invokespecial 1, 3) := by decide +kernel
theorem dX8_init_4 : decode cX8_init 4 = .ok (.aload_n 0, 1) := by decide +kernel
theorem dX8_init_5 : decode cX8_init 5 = .ok (.bipush 20, 2) := by decide +kernel
theorem dX8_init_7 : decode cX8_init 7 = .ok (.newarray .int, 2) := by decide +kernel
theorem dX8_init_9 : decode cX8_init 9 = .ok (.putfield 9, 3) := by decide +kernel
theorem dX8_init_12 : decode cX8_init 12 = .ok (.aload_n 0, 1) := by decide +kernel
theorem dX8_init_13 : decode cX8_init 13 = .ok (.iconst (-1), 1) := by decide +kernel
theorem dX8_init_14 : decode cX8_init 14 = .ok (.putfield 13, 3) := by decide +kernel
theorem dX8_init_17 : decode cX8_init 17 = .ok (.return_, 1) := by decide +kernel
theorem dX8_renew_0 : decode cX8_renew 0 = .ok (.aload_n 0, 1) := by decide +kernel
theorem dX8_renew_1 : decode cX8_renew 1 = .ok (.iload_n 1, 1) := by decide +kernel
theorem dX8_renew_2 : decode cX8_renew 2 = .ok (.putfield 13, 3) := by decide +kernel
theorem dX8_renew_5 : decode cX8_renew 5 = .ok (.aload_n 0, 1) := by decide +kernel
theorem dX8_renew_6 : decode cX8_renew 6 = .ok (.iload_n 2, 1) := by decide +kernel
theorem dX8_renew_7 : decode cX8_renew 7 = .ok (.putfield 17, 3) := by decide +kernel
theorem dX8_renew_10 : decode cX8_renew 10 = .ok (.aload_n 0, 1) := by decide +kernel
theorem dX8_renew_11 : decode cX8_renew 11 = .ok (.getfield 9, 3) := by decide +kernel
theorem dX8_renew_14 : decode cX8_renew 14 = .ok (.iconst 0, 1) := by decide +kernel
theorem dX8_renew_15 : decode cX8_renew 15 = .ok (.invokestatic 20, 3) := by decide +kernel
theorem dX8_renew_18 : decode cX8_renew 18 = .ok (.return_, 1) := by decide +kernel
theorem dX8_setNarrowed_0 : decode cX8_setNarrowed 0 = .ok (.iload_n 2, 1) := by decide +kernel
theorem dX8_setNarrowed_1 : decode cX8_setNarrowed 1 = .ok (.istore_n 3, 1) := by decide +kernel
theorem dX8_setNarrowed_2 : decode cX8_setNarrowed 2 = .ok (.aload_n 0, 1) := by decide +kernel
theorem dX8_setNarrowed_3 : decode cX8_setNarrowed 3 = .ok (.getfield 13, 3) := by decide +kernel
theorem dX8_setNarrowed_6 : decode cX8_setNarrowed 6 = .ok (.ifCond .ne 9, 3) := by decide +kernel
theorem dX8_setNarrowed_9 : decode cX8_setNarrowed 9 = .ok (.iload_n 2, 1) := by decide +kernel
theorem dX8_setNarrowed_10 : decode cX8_setNarrowed 10 = .ok (.i2b, 1) := by decide +kernel
theorem dX8_setNarrowed_11 : decode cX8_setNarrowed 11 = .ok (.istore_n 3, 1) := by decide +kernel
theorem dX8_setNarrowed_12 : decode cX8_setNarrowed 12 = .ok (.goto 14, 3) := by decide +kernel
theorem dX8_setNarrowed_15 : decode cX8_setNarrowed 15 = .ok (.aload_n 0, 1) := by decide +kernel
theorem dX8_setNarrowed_16 : decode cX8_setNarrowed 16 = .ok (.getfield 13, 3) := by decide +kernel
theorem dX8_setNarrowed_19 : decode cX8_setNarrowed 19 = .ok (.iconst 2, 1) := by decide +kernel
theorem dX8_setNarrowed_20 : decode cX8_setNarrowed 20 = .ok (.if_icmp .eq 6, 3) := by decide +kernel
theorem dX8_setNarrowed_23 : decode cX8_setNarrowed 23 = .ok (.iload_n 2, 1) := by decide +kernel
theorem dX8_setNarrowed_24 : decode cX8_setNarrowed 24 = .ok (.i2s, 1) := by decide +kernel
theorem dX8_setNarrowed_25 : decode cX8_setNarrowed 25 = .ok (.istore_n 3, 1) := by decide +kernel
theorem dX8_setNarrowed_26 : decode cX8_setNarrowed 26 = .ok (.aload_n 0, 1) := by decide +kernel
theorem dX8_setNarrowed_27 : decode cX8_setNarrowed 27 = .ok (.getfield 9, 3) := by decide +kernel
theorem dX8_setNarrowed_30 : decode cX8_setNarrowed 30 = .ok (.iload_n 1, 1) := by decide +kernel
theorem dX8_setNarrowed_31 : decode cX8_setNarrowed 31 = .ok (.iload_n 3, 1) := by decide +kernel
theorem dX8_setNarrowed_32 : decode cX8_setNarrowed 32 = .ok (.invokestatic 26, 3) := by decide +kernel
theorem dX8_setNarrowed_35 : decode cX8_setNarrowed 35 = .ok (.return_, 1) := by decide +kernel
theorem dX9_power_0 : decode cX9_power 0 = .ok (.iload_n 0, 1) := by decide +kernel
theorem dX9_power_1 : decode cX9_power 1 = .ok (.ifCond .lt 11, 3) := by decide +kernel
theorem dX9_power_4 : decode cX9_power 4 = .ok (.iload_n 0, 1) := by decide +kernel
theorem dX9_power_5 : decode cX9_power 5 = .ok (.getstatic 7, 3) := by decide +kernel
theorem dX9_power_8 : decode cX9_power 8 = .ok (.arraylength, 1) := by decide +kernel
theorem dX9_power_9 : decode cX9_power 9 = .ok (.if_icmp .lt 7, 3) := by decide +kernel
theorem dX9_power_12 : decode cX9_power 12 = .ok (.iconst 1, 1) := by decide +kernel
theorem dX9_power_13 : decode cX9_power 13 = .ok (.goto 8, 3) := by decide +kernel
theorem dX9_power_16 : decode cX9_power 16 = .ok (.getstatic 7, 3) := by decide +kernel
theorem dX9_power_19 : decode cX9_power 19 = .ok (.iload_n 0, 1) := by decide +kernel
theorem dX9_power_20 : decode cX9_power 20 = .ok (.iaload, 1) := by decide +kernel
theorem dX9_power_21 : decode cX9_power 21 = .ok (.ireturn, 1) := by decide +kernel
theorem dX9_length_0 : decode cX9_length 0 = .ok (.iconst 0, 1) := by decide +kernel
theorem dX9_length_1 : decode cX9_length 1 = .ok (.istore_n 1, 1) := by decide +kernel
theorem dX9_length_2 : decode cX9_length 2 = .ok (.iconst 1, 1) := by decide +kernel
theorem dX9_length_3 : decode cX9_length 3 = .ok (.istore_n 2, 1) := by decide +kernel
theorem dX9_length_4 : decode cX9_length 4 = .ok (.iconst 1, 1) := by decide +kernel
theorem dX9_length_5 : decode cX9_length 5 = .ok (.istore_n 3, 1) := by decide +kernel
theorem dX9_length_6 : decode cX9_length 6 = .ok (.iload_n 3, 1) := by decide +kernel
theorem dX9_length_7 : decode cX9_length 7 = .ok (.bipush 9, 2) := by decide +kernel
theorem dX9_length_9 : decode cX9_length 9 = .ok (.if_icmp .gt 22, 3) := by decide +kernel
theorem dX9_length_12 : decode cX9_length 12 = .ok (.iload_n 0, 1) := by decide +kernel
theorem dX9_length_13 : decode cX9_length 13 = .ok (.iload_n 2, 1) := by decide +kernel
theorem dX9_length_14 : decode cX9_length 14 = .ok (.if_icmp .lt 17, 3) := by decide +kernel
theorem dX9_length_17 : decode cX9_length 17 = .ok (.iload_n 3, 1) := by decide +kernel
theorem dX9_length_18 : decode cX9_length 18 = .ok (.istore_n 1, 1) := by decide +kernel
theorem dX9_length_19 : decode cX9_length 19 = .ok (.iconst 3, 1) := by decide +kernel
theorem dX9_length_20 : decode cX9_length 20 = .ok (.iload_n 2, 1) := by decide +kernel
theorem dX9_length_21 : decode cX9_length 21 = .ok (.imul, 1) := by decide +kernel
theorem dX9_length_22 : decode cX9_length 22 = .ok (.iconst 1, 1) := by decide +kernel
theorem dX9_length_23 : decode cX9_length 23 = .ok (.iadd, 1) := by decide +kernel
theorem dX9_length_24 : decode cX9_length 24 = .ok (.istore_n 2, 1) := by decide +kernel
theorem dX9_length_25 : decode cX9_length 25 = .ok (.iinc 3 1, 3) := by decide +kernel
theorem dX9_length_28 : decode cX9_length 28 = .ok (.goto (-22), 3) := by decide +kernel
theorem dX9_length_31 : decode cX9_length 31 = .ok (.iload_n 1, 1) := by decide +kernel
theorem dX9_length_32 : decode cX9_length 32 = .ok (.ireturn, 1) := by decide +kernel
theorem dX9_extend_0 : decode cX9_extend 0 = .ok (.iconst 3, 1) := by decide +kernel
theorem dX9_extend_1 : decode cX9_extend 1 = .ok (.iload_n 0, 1) := by decide +kernel
theorem dX9_extend_2 : decode cX9_extend 2 = .ok (.imul, 1) := by decide +kernel
theorem dX9_extend_3 : decode cX9_extend 3 = .ok (.iconst 1, 1) := by decide +kernel
theorem dX9_extend_4 : decode cX9_extend 4 = .ok (.iadd, 1) := by decide +kernel
theorem dX9_extend_5 : decode cX9_extend 5 = .ok (.iload_n 1, 1) := by decide +kernel
theorem dX9_extend_6 : decode cX9_extend 6 = .ok (.iadd, 1) := by decide +kernel
theorem dX9_extend_7 : decode cX9_extend 7 = .ok (.ireturn, 1) := by decide +kernel
theorem dX9_join_0 : decode cX9_join 0 = .ok (.iload_n 0, 1) := by decide +kernel
theorem dX9_join_1 : decode cX9_join 1 = .ok (.iload_n 2, 1) := by decide +kernel
theorem dX9_join_2 : decode cX9_join 2 = .ok (.invokestatic 13, 3) := by decide +kernel
theorem dX9_join_5 : decode cX9_join 5 = .ok (.imul, 1) := by decide +kernel
theorem dX9_join_6 : decode cX9_join 6 = .ok (.iload_n 1, 1) := by decide +kernel
theorem dX9_join_7 : decode cX9_join 7 = .ok (.iadd, 1) := by decide +kernel
theorem dX9_join_8 : decode cX9_join 8 = .ok (.ireturn, 1) := by decide +kernel
theorem dX9_factor_0 : decode cX9_factor 0 = .ok (.iload_n 1, 1) := by decide +kernel
theorem dX9_factor_1 : decode cX9_factor 1 = .ok (.iload_n 3, 1) := by decide +kernel
theorem dX9_factor_2 : decode cX9_factor 2 = .ok (.isub, 1) := by decide +kernel
theorem dX9_factor_3 : decode cX9_factor 3 = .ok (.invokestatic 13, 3) := by decide +kernel
theorem dX9_factor_6 : decode cX9_factor 6 = .ok (.istore 4, 2) := by decide +kernel
theorem dX9_factor_8 : decode cX9_factor 8 = .ok (.iload_n 3, 1) := by decide +kernel
theorem dX9_factor_9 : decode cX9_factor 9 = .ok (.iload_n 2, 1) := by decide +kernel
theorem dX9_factor_10 : decode cX9_factor 10 = .ok (.isub, 1) := by decide +kernel
theorem dX9_factor_11 : decode cX9_factor 11 = .ok (.invokestatic 13, 3) := by decide +kernel
theorem dX9_factor_14 : decode cX9_factor 14 = .ok (.istore 5, 2) := by decide +kernel
theorem dX9_factor_16 : decode cX9_factor 16 = .ok (.iload 4, 2) := by decide +kernel
theorem dX9_factor_18 : decode cX9_factor 18 = .ok (.iconst 1, 1) := by decide +kernel
theorem dX9_factor_19 : decode cX9_factor 19 = .ok (.if_icmp .lt 9, 3) := by decide +kernel
theorem dX9_factor_22 : decode cX9_factor 22 = .ok (.iload 5, 2) := by decide +kernel
theorem dX9_factor_24 : decode cX9_factor 24 = .ok (.iconst 1, 1) := by decide +kernel
theorem dX9_factor_25 : decode cX9_factor 25 = .ok (.if_icmp .ge 5, 3) := by decide +kernel
theorem dX9_factor_28 : decode cX9_factor 28 = .ok (.iconst 0, 1) := by decide +kernel
theorem dX9_factor_29 : decode cX9_factor 29 = .ok (.ireturn, 1) := by decide +kernel
theorem dX9_factor_30 : decode cX9_factor 30 = .ok (.iload_n 0, 1) := by decide +kernel
theorem dX9_factor_31 : decode cX9_factor 31 = .ok (.iload 4, 2) := by decide +kernel
theorem dX9_factor_33 : decode cX9_factor 33 = .ok (.iconst 2, 1) := by decide +kernel
theorem dX9_factor_34 : decode cX9_factor 34 = .ok (.idiv, 1) := by decide +kernel
theorem dX9_factor_35 : decode cX9_factor 35 = .ok (.isub, 1) := by decide +kernel
theorem dX9_factor_36 : decode cX9_factor 36 = .ok (.iload 4, 2) := by decide +kernel
theorem dX9_factor_38 : decode cX9_factor 38 = .ok (.idiv, 1) := by decide +kernel
theorem dX9_factor_39 : decode cX9_factor 39 = .ok (.istore 6, 2) := by decide +kernel
theorem dX9_factor_41 : decode cX9_factor 41 = .ok (.iload 5, 2) := by decide +kernel
theorem dX9_factor_43 : decode cX9_factor 43 = .ok (.iconst 2, 1) := by decide +kernel
theorem dX9_factor_44 : decode cX9_factor 44 = .ok (.idiv, 1) := by decide +kernel
theorem dX9_factor_45 : decode cX9_factor 45 = .ok (.istore 7, 2) := by decide +kernel
theorem dX9_factor_47 : decode cX9_factor 47 = .ok (.iload 6, 2) := by decide +kernel
theorem dX9_factor_49 : decode cX9_factor 49 = .ok (.iload 7, 2) := by decide +kernel
theorem dX9_factor_51 : decode cX9_factor 51 = .ok (.isub, 1) := by decide +kernel
theorem dX9_factor_52 : decode cX9_factor 52 = .ok (.iload 5, 2) := by decide +kernel
theorem dX9_factor_54 : decode cX9_factor 54 = .ok (.irem, 1) := by decide +kernel
theorem dX9_factor_55 : decode cX9_factor 55 = .ok (.iload 7, 2) := by decide +kernel
theorem dX9_factor_57 : decode cX9_factor 57 = .ok (.iadd, 1) := by decide +kernel
theorem dX9_factor_58 : decode cX9_factor 58 = .ok (.ireturn, 1) := by decide +kernel
