theorem dX10_step_0 : decode cX10_step 0 = .ok (.aload_n 0, 1) := by decide +kernel
theorem dX10_step_1 : decode cX10_step 1 = .ok (.iload_n 1, 1) := by decide +kernel
theorem dX10_step_2 : decode cX10_step 2 = .ok (.invokevirtual 62, 3) := by decide +kernel
theorem dX10_step_5 : decode cX10_step 5 = .ok (.ifCond .eq 29, 3) := by decide +kernel
theorem dX10_step_8 : decode cX10_step 8 = .ok (.iload_n 2, 1) := by decide +kernel
theorem dX10_step_9 : decode cX10_step 9 = .ok (.iconst 0, 1) := by decide +kernel
theorem dX10_step_10 : decode cX10_step 10 = .ok (.aload_n 0, 1) := by decide +kernel
theorem dX10_step_11 : decode cX10_step 11 = .ok (.iload_n 1, 1) := by decide +kernel
theorem dX10_step_12 : decode cX10_step 12 = .ok (.bipush 11, 2) := by decide +kernel
theorem dX10_step_14 : decode cX10_step 14 = .ok (.invokevirtual 55, 3) := by decide +kernel
theorem dX10_step_17 : decode cX10_step 17 = .ok (.iconst 1, 1) := by decide +kernel
theorem dX10_step_18 : decode cX10_step 18 = .ok (.isub, 1) := by decide +kernel
theorem dX10_step_19 : decode cX10_step 19 = .ok (.invokestatic 29, 3) := by decide +kernel
theorem dX10_step_22 : decode cX10_step 22 = .ok (.ifCond .eq 12, 3) := by decide +kernel
theorem dX10_step_25 : decode cX10_step 25 = .ok (.iload_n 3, 1) := by decide +kernel
theorem dX10_step_26 : decode cX10_step 26 = .ok (.iconst 0, 1) := by decide +kernel
theorem dX10_step_27 : decode cX10_step 27 = .ok (.iconst 2, 1) := by decide +kernel
theorem dX10_step_28 : decode cX10_step 28 = .ok (.invokestatic 29, 3) := by decide +kernel
theorem dX10_step_31 : decode cX10_step 31 = .ok (.ifCond .ne 7, 3) := by decide +kernel
theorem dX10_step_34 : decode cX10_step 34 = .ok (.sipush (-10000), 3) := by decide +kernel
theorem dX10_step_37 : decode cX10_step 37 = .ok (.ireturn, 1) := by decide +kernel
theorem dX10_step_38 : decode cX10_step 38 = .ok (.aload_n 0, 1) := by decide +kernel
theorem dX10_step_39 : decode cX10_step 39 = .ok (.iload_n 1, 1) := by decide +kernel
theorem dX10_step_40 : decode cX10_step 40 = .ok (.iload_n 2, 1) := by decide +kernel
theorem dX10_step_41 : decode cX10_step 41 = .ok (.invokevirtual 59, 3) := by decide +kernel
theorem dX10_step_44 : decode cX10_step 44 = .ok (.istore 4, 2) := by decide +kernel
theorem dX10_step_46 : decode cX10_step 46 = .ok (.iload_n 3, 1) := by decide +kernel
theorem dX10_step_47 : decode cX10_step 47 = .ok (.ifCond .ne 8, 3) := by decide +kernel
theorem dX10_step_50 : decode cX10_step 50 = .ok (.iload 4, 2) := by decide +kernel
theorem dX10_step_52 : decode cX10_step 52 = .ok (.goto 34, 3) := by decide +kernel
theorem dX10_step_55 : decode cX10_step 55 = .ok (.iload_n 3, 1) := by decide +kernel
theorem dX10_step_56 : decode cX10_step 56 = .ok (.iconst 1, 1) := by decide +kernel
theorem dX10_step_57 : decode cX10_step 57 = .ok (.if_icmp .ne 12, 3) := by decide +kernel
theorem dX10_step_60 : decode cX10_step 60 = .ok (.aload_n 0, 1) := by decide +kernel
theorem dX10_step_61 : decode cX10_step 61 = .ok (.iload_n 1, 1) := by decide +kernel
theorem dX10_step_62 : decode cX10_step 62 = .ok (.iload_n 2, 1) := by decide +kernel
theorem dX10_step_63 : decode cX10_step 63 = .ok (.invokevirtual 68, 3) := by decide +kernel
theorem dX10_step_66 : decode cX10_step 66 = .ok (.goto 20, 3) := by decide +kernel
theorem dX10_step_69 : decode cX10_step 69 = .ok (.aload_n 0, 1) := by decide +kernel
theorem dX10_step_70 : decode cX10_step 70 = .ok (.getfield 7, 3) := by decide +kernel
theorem dX10_step_73 : decode cX10_step 73 = .ok (.bipush 20, 2) := by decide +kernel
theorem dX10_step_75 : decode cX10_step 75 = .ok (.iload 4, 2) := by decide +kernel
theorem dX10_step_77 : decode cX10_step 77 = .ok (.iadd, 1) := by decide +kernel
theorem dX10_step_78 : decode cX10_step 78 = .ok (.iaload, 1) := by decide +kernel
theorem dX10_step_79 : decode cX10_step 79 = .ok (.aload_n 0, 1) := by decide +kernel
theorem dX10_step_80 : decode cX10_step 80 = .ok (.iload_n 1, 1) := by decide +kernel
theorem dX10_step_81 : decode cX10_step 81 = .ok (.iload_n 2, 1) := by decide +kernel
theorem dX10_step_82 : decode cX10_step 82 = .ok (.invokevirtual 68, 3) := by decide +kernel
theorem dX10_step_85 : decode cX10_step 85 = .ok (.isub, 1) := by decide +kernel
theorem dX10_step_86 : decode cX10_step 86 = .ok (.ireturn, 1) := by decide +kernel
theorem dX10_rain_0 : decode cX10_rain 0 = .ok (.iload_n 1, 1) := by decide +kernel
theorem dX10_rain_1 : decode cX10_rain 1 = .ok (.iconst (-1), 1) := by decide +kernel
theorem dX10_rain_2 : decode cX10_rain 2 = .ok (.if_icmp .eq 11, 3) := by decide +kernel
theorem dX10_rain_5 : decode cX10_rain 5 = .ok (.aload_n 0, 1) := by decide +kernel
theorem dX10_rain_6 : decode cX10_rain 6 = .ok (.iload_n 1, 1) := by decide +kernel
theorem dX10_rain_7 : decode cX10_rain 7 = .ok (.invokevirtual 33, 3) := by decide +kernel
theorem dX10_rain_10 : decode cX10_rain 10 = .ok (.ifCond .eq 14, 3) := by decide +kernel
theorem dX10_rain_13 : decode cX10_rain 13 = .ok (.iload_n 2, 1) := by decide +kernel
theorem dX10_rain_14 : decode cX10_rain 14 = .ok (.iconst 0, 1) := by decide +kernel
theorem dX10_rain_15 : decode cX10_rain 15 = .ok (.sipush 300, 3) := by decide +kernel
theorem dX10_rain_18 : decode cX10_rain 18 = .ok (.invokestatic 29, 3) := by decide +kernel
theorem dX10_rain_21 : decode cX10_rain 21 = .ok (.ifCond .ne 5, 3) := by decide +kernel
theorem dX10_rain_24 : decode cX10_rain 24 = .ok (.iconst (-1), 1) := by decide +kernel
theorem dX10_rain_25 : decode cX10_rain 25 = .ok (.ireturn, 1) := by decide +kernel
theorem dX10_rain_26 : decode cX10_rain 26 = .ok (.iconst 0, 1) := by decide +kernel
theorem dX10_rain_27 : decode cX10_rain 27 = .ok (.istore_n 3, 1) := by decide +kernel
theorem dX10_rain_28 : decode cX10_rain 28 = .ok (.iload_n 3, 1) := by decide +kernel
theorem dX10_rain_29 : decode cX10_rain 29 = .ok (.aload_n 0, 1) := by decide +kernel
theorem dX10_rain_30 : decode cX10_rain 30 = .ok (.invokevirtual 25, 3) := by decide +kernel
theorem dX10_rain_33 : decode cX10_rain 33 = .ok (.if_icmp .ge 43, 3) := by decide +kernel
theorem dX10_rain_36 : decode cX10_rain 36 = .ok (.aload_n 0, 1) := by decide +kernel
theorem dX10_rain_37 : decode cX10_rain 37 = .ok (.getfield 7, 3) := by decide +kernel
theorem dX10_rain_40 : decode cX10_rain 40 = .ok (.sipush 180, 3) := by decide +kernel
theorem dX10_rain_43 : decode cX10_rain 43 = .ok (.iload_n 3, 1) := by decide +kernel
theorem dX10_rain_44 : decode cX10_rain 44 = .ok (.iadd, 1) := by decide +kernel
theorem dX10_rain_45 : decode cX10_rain 45 = .ok (.iload_n 1, 1) := by decide +kernel
theorem dX10_rain_46 : decode cX10_rain 46 = .ok (.iconst (-1), 1) := by decide +kernel
theorem dX10_rain_47 : decode cX10_rain 47 = .ok (.if_icmp .eq 8, 3) := by decide +kernel
theorem dX10_rain_50 : decode cX10_rain 50 = .ok (.iload_n 1, 1) := by decide +kernel
theorem dX10_rain_51 : decode cX10_rain 51 = .ok (.iload_n 3, 1) := by decide +kernel
theorem dX10_rain_52 : decode cX10_rain 52 = .ok (.if_icmp .ne 7, 3) := by decide +kernel
theorem dX10_rain_55 : decode cX10_rain 55 = .ok (.iload_n 2, 1) := by decide +kernel
theorem dX10_rain_56 : decode cX10_rain 56 = .ok (.goto 13, 3) := by decide +kernel
theorem dX10_rain_59 : decode cX10_rain 59 = .ok (.aload_n 0, 1) := by decide +kernel
theorem dX10_rain_60 : decode cX10_rain 60 = .ok (.getfield 7, 3) := by decide +kernel
theorem dX10_rain_63 : decode cX10_rain 63 = .ok (.sipush 180, 3) := by decide +kernel
theorem dX10_rain_66 : decode cX10_rain 66 = .ok (.iload_n 3, 1) := by decide +kernel
theorem dX10_rain_67 : decode cX10_rain 67 = .ok (.iadd, 1) := by decide +kernel
theorem dX10_rain_68 : decode cX10_rain 68 = .ok (.iaload, 1) := by decide +kernel
theorem dX10_rain_69 : decode cX10_rain 69 = .ok (.iastore, 1) := by decide +kernel
theorem dX10_rain_70 : decode cX10_rain 70 = .ok (.iinc 3 1, 3) := by decide +kernel
theorem dX10_rain_73 : decode cX10_rain 73 = .ok (.goto (-45), 3) := by decide +kernel
theorem dX10_rain_76 : decode cX10_rain 76 = .ok (.iconst 1, 1) := by decide +kernel
theorem dX10_rain_77 : decode cX10_rain 77 = .ok (.ireturn, 1) := by decide +kernel
theorem dX10_fall_0 : decode cX10_fall 0 = .ok (.iconst 0, 1) := by decide +kernel
theorem dX10_fall_1 : decode cX10_fall 1 = .ok (.istore_n 1, 1) := by decide +kernel
theorem dX10_fall_2 : decode cX10_fall 2 = .ok (.iload_n 1, 1) := by decide +kernel
theorem dX10_fall_3 : decode cX10_fall 3 = .ok (.aload_n 0, 1) := by decide +kernel
theorem dX10_fall_4 : decode cX10_fall 4 = .ok (.invokevirtual 25, 3) := by decide +kernel
theorem dX10_fall_7 : decode cX10_fall 7 = .ok (.if_icmp .ge 123, 3) := by decide +kernel
theorem dX10_fall_10 : decode cX10_fall 10 = .ok (.aload_n 0, 1) := by decide +kernel
theorem dX10_fall_11 : decode cX10_fall 11 = .ok (.getfield 7, 3) := by decide +kernel
theorem dX10_fall_14 : decode cX10_fall 14 = .ok (.bipush 100, 2) := by decide +kernel
theorem dX10_fall_16 : decode cX10_fall 16 = .ok (.iload_n 1, 1) := by decide +kernel
theorem dX10_fall_17 : decode cX10_fall 17 = .ok (.iadd, 1) := by decide +kernel
theorem dX10_fall_18 : decode cX10_fall 18 = .ok (.dup2, 1) := by decide +kernel
theorem dX10_fall_19 : decode cX10_fall 19 = .ok (.iaload, 1) := by decide +kernel
theorem dX10_fall_20 : decode cX10_fall 20 = .ok (.aload_n 0, 1) := by decide +kernel
theorem dX10_fall_21 : decode cX10_fall 21 = .ok (.getfield 7, 3) := by decide +kernel
theorem dX10_fall_24 : decode cX10_fall 24 = .ok (.sipush 180, 3) := by decide +kernel
theorem dX10_fall_27 : decode cX10_fall 27 = .ok (.iload_n 1, 1) := by decide +kernel
theorem dX10_fall_28 : decode cX10_fall 28 = .ok (.iadd, 1) := by decide +kernel
theorem dX10_fall_29 : decode cX10_fall 29 = .ok (.iaload, 1) := by decide +kernel
theorem dX10_fall_30 : decode cX10_fall 30 = .ok (.iadd, 1) := by decide +kernel
theorem dX10_fall_31 : decode cX10_fall 31 = .ok (.iastore, 1) := by decide +kernel
theorem dX10_fall_32 : decode cX10_fall 32 = .ok (.aload_n 0, 1) := by decide +kernel
theorem dX10_fall_33 : decode cX10_fall 33 = .ok (.getfield 7, 3) := by decide +kernel
theorem dX10_fall_36 : decode cX10_fall 36 = .ok (.bipush 8, 2) := by decide +kernel
theorem dX10_fall_38 : decode cX10_fall 38 = .ok (.dup2, 1) := by decide +kernel
theorem dX10_fall_39 : decode cX10_fall 39 = .ok (.iaload, 1) := by decide +kernel
theorem dX10_fall_40 : decode cX10_fall 40 = .ok (.aload_n 0, 1) := by decide +kernel
theorem dX10_fall_41 : decode cX10_fall 41 = .ok (.getfield 7, 3) := by decide +kernel
theorem dX10_fall_44 : decode cX10_fall 44 = .ok (.sipush 180, 3) := by decide +kernel
theorem dX10_fall_47 : decode cX10_fall 47 = .ok (.iload_n 1, 1) := by decide +kernel
theorem dX10_fall_48 : decode cX10_fall 48 = .ok (.iadd, 1) := by decide +kernel
theorem dX10_fall_49 : decode cX10_fall 49 = .ok (.iaload, 1) := by decide +kernel
theorem dX10_fall_50 : decode cX10_fall 50 = .ok (.iadd, 1) := by decide +kernel
theorem dX10_fall_51 : decode cX10_fall 51 = .ok (.iastore, 1) := by decide +kernel
theorem dX10_fall_52 : decode cX10_fall 52 = .ok (.aload_n 0, 1) := by decide +kernel
theorem dX10_fall_53 : decode cX10_fall 53 = .ok (.iload_n 1, 1) := by decide +kernel
theorem dX10_fall_54 : decode cX10_fall 54 = .ok (.iconst 2, 1) := by decide +kernel
theorem dX10_fall_55 : decode cX10_fall 55 = .ok (.invokevirtual 86, 3) := by decide +kernel
theorem dX10_fall_58 : decode cX10_fall 58 = .ok (.aload_n 0, 1) := by decide +kernel
theorem dX10_fall_59 : decode cX10_fall 59 = .ok (.getfield 7, 3) := by decide +kernel
theorem dX10_fall_62 : decode cX10_fall 62 = .ok (.sipush 140, 3) := by decide +kernel
theorem dX10_fall_65 : decode cX10_fall 65 = .ok (.iload_n 1, 1) := by decide +kernel
theorem dX10_fall_66 : decode cX10_fall 66 = .ok (.iadd, 1) := by decide +kernel
theorem dX10_fall_67 : decode cX10_fall 67 = .ok (.iaload, 1) := by decide +kernel
theorem dX10_fall_68 : decode cX10_fall 68 = .ok (.isub, 1) := by decide +kernel
theorem dX10_fall_69 : decode cX10_fall 69 = .ok (.istore_n 2, 1) := by decide +kernel
theorem dX10_fall_70 : decode cX10_fall 70 = .ok (.aload_n 0, 1) := by decide +kernel
theorem dX10_fall_71 : decode cX10_fall 71 = .ok (.getfield 7, 3) := by decide +kernel
theorem dX10_fall_74 : decode cX10_fall 74 = .ok (.bipush 100, 2) := by decide +kernel
theorem dX10_fall_76 : decode cX10_fall 76 = .ok (.iload_n 1, 1) := by decide +kernel
theorem dX10_fall_77 : decode cX10_fall 77 = .ok (.iadd, 1) := by decide +kernel
theorem dX10_fall_78 : decode cX10_fall 78 = .ok (.iaload, 1) := by decide +kernel
theorem dX10_fall_79 : decode cX10_fall 79 = .ok (.aload_n 0, 1) := by decide +kernel
theorem dX10_fall_80 : decode cX10_fall 80 = .ok (.iload_n 1, 1) := by decide +kernel
theorem dX10_fall_81 : decode cX10_fall 81 = .ok (.iconst 0, 1) := by decide +kernel
theorem dX10_fall_82 : decode cX10_fall 82 = .ok (.invokevirtual 86, 3) := by decide +kernel
theorem dX10_fall_85 : decode cX10_fall 85 = .ok (.invokestatic 77, 3) := by decide +kernel
theorem dX10_fall_88 : decode cX10_fall 88 = .ok (.iload_n 2, 1) := by decide +kernel
theorem dX10_fall_89 : decode cX10_fall 89 = .ok (.invokestatic 77, 3) := by decide +kernel
theorem dX10_fall_92 : decode cX10_fall 92 = .ok (.istore_n 3, 1) := by decide +kernel
theorem dX10_fall_93 : decode cX10_fall 93 = .ok (.iload_n 3, 1) := by decide +kernel
theorem dX10_fall_94 : decode cX10_fall 94 = .ok (.ifCond .le 30, 3) := by decide +kernel
theorem dX10_fall_97 : decode cX10_fall 97 = .ok (.aload_n 0, 1) := by decide +kernel
theorem dX10_fall_98 : decode cX10_fall 98 = .ok (.getfield 7, 3) := by decide +kernel
theorem dX10_fall_101 : decode cX10_fall 101 = .ok (.bipush 100, 2) := by decide +kernel
theorem dX10_fall_103 : decode cX10_fall 103 = .ok (.iload_n 1, 1) := by decide +kernel
theorem dX10_fall_104 : decode cX10_fall 104 = .ok (.iadd, 1) := by decide +kernel
theorem dX10_fall_105 : decode cX10_fall 105 = .ok (.dup2, 1) := by decide +kernel
theorem dX10_fall_106 : decode cX10_fall 106 = .ok (.iaload, 1) := by decide +kernel
theorem dX10_fall_107 : decode cX10_fall 107 = .ok (.iload_n 3, 1) := by decide +kernel
theorem dX10_fall_108 : decode cX10_fall 108 = .ok (.isub, 1) := by decide +kernel
theorem dX10_fall_109 : decode cX10_fall 109 = .ok (.iastore, 1) := by decide +kernel
theorem dX10_fall_110 : decode cX10_fall 110 = .ok (.aload_n 0, 1) := by decide +kernel
theorem dX10_fall_111 : decode cX10_fall 111 = .ok (.getfield 7, 3) := by decide +kernel
theorem dX10_fall_114 : decode cX10_fall 114 = .ok (.sipush 140, 3) := by decide +kernel
theorem dX10_fall_117 : decode cX10_fall 117 = .ok (.iload_n 1, 1) := by decide +kernel
theorem dX10_fall_118 : decode cX10_fall 118 = .ok (.iadd, 1) := by decide +kernel
theorem dX10_fall_119 : decode cX10_fall 119 = .ok (.dup2, 1) := by decide +kernel
theorem dX10_fall_120 : decode cX10_fall 120 = .ok (.iaload, 1) := by decide +kernel
theorem dX10_fall_121 : decode cX10_fall 121 = .ok (.iload_n 3, 1) := by decide +kernel
theorem dX10_fall_122 : decode cX10_fall 122 = .ok (.iadd, 1) := by decide +kernel
theorem dX10_fall_123 : decode cX10_fall 123 = .ok (.iastore, 1) := by decide +kernel
theorem dX10_fall_124 : decode cX10_fall 124 = .ok (.iinc 1 1, 3) := by decide +kernel
theorem dX10_fall_127 : decode cX10_fall 127 = .ok (.goto (-125), 3) := by decide +kernel
theorem dX10_fall_130 : decode cX10_fall 130 = .ok (.return_, 1) := by decide +kernel
theorem dX10_isLateral_0 : decode cX10_isLateral 0 = .ok (.aload_n 0, 1) := by decide +kernel
theorem dX10_isLateral_1 : decode cX10_isLateral 1 = .ok (.iload_n 1, 1) := by decide +kernel
theorem dX10_isLateral_2 : decode cX10_isLateral 2 = .ok (.iconst 0, 1) := by decide +kernel
theorem dX10_isLateral_3 : decode cX10_isLateral 3 = .ok (.invokevirtual 55, 3) := by decide +kernel
theorem dX10_isLateral_6 : decode cX10_isLateral 6 = .ok (.iconst 2, 1) := by decide +kernel
theorem dX10_isLateral_7 : decode cX10_isLateral 7 = .ok (.irem, 1) := by decide +kernel
theorem dX10_isLateral_8 : decode cX10_isLateral 8 = .ok (.ifCond .ne 7, 3) := by decide +kernel
theorem dX10_isLateral_11 : decode cX10_isLateral 11 = .ok (.iconst 1, 1) := by decide +kernel
theorem dX10_isLateral_12 : decode cX10_isLateral 12 = .ok (.goto 4, 3) := by decide +kernel
theorem dX10_isLateral_15 : decode cX10_isLateral 15 = .ok (.iconst 0, 1) := by decide +kernel
theorem dX10_isLateral_16 : decode cX10_isLateral 16 = .ok (.ireturn, 1) := by decide +kernel
theorem dX10_seep_0 : decode cX10_seep 0 = .ok (.iconst 0, 1) := by decide +kernel
theorem dX10_seep_1 : decode cX10_seep 1 = .ok (.istore_n 1, 1) := by decide +kernel
theorem dX10_seep_2 : decode cX10_seep 2 = .ok (.iload_n 1, 1) := by decide +kernel
theorem dX10_seep_3 : decode cX10_seep 3 = .ok (.aload_n 0, 1) := by decide +kernel
theorem dX10_seep_4 : decode cX10_seep 4 = .ok (.invokevirtual 25, 3) := by decide +kernel
theorem dX10_seep_7 : decode cX10_seep 7 = .ok (.if_icmp .ge 155, 3) := by decide +kernel
theorem dX10_seep_10 : decode cX10_seep 10 = .ok (.iconst 0, 1) := by decide +kernel
theorem dX10_seep_11 : decode cX10_seep 11 = .ok (.istore_n 2, 1) := by decide +kernel
theorem dX10_seep_12 : decode cX10_seep 12 = .ok (.iload_n 2, 1) := by decide +kernel
theorem dX10_seep_13 : decode cX10_seep 13 = .ok (.aload_n 0, 1) := by decide +kernel
theorem dX10_seep_14 : decode cX10_seep 14 = .ok (.getfield 7, 3) := by decide +kernel
theorem dX10_seep_17 : decode cX10_seep 17 = .ok (.bipush 13, 2) := by decide +kernel
theorem dX10_seep_19 : decode cX10_seep 19 = .ok (.iaload, 1) := by decide +kernel
theorem dX10_seep_20 : decode cX10_seep 20 = .ok (.if_icmp .ge 136, 3) := by decide +kernel
theorem dX10_seep_23 : decode cX10_seep 23 = .ok (.aload_n 0, 1) := by decide +kernel
theorem dX10_seep_24 : decode cX10_seep 24 = .ok (.iload_n 2, 1) := by decide +kernel
theorem dX10_seep_25 : decode cX10_seep 25 = .ok (.iconst 0, 1) := by decide +kernel
theorem dX10_seep_26 : decode cX10_seep 26 = .ok (.invokevirtual 55, 3) := by decide +kernel
theorem dX10_seep_29 : decode cX10_seep 29 = .ok (.iconst 2, 1) := by decide +kernel
theorem dX10_seep_30 : decode cX10_seep 30 = .ok (.if_icmp .ne 17, 3) := by decide +kernel
theorem dX10_seep_33 : decode cX10_seep 33 = .ok (.aload_n 0, 1) := by decide +kernel
theorem dX10_seep_34 : decode cX10_seep 34 = .ok (.iload_n 2, 1) := by decide +kernel
theorem dX10_seep_35 : decode cX10_seep 35 = .ok (.bipush 6, 2) := by decide +kernel
theorem dX10_seep_37 : decode cX10_seep 37 = .ok (.invokevirtual 55, 3) := by decide +kernel
theorem dX10_seep_40 : decode cX10_seep 40 = .ok (.ifCond .ne 7, 3) := by decide +kernel
theorem dX10_seep_43 : decode cX10_seep 43 = .ok (.iconst 1, 1) := by decide +kernel
theorem dX10_seep_44 : decode cX10_seep 44 = .ok (.goto 4, 3) := by decide +kernel
theorem dX10_seep_47 : decode cX10_seep 47 = .ok (.iconst 0, 1) := by decide +kernel
theorem dX10_seep_48 : decode cX10_seep 48 = .ok (.istore_n 3, 1) := by decide +kernel
theorem dX10_seep_49 : decode cX10_seep 49 = .ok (.aload_n 0, 1) := by decide +kernel
theorem dX10_seep_50 : decode cX10_seep 50 = .ok (.iload_n 2, 1) := by decide +kernel
theorem dX10_seep_51 : decode cX10_seep 51 = .ok (.invokevirtual 89, 3) := by decide +kernel
theorem dX10_seep_54 : decode cX10_seep 54 = .ok (.ifCond .eq 96, 3) := by decide +kernel
theorem dX10_seep_57 : decode cX10_seep 57 = .ok (.aload_n 0, 1) := by decide +kernel
theorem dX10_seep_58 : decode cX10_seep 58 = .ok (.iload_n 2, 1) := by decide +kernel
theorem dX10_seep_59 : decode cX10_seep 59 = .ok (.iload_n 1, 1) := by decide +kernel
theorem dX10_seep_60 : decode cX10_seep 60 = .ok (.invokevirtual 65, 3) := by decide +kernel
theorem dX10_seep_63 : decode cX10_seep 63 = .ok (.ifCond .lt 87, 3) := by decide +kernel
theorem dX10_seep_66 : decode cX10_seep 66 = .ok (.aload_n 0, 1) := by decide +kernel
theorem dX10_seep_67 : decode cX10_seep 67 = .ok (.iload_n 2, 1) := by decide +kernel
theorem dX10_seep_68 : decode cX10_seep 68 = .ok (.bipush 8, 2) := by decide +kernel
theorem dX10_seep_70 : decode cX10_seep 70 = .ok (.invokevirtual 55, 3) := by decide +kernel
theorem dX10_seep_73 : decode cX10_seep 73 = .ok (.ifCond .ne 77, 3) := by decide +kernel
theorem dX10_seep_76 : decode cX10_seep 76 = .ok (.iload_n 3, 1) := by decide +kernel
theorem dX10_seep_77 : decode cX10_seep 77 = .ok (.ifCond .ne 73, 3) := by decide +kernel
theorem dX10_seep_80 : decode cX10_seep 80 = .ok (.aload_n 0, 1) := by decide +kernel
theorem dX10_seep_81 : decode cX10_seep 81 = .ok (.getfield 7, 3) := by decide +kernel
theorem dX10_seep_84 : decode cX10_seep 84 = .ok (.sipush 140, 3) := by decide +kernel
theorem dX10_seep_87 : decode cX10_seep 87 = .ok (.iload_n 1, 1) := by decide +kernel
theorem dX10_seep_88 : decode cX10_seep 88 = .ok (.iadd, 1) := by decide +kernel
theorem dX10_seep_89 : decode cX10_seep 89 = .ok (.iaload, 1) := by decide +kernel
theorem dX10_seep_90 : decode cX10_seep 90 = .ok (.aload_n 0, 1) := by decide +kernel
theorem dX10_seep_91 : decode cX10_seep 91 = .ok (.iload_n 1, 1) := by decide +kernel
theorem dX10_seep_92 : decode cX10_seep 92 = .ok (.iconst 1, 1) := by decide +kernel
theorem dX10_seep_93 : decode cX10_seep 93 = .ok (.invokevirtual 86, 3) := by decide +kernel
theorem dX10_seep_96 : decode cX10_seep 96 = .ok (.imul, 1) := by decide +kernel
theorem dX10_seep_97 : decode cX10_seep 97 = .ok (.bipush 100, 2) := by decide +kernel
theorem dX10_seep_99 : decode cX10_seep 99 = .ok (.idiv, 1) := by decide +kernel
theorem dX10_seep_100 : decode cX10_seep 100 = .ok (.aload_n 0, 1) := by decide +kernel
theorem dX10_seep_101 : decode cX10_seep 101 = .ok (.iload_n 2, 1) := by decide +kernel
theorem dX10_seep_102 : decode cX10_seep 102 = .ok (.invokevirtual 80, 3) := by decide +kernel
theorem dX10_seep_105 : decode cX10_seep 105 = .ok (.aload_n 0, 1) := by decide +kernel
theorem dX10_seep_106 : decode cX10_seep 106 = .ok (.iload_n 2, 1) := by decide +kernel
theorem dX10_seep_107 : decode cX10_seep 107 = .ok (.bipush 9, 2) := by decide +kernel
theorem dX10_seep_109 : decode cX10_seep 109 = .ok (.invokevirtual 55, 3) := by decide +kernel
theorem dX10_seep_112 : decode cX10_seep 112 = .ok (.isub, 1) := by decide +kernel
theorem dX10_seep_113 : decode cX10_seep 113 = .ok (.invokestatic 77, 3) := by decide +kernel
theorem dX10_seep_116 : decode cX10_seep 116 = .ok (.istore 4, 2) := by decide +kernel
theorem dX10_seep_118 : decode cX10_seep 118 = .ok (.aload_n 0, 1) := by decide +kernel
theorem dX10_seep_119 : decode cX10_seep 119 = .ok (.getfield 7, 3) := by decide +kernel
theorem dX10_seep_122 : decode cX10_seep 122 = .ok (.sipush 140, 3) := by decide +kernel
theorem dX10_seep_125 : decode cX10_seep 125 = .ok (.iload_n 1, 1) := by decide +kernel
theorem dX10_seep_126 : decode cX10_seep 126 = .ok (.iadd, 1) := by decide +kernel
theorem dX10_seep_127 : decode cX10_seep 127 = .ok (.dup2, 1) := by decide +kernel
theorem dX10_seep_128 : decode cX10_seep 128 = .ok (.iaload, 1) := by decide +kernel
theorem dX10_seep_129 : decode cX10_seep 129 = .ok (.iload 4, 2) := by decide +kernel
theorem dX10_seep_131 : decode cX10_seep 131 = .ok (.isub, 1) := by decide +kernel
theorem dX10_seep_132 : decode cX10_seep 132 = .ok (.iastore, 1) := by decide +kernel
theorem dX10_seep_133 : decode cX10_seep 133 = .ok (.aload_n 0, 1) := by decide +kernel
theorem dX10_seep_134 : decode cX10_seep 134 = .ok (.iload_n 2, 1) := by decide +kernel
theorem dX10_seep_135 : decode cX10_seep 135 = .ok (.bipush 9, 2) := by decide +kernel
theorem dX10_seep_137 : decode cX10_seep 137 = .ok (.aload_n 0, 1) := by decide +kernel
theorem dX10_seep_138 : decode cX10_seep 138 = .ok (.iload_n 2, 1) := by decide +kernel
theorem dX10_seep_139 : decode cX10_seep 139 = .ok (.bipush 9, 2) := by decide +kernel
theorem dX10_seep_141 : decode cX10_seep 141 = .ok (.invokevirtual 55, 3) := by decide +kernel
theorem dX10_seep_144 : decode cX10_seep 144 = .ok (.iload 4, 2) := by decide +kernel
theorem dX10_seep_146 : decode cX10_seep 146 = .ok (.iadd, 1) := by decide +kernel
theorem dX10_seep_147 : decode cX10_seep 147 = .ok (.invokevirtual 51, 3) := by decide +kernel
theorem dX10_seep_150 : decode cX10_seep 150 = .ok (.iinc 2 1, 3) := by decide +kernel
theorem dX10_seep_153 : decode cX10_seep 153 = .ok (.goto (-141), 3) := by decide +kernel
theorem dX10_seep_156 : decode cX10_seep 156 = .ok (.iinc 1 1, 3) := by decide +kernel
theorem dX10_seep_159 : decode cX10_seep 159 = .ok (.goto (-157), 3) := by decide +kernel
theorem dX10_seep_162 : decode cX10_seep 162 = .ok (.return_, 1) := by decide +kernel
theorem dX10_pass_0 : decode cX10_pass 0 = .ok (.aload_n 0, 1) := by decide +kernel
theorem dX10_pass_1 : decode cX10_pass 1 = .ok (.iload_n 1, 1) := by decide +kernel
theorem dX10_pass_2 : decode cX10_pass 2 = .ok (.bipush 7, 2) := by decide +kernel
theorem dX10_pass_4 : decode cX10_pass 4 = .ok (.invokevirtual 55, 3) := by decide +kernel
theorem dX10_pass_7 : decode cX10_pass 7 = .ok (.istore_n 2, 1) := by decide +kernel
theorem dX10_pass_8 : decode cX10_pass 8 = .ok (.iload_n 2, 1) := by decide +kernel
theorem dX10_pass_9 : decode cX10_pass 9 = .ok (.bipush 100, 2) := by decide +kernel
theorem dX10_pass_11 : decode cX10_pass 11 = .ok (.if_icmp .lt 37, 3) := by decide +kernel
theorem dX10_pass_14 : decode cX10_pass 14 = .ok (.aload_n 0, 1) := by decide +kernel
theorem dX10_pass_15 : decode cX10_pass 15 = .ok (.getfield 7, 3) := by decide +kernel
theorem dX10_pass_18 : decode cX10_pass 18 = .ok (.sipush 320, 3) := by decide +kernel
theorem dX10_pass_21 : decode cX10_pass 21 = .ok (.iload_n 2, 1) := by decide +kernel
theorem dX10_pass_22 : decode cX10_pass 22 = .ok (.iadd, 1) := by decide +kernel
theorem dX10_pass_23 : decode cX10_pass 23 = .ok (.bipush 100, 2) := by decide +kernel
theorem dX10_pass_25 : decode cX10_pass 25 = .ok (.isub, 1) := by decide +kernel
theorem dX10_pass_26 : decode cX10_pass 26 = .ok (.iaload, 1) := by decide +kernel
theorem dX10_pass_27 : decode cX10_pass 27 = .ok (.aload_n 0, 1) := by decide +kernel
theorem dX10_pass_28 : decode cX10_pass 28 = .ok (.iload_n 1, 1) := by decide +kernel
theorem dX10_pass_29 : decode cX10_pass 29 = .ok (.aload_n 0, 1) := by decide +kernel
theorem dX10_pass_30 : decode cX10_pass 30 = .ok (.iload_n 1, 1) := by decide +kernel
theorem dX10_pass_31 : decode cX10_pass 31 = .ok (.bipush 11, 2) := by decide +kernel
theorem dX10_pass_33 : decode cX10_pass 33 = .ok (.invokevirtual 55, 3) := by decide +kernel
theorem dX10_pass_36 : decode cX10_pass 36 = .ok (.iconst 1, 1) := by decide +kernel
theorem dX10_pass_37 : decode cX10_pass 37 = .ok (.isub, 1) := by decide +kernel
theorem dX10_pass_38 : decode cX10_pass 38 = .ok (.invokevirtual 68, 3) := by decide +kernel
theorem dX10_pass_41 : decode cX10_pass 41 = .ok (.if_icmp .le 7, 3) := by decide +kernel
theorem dX10_pass_44 : decode cX10_pass 44 = .ok (.iconst 1, 1) := by decide +kernel
theorem dX10_pass_45 : decode cX10_pass 45 = .ok (.goto 4, 3) := by decide +kernel
theorem dX10_pass_48 : decode cX10_pass 48 = .ok (.iconst 0, 1) := by decide +kernel
theorem dX10_pass_49 : decode cX10_pass 49 = .ok (.istore_n 3, 1) := by decide +kernel
theorem dX10_pass_50 : decode cX10_pass 50 = .ok (.aload_n 0, 1) := by decide +kernel
theorem dX10_pass_51 : decode cX10_pass 51 = .ok (.iload_n 1, 1) := by decide +kernel
theorem dX10_pass_52 : decode cX10_pass 52 = .ok (.bipush 10, 2) := by decide +kernel
theorem dX10_pass_54 : decode cX10_pass 54 = .ok (.iconst 0, 1) := by decide +kernel
theorem dX10_pass_55 : decode cX10_pass 55 = .ok (.invokevirtual 51, 3) := by decide +kernel
theorem dX10_pass_58 : decode cX10_pass 58 = .ok (.aload_n 0, 1) := by decide +kernel
theorem dX10_pass_59 : decode cX10_pass 59 = .ok (.iload_n 1, 1) := by decide +kernel
theorem dX10_pass_60 : decode cX10_pass 60 = .ok (.bipush 8, 2) := by decide +kernel
theorem dX10_pass_62 : decode cX10_pass 62 = .ok (.invokevirtual 55, 3) := by decide +kernel
theorem dX10_pass_65 : decode cX10_pass 65 = .ok (.iconst 1, 1) := by decide +kernel
theorem dX10_pass_66 : decode cX10_pass 66 = .ok (.if_icmp .eq 11, 3) := by decide +kernel
theorem dX10_pass_69 : decode cX10_pass 69 = .ok (.iload_n 2, 1) := by decide +kernel
theorem dX10_pass_70 : decode cX10_pass 70 = .ok (.ifCond .lt 7, 3) := by decide +kernel
theorem dX10_pass_73 : decode cX10_pass 73 = .ok (.iload_n 3, 1) := by decide +kernel
theorem dX10_pass_74 : decode cX10_pass 74 = .ok (.ifCond .eq 5, 3) := by decide +kernel
theorem dX10_pass_77 : decode cX10_pass 77 = .ok (.iconst 0, 1) := by decide +kernel
theorem dX10_pass_78 : decode cX10_pass 78 = .ok (.ireturn, 1) := by decide +kernel
theorem dX10_pass_79 : decode cX10_pass 79 = .ok (.aload_n 0, 1) := by decide +kernel
theorem dX10_pass_80 : decode cX10_pass 80 = .ok (.iload_n 1, 1) := by decide +kernel
theorem dX10_pass_81 : decode cX10_pass 81 = .ok (.bipush 9, 2) := by decide +kernel
theorem dX10_pass_83 : decode cX10_pass 83 = .ok (.invokevirtual 55, 3) := by decide +kernel
theorem dX10_pass_86 : decode cX10_pass 86 = .ok (.aload_n 0, 1) := by decide +kernel
theorem dX10_pass_87 : decode cX10_pass 87 = .ok (.iload_n 1, 1) := by decide +kernel
theorem dX10_pass_88 : decode cX10_pass 88 = .ok (.invokevirtual 74, 3) := by decide +kernel
theorem dX10_pass_91 : decode cX10_pass 91 = .ok (.invokestatic 77, 3) := by decide +kernel
theorem dX10_pass_94 : decode cX10_pass 94 = .ok (.istore 4, 2) := by decide +kernel
theorem dX10_pass_96 : decode cX10_pass 96 = .ok (.iload_n 2, 1) := by decide +kernel
theorem dX10_pass_97 : decode cX10_pass 97 = .ok (.bipush 100, 2) := by decide +kernel
theorem dX10_pass_99 : decode cX10_pass 99 = .ok (.if_icmp .ge 43, 3) := by decide +kernel
theorem dX10_pass_102 : decode cX10_pass 102 = .ok (.iload 4, 2) := by decide +kernel
theorem dX10_pass_104 : decode cX10_pass 104 = .ok (.aload_n 0, 1) := by decide +kernel
theorem dX10_pass_105 : decode cX10_pass 105 = .ok (.iload_n 2, 1) := by decide +kernel
theorem dX10_pass_106 : decode cX10_pass 106 = .ok (.invokevirtual 80, 3) := by decide +kernel
theorem dX10_pass_109 : decode cX10_pass 109 = .ok (.aload_n 0, 1) := by decide +kernel
theorem dX10_pass_110 : decode cX10_pass 110 = .ok (.iload_n 2, 1) := by decide +kernel
theorem dX10_pass_111 : decode cX10_pass 111 = .ok (.bipush 9, 2) := by decide +kernel
theorem dX10_pass_113 : decode cX10_pass 113 = .ok (.invokevirtual 55, 3) := by decide +kernel
theorem dX10_pass_116 : decode cX10_pass 116 = .ok (.isub, 1) := by decide +kernel
theorem dX10_pass_117 : decode cX10_pass 117 = .ok (.invokestatic 77, 3) := by decide +kernel
theorem dX10_pass_120 : decode cX10_pass 120 = .ok (.istore 4, 2) := by decide +kernel
theorem dX10_pass_122 : decode cX10_pass 122 = .ok (.aload_n 0, 1) := by decide +kernel
theorem dX10_pass_123 : decode cX10_pass 123 = .ok (.iload_n 2, 1) := by decide +kernel
theorem dX10_pass_124 : decode cX10_pass 124 = .ok (.bipush 9, 2) := by decide +kernel
theorem dX10_pass_126 : decode cX10_pass 126 = .ok (.aload_n 0, 1) := by decide +kernel
theorem dX10_pass_127 : decode cX10_pass 127 = .ok (.iload_n 2, 1) := by decide +kernel
theorem dX10_pass_128 : decode cX10_pass 128 = .ok (.bipush 9, 2) := by decide +kernel
theorem dX10_pass_130 : decode cX10_pass 130 = .ok (.invokevirtual 55, 3) := by decide +kernel
theorem dX10_pass_133 : decode cX10_pass 133 = .ok (.iload 4, 2) := by decide +kernel
theorem dX10_pass_135 : decode cX10_pass 135 = .ok (.iadd, 1) := by decide +kernel
theorem dX10_pass_136 : decode cX10_pass 136 = .ok (.invokevirtual 51, 3) := by decide +kernel
theorem dX10_pass_139 : decode cX10_pass 139 = .ok (.goto 20, 3) := by decide +kernel
theorem dX10_pass_142 : decode cX10_pass 142 = .ok (.aload_n 0, 1) := by decide +kernel
theorem dX10_pass_143 : decode cX10_pass 143 = .ok (.getfield 7, 3) := by decide +kernel
theorem dX10_pass_146 : decode cX10_pass 146 = .ok (.bipush 9, 2) := by decide +kernel
theorem dX10_pass_148 : decode cX10_pass 148 = .ok (.iload_n 2, 1) := by decide +kernel
theorem dX10_pass_149 : decode cX10_pass 149 = .ok (.iadd, 1) := by decide +kernel
theorem dX10_pass_150 : decode cX10_pass 150 = .ok (.bipush 100, 2) := by decide +kernel
theorem dX10_pass_152 : decode cX10_pass 152 = .ok (.isub, 1) := by decide +kernel
theorem dX10_pass_153 : decode cX10_pass 153 = .ok (.dup2, 1) := by decide +kernel
theorem dX10_pass_154 : decode cX10_pass 154 = .ok (.iaload, 1) := by decide +kernel
theorem dX10_pass_155 : decode cX10_pass 155 = .ok (.iload 4, 2) := by decide +kernel
theorem dX10_pass_157 : decode cX10_pass 157 = .ok (.iadd, 1) := by decide +kernel
theorem dX10_pass_158 : decode cX10_pass 158 = .ok (.iastore, 1) := by decide +kernel
theorem dX10_pass_159 : decode cX10_pass 159 = .ok (.aload_n 0, 1) := by decide +kernel
theorem dX10_pass_160 : decode cX10_pass 160 = .ok (.iload_n 1, 1) := by decide +kernel
theorem dX10_pass_161 : decode cX10_pass 161 = .ok (.bipush 9, 2) := by decide +kernel
theorem dX10_pass_163 : decode cX10_pass 163 = .ok (.aload_n 0, 1) := by decide +kernel
theorem dX10_pass_164 : decode cX10_pass 164 = .ok (.iload_n 1, 1) := by decide +kernel
theorem dX10_pass_165 : decode cX10_pass 165 = .ok (.bipush 9, 2) := by decide +kernel
theorem dX10_pass_167 : decode cX10_pass 167 = .ok (.invokevirtual 55, 3) := by decide +kernel
theorem dX10_pass_170 : decode cX10_pass 170 = .ok (.iload 4, 2) := by decide +kernel
theorem dX10_pass_172 : decode cX10_pass 172 = .ok (.isub, 1) := by decide +kernel
theorem dX10_pass_173 : decode cX10_pass 173 = .ok (.invokevirtual 51, 3) := by decide +kernel
theorem dX10_pass_176 : decode cX10_pass 176 = .ok (.aload_n 0, 1) := by decide +kernel
theorem dX10_pass_177 : decode cX10_pass 177 = .ok (.iload_n 1, 1) := by decide +kernel
theorem dX10_pass_178 : decode cX10_pass 178 = .ok (.bipush 10, 2) := by decide +kernel
theorem dX10_pass_180 : decode cX10_pass 180 = .ok (.iload 4, 2) := by decide +kernel
theorem dX10_pass_182 : decode cX10_pass 182 = .ok (.invokevirtual 51, 3) := by decide +kernel
theorem dX10_pass_185 : decode cX10_pass 185 = .ok (.iload_n 2, 1) := by decide +kernel
theorem dX10_pass_186 : decode cX10_pass 186 = .ok (.bipush 100, 2) := by decide +kernel
theorem dX10_pass_188 : decode cX10_pass 188 = .ok (.if_icmp .ge 7, 3) := by decide +kernel
theorem dX10_pass_191 : decode cX10_pass 191 = .ok (.iconst 0, 1) := by decide +kernel
theorem dX10_pass_192 : decode cX10_pass 192 = .ok (.goto 5, 3) := by decide +kernel
theorem dX10_pass_195 : decode cX10_pass 195 = .ok (.iload 4, 2) := by decide +kernel
theorem dX10_pass_197 : decode cX10_pass 197 = .ok (.ireturn, 1) := by decide +kernel
theorem dX10_hour_0 : decode cX10_hour 0 = .ok (.aload_n 0, 1) := by decide +kernel
theorem dX10_hour_1 : decode cX10_hour 1 = .ok (.invokevirtual 92, 3) := by decide +kernel
theorem dX10_hour_4 : decode cX10_hour 4 = .ok (.aload_n 0, 1) := by decide +kernel
theorem dX10_hour_5 : decode cX10_hour 5 = .ok (.invokevirtual 95, 3) := by decide +kernel
theorem dX10_hour_8 : decode cX10_hour 8 = .ok (.iconst 0, 1) := by decide +kernel
theorem dX10_hour_9 : decode cX10_hour 9 = .ok (.istore_n 1, 1) := by decide +kernel
theorem dX10_hour_10 : decode cX10_hour 10 = .ok (.iconst 0, 1) := by decide +kernel
theorem dX10_hour_11 : decode cX10_hour 11 = .ok (.istore_n 2, 1) := by decide +kernel
theorem dX10_hour_12 : decode cX10_hour 12 = .ok (.iload_n 2, 1) := by decide +kernel
theorem dX10_hour_13 : decode cX10_hour 13 = .ok (.bipush 20, 2) := by decide +kernel
theorem dX10_hour_15 : decode cX10_hour 15 = .ok (.if_icmp .ge 49, 3) := by decide +kernel
theorem dX10_hour_18 : decode cX10_hour 18 = .ok (.iconst 0, 1) := by decide +kernel
theorem dX10_hour_19 : decode cX10_hour 19 = .ok (.istore_n 3, 1) := by decide +kernel
theorem dX10_hour_20 : decode cX10_hour 20 = .ok (.iload_n 3, 1) := by decide +kernel
theorem dX10_hour_21 : decode cX10_hour 21 = .ok (.aload_n 0, 1) := by decide +kernel
theorem dX10_hour_22 : decode cX10_hour 22 = .ok (.getfield 7, 3) := by decide +kernel
theorem dX10_hour_25 : decode cX10_hour 25 = .ok (.bipush 13, 2) := by decide +kernel
theorem dX10_hour_27 : decode cX10_hour 27 = .ok (.iaload, 1) := by decide +kernel
theorem dX10_hour_28 : decode cX10_hour 28 = .ok (.if_icmp .ge 30, 3) := by decide +kernel
theorem dX10_hour_31 : decode cX10_hour 31 = .ok (.iload_n 1, 1) := by decide +kernel
theorem dX10_hour_32 : decode cX10_hour 32 = .ok (.aload_n 0, 1) := by decide +kernel
theorem dX10_hour_33 : decode cX10_hour 33 = .ok (.iload_n 3, 1) := by decide +kernel
theorem dX10_hour_34 : decode cX10_hour 34 = .ok (.invokevirtual 71, 3) := by decide +kernel
theorem dX10_hour_37 : decode cX10_hour 37 = .ok (.iload_n 2, 1) := by decide +kernel
theorem dX10_hour_38 : decode cX10_hour 38 = .ok (.if_icmp .ne 11, 3) := by decide +kernel
theorem dX10_hour_41 : decode cX10_hour 41 = .ok (.aload_n 0, 1) := by decide +kernel
theorem dX10_hour_42 : decode cX10_hour 42 = .ok (.iload_n 3, 1) := by decide +kernel
theorem dX10_hour_43 : decode cX10_hour 43 = .ok (.invokevirtual 98, 3) := by decide +kernel
theorem dX10_hour_46 : decode cX10_hour 46 = .ok (.goto 4, 3) := by decide +kernel
theorem dX10_hour_49 : decode cX10_hour 49 = .ok (.iconst 0, 1) := by decide +kernel
theorem dX10_hour_50 : decode cX10_hour 50 = .ok (.iadd, 1) := by decide +kernel
theorem dX10_hour_51 : decode cX10_hour 51 = .ok (.istore_n 1, 1) := by decide +kernel
theorem dX10_hour_52 : decode cX10_hour 52 = .ok (.iinc 3 1, 3) := by decide +kernel
theorem dX10_hour_55 : decode cX10_hour 55 = .ok (.goto (-35), 3) := by decide +kernel
theorem dX10_hour_58 : decode cX10_hour 58 = .ok (.iinc 2 1, 3) := by decide +kernel
theorem dX10_hour_61 : decode cX10_hour 61 = .ok (.goto (-49), 3) := by decide +kernel
theorem dX10_hour_64 : decode cX10_hour 64 = .ok (.iconst 0, 1) := by decide +kernel
theorem dX10_hour_65 : decode cX10_hour 65 = .ok (.istore_n 2, 1) := by decide +kernel
theorem dX10_hour_66 : decode cX10_hour 66 = .ok (.iload_n 2, 1) := by decide +kernel
theorem dX10_hour_67 : decode cX10_hour 67 = .ok (.aload_n 0, 1) := by decide +kernel
theorem dX10_hour_68 : decode cX10_hour 68 = .ok (.getfield 7, 3) := by decide +kernel
theorem dX10_hour_71 : decode cX10_hour 71 = .ok (.bipush 13, 2) := by decide +kernel
theorem dX10_hour_73 : decode cX10_hour 73 = .ok (.iaload, 1) := by decide +kernel
theorem dX10_hour_74 : decode cX10_hour 74 = .ok (.if_icmp .ge 39, 3) := by decide +kernel
theorem dX10_hour_77 : decode cX10_hour 77 = .ok (.aload_n 0, 1) := by decide +kernel
theorem dX10_hour_78 : decode cX10_hour 78 = .ok (.iload_n 2, 1) := by decide +kernel
theorem dX10_hour_79 : decode cX10_hour 79 = .ok (.bipush 6, 2) := by decide +kernel
theorem dX10_hour_81 : decode cX10_hour 81 = .ok (.aload_n 0, 1) := by decide +kernel
theorem dX10_hour_82 : decode cX10_hour 82 = .ok (.iload_n 2, 1) := by decide +kernel
theorem dX10_hour_83 : decode cX10_hour 83 = .ok (.bipush 6, 2) := by decide +kernel
theorem dX10_hour_85 : decode cX10_hour 85 = .ok (.invokevirtual 55, 3) := by decide +kernel
theorem dX10_hour_88 : decode cX10_hour 88 = .ok (.ifCond .le 15, 3) := by decide +kernel
theorem dX10_hour_91 : decode cX10_hour 91 = .ok (.aload_n 0, 1) := by decide +kernel
theorem dX10_hour_92 : decode cX10_hour 92 = .ok (.iload_n 2, 1) := by decide +kernel
theorem dX10_hour_93 : decode cX10_hour 93 = .ok (.bipush 6, 2) := by decide +kernel
theorem dX10_hour_95 : decode cX10_hour 95 = .ok (.invokevirtual 55, 3) := by decide +kernel
theorem dX10_hour_98 : decode cX10_hour 98 = .ok (.iconst 1, 1) := by decide +kernel
theorem dX10_hour_99 : decode cX10_hour 99 = .ok (.isub, 1) := by decide +kernel
theorem dX10_hour_100 : decode cX10_hour 100 = .ok (.goto 4, 3) := by decide +kernel
theorem dX10_hour_103 : decode cX10_hour 103 = .ok (.iconst 0, 1) := by decide +kernel
theorem dX10_hour_104 : decode cX10_hour 104 = .ok (.invokevirtual 51, 3) := by decide +kernel
theorem dX10_hour_107 : decode cX10_hour 107 = .ok (.iinc 2 1, 3) := by decide +kernel
theorem dX10_hour_110 : decode cX10_hour 110 = .ok (.goto (-44), 3) := by decide +kernel
theorem dX10_hour_113 : decode cX10_hour 113 = .ok (.aload_n 0, 1) := by decide +kernel
theorem dX10_hour_114 : decode cX10_hour 114 = .ok (.getfield 7, 3) := by decide +kernel
theorem dX10_hour_117 : decode cX10_hour 117 = .ok (.bipush 7, 2) := by decide +kernel
theorem dX10_hour_119 : decode cX10_hour 119 = .ok (.dup2, 1) := by decide +kernel
theorem dX10_hour_120 : decode cX10_hour 120 = .ok (.iaload, 1) := by decide +kernel
theorem dX10_hour_121 : decode cX10_hour 121 = .ok (.iconst 1, 1) := by decide +kernel
theorem dX10_hour_122 : decode cX10_hour 122 = .ok (.iadd, 1) := by decide +kernel
theorem dX10_hour_123 : decode cX10_hour 123 = .ok (.iastore, 1) := by decide +kernel
theorem dX10_hour_124 : decode cX10_hour 124 = .ok (.iload_n 1, 1) := by decide +kernel
theorem dX10_hour_125 : decode cX10_hour 125 = .ok (.ireturn, 1) := by decide +kernel
theorem dX10_hours_0 : decode cX10_hours 0 = .ok (.iload_n 1, 1) := by decide +kernel
theorem dX10_hours_1 : decode cX10_hours 1 = .ok (.iconst 1, 1) := by decide +kernel
theorem dX10_hours_2 : decode cX10_hours 2 = .ok (.bipush 50, 2) := by decide +kernel
theorem dX10_hours_4 : decode cX10_hours 4 = .ok (.invokestatic 29, 3) := by decide +kernel
theorem dX10_hours_7 : decode cX10_hours 7 = .ok (.ifCond .ne 5, 3) := by decide +kernel
theorem dX10_hours_10 : decode cX10_hours 10 = .ok (.iconst (-1), 1) := by decide +kernel
theorem dX10_hours_11 : decode cX10_hours 11 = .ok (.ireturn, 1) := by decide +kernel
theorem dX10_hours_12 : decode cX10_hours 12 = .ok (.iconst 0, 1) := by decide +kernel
theorem dX10_hours_13 : decode cX10_hours 13 = .ok (.istore_n 2, 1) := by decide +kernel
theorem dX10_hours_14 : decode cX10_hours 14 = .ok (.iconst 0, 1) := by decide +kernel
theorem dX10_hours_15 : decode cX10_hours 15 = .ok (.istore_n 3, 1) := by decide +kernel
theorem dX10_hours_16 : decode cX10_hours 16 = .ok (.iload_n 3, 1) := by decide +kernel
theorem dX10_hours_17 : decode cX10_hours 17 = .ok (.iload_n 1, 1) := by decide +kernel
theorem dX10_hours_18 : decode cX10_hours 18 = .ok (.if_icmp .ge 16, 3) := by decide +kernel
theorem dX10_hours_21 : decode cX10_hours 21 = .ok (.iload_n 2, 1) := by decide +kernel
theorem dX10_hours_22 : decode cX10_hours 22 = .ok (.aload_n 0, 1) := by decide +kernel
theorem dX10_hours_23 : decode cX10_hours 23 = .ok (.invokevirtual 101, 3) := by decide +kernel
theorem dX10_hours_26 : decode cX10_hours 26 = .ok (.iadd, 1) := by decide +kernel
theorem dX10_hours_27 : decode cX10_hours 27 = .ok (.istore_n 2, 1) := by decide +kernel
theorem dX10_hours_28 : decode cX10_hours 28 = .ok (.iinc 3 1, 3) := by decide +kernel
theorem dX10_hours_31 : decode cX10_hours 31 = .ok (.goto (-15), 3) := by decide +kernel
theorem dX10_hours_34 : decode cX10_hours 34 = .ok (.iload_n 2, 1) := by decide +kernel
theorem dX10_hours_35 : decode cX10_hours 35 = .ok (.ireturn, 1) := by decide +kernel
theorem dX10_isReached_0 : decode cX10_isReached 0 = .ok (.iconst 0, 1) := by decide +kernel
theorem dX10_isReached_1 : decode cX10_isReached 1 = .ok (.istore_n 2, 1) := by decide +kernel
theorem dX10_isReached_2 : decode cX10_isReached 2 = .ok (.iconst 0, 1) := by decide +kernel
theorem dX10_isReached_3 : decode cX10_isReached 3 = .ok (.istore_n 3, 1) := by decide +kernel
theorem dX10_isReached_4 : decode cX10_isReached 4 = .ok (.iload_n 3, 1) := by decide +kernel
theorem dX10_isReached_5 : decode cX10_isReached 5 = .ok (.aload_n 0, 1) := by decide +kernel
theorem dX10_isReached_6 : decode cX10_isReached 6 = .ok (.getfield 7, 3) := by decide +kernel
theorem dX10_isReached_9 : decode cX10_isReached 9 = .ok (.bipush 13, 2) := by decide +kernel
theorem dX10_isReached_11 : decode cX10_isReached 11 = .ok (.iaload, 1) := by decide +kernel
theorem dX10_isReached_12 : decode cX10_isReached 12 = .ok (.if_icmp .ge 106, 3) := by decide +kernel
theorem dX10_isReached_15 : decode cX10_isReached 15 = .ok (.iconst 0, 1) := by decide +kernel
theorem dX10_isReached_16 : decode cX10_isReached 16 = .ok (.istore 4, 2) := by decide +kernel
theorem dX10_isReached_18 : decode cX10_isReached 18 = .ok (.iload 4, 2) := by decide +kernel
theorem dX10_isReached_20 : decode cX10_isReached 20 = .ok (.aload_n 0, 1) := by decide +kernel
theorem dX10_isReached_21 : decode cX10_isReached 21 = .ok (.iload_n 3, 1) := by decide +kernel
theorem dX10_isReached_22 : decode cX10_isReached 22 = .ok (.bipush 11, 2) := by decide +kernel
theorem dX10_isReached_24 : decode cX10_isReached 24 = .ok (.invokevirtual 55, 3) := by decide +kernel
theorem dX10_isReached_27 : decode cX10_isReached 27 = .ok (.if_icmp .ge 85, 3) := by decide +kernel
theorem dX10_isReached_30 : decode cX10_isReached 30 = .ok (.aload_n 0, 1) := by decide +kernel
theorem dX10_isReached_31 : decode cX10_isReached 31 = .ok (.iload_n 3, 1) := by decide +kernel
theorem dX10_isReached_32 : decode cX10_isReached 32 = .ok (.invokevirtual 89, 3) := by decide +kernel
theorem dX10_isReached_35 : decode cX10_isReached 35 = .ok (.ifCond .eq 77, 3) := by decide +kernel
theorem dX10_isReached_38 : decode cX10_isReached 38 = .ok (.aload_n 0, 1) := by decide +kernel
theorem dX10_isReached_39 : decode cX10_isReached 39 = .ok (.iload_n 1, 1) := by decide +kernel
theorem dX10_isReached_40 : decode cX10_isReached 40 = .ok (.invokevirtual 37, 3) := by decide +kernel
theorem dX10_isReached_43 : decode cX10_isReached 43 = .ok (.aload_n 0, 1) := by decide +kernel
theorem dX10_isReached_44 : decode cX10_isReached 44 = .ok (.aload_n 0, 1) := by decide +kernel
theorem dX10_isReached_45 : decode cX10_isReached 45 = .ok (.iload_n 3, 1) := by decide +kernel
theorem dX10_isReached_46 : decode cX10_isReached 46 = .ok (.iload 4, 2) := by decide +kernel
theorem dX10_isReached_48 : decode cX10_isReached 48 = .ok (.invokevirtual 59, 3) := by decide +kernel
theorem dX10_isReached_51 : decode cX10_isReached 51 = .ok (.invokevirtual 37, 3) := by decide +kernel
theorem dX10_isReached_54 : decode cX10_isReached 54 = .ok (.isub, 1) := by decide +kernel
theorem dX10_isReached_55 : decode cX10_isReached 55 = .ok (.istore 5, 2) := by decide +kernel
theorem dX10_isReached_57 : decode cX10_isReached 57 = .ok (.aload_n 0, 1) := by decide +kernel
theorem dX10_isReached_58 : decode cX10_isReached 58 = .ok (.iload_n 1, 1) := by decide +kernel
theorem dX10_isReached_59 : decode cX10_isReached 59 = .ok (.invokevirtual 41, 3) := by decide +kernel
theorem dX10_isReached_62 : decode cX10_isReached 62 = .ok (.aload_n 0, 1) := by decide +kernel
theorem dX10_isReached_63 : decode cX10_isReached 63 = .ok (.aload_n 0, 1) := by decide +kernel
theorem dX10_isReached_64 : decode cX10_isReached 64 = .ok (.iload_n 3, 1) := by decide +kernel
theorem dX10_isReached_65 : decode cX10_isReached 65 = .ok (.iload 4, 2) := by decide +kernel
theorem dX10_isReached_67 : decode cX10_isReached 67 = .ok (.invokevirtual 59, 3) := by decide +kernel
theorem dX10_isReached_70 : decode cX10_isReached 70 = .ok (.invokevirtual 41, 3) := by decide +kernel
theorem dX10_isReached_73 : decode cX10_isReached 73 = .ok (.isub, 1) := by decide +kernel
theorem dX10_isReached_74 : decode cX10_isReached 74 = .ok (.istore 6, 2) := by decide +kernel
theorem dX10_isReached_76 : decode cX10_isReached 76 = .ok (.iload_n 2, 1) := by decide +kernel
theorem dX10_isReached_77 : decode cX10_isReached 77 = .ok (.ifCond .ne 23, 3) := by decide +kernel
theorem dX10_isReached_80 : decode cX10_isReached 80 = .ok (.iload 5, 2) := by decide +kernel
theorem dX10_isReached_82 : decode cX10_isReached 82 = .ok (.iload 5, 2) := by decide +kernel
theorem dX10_isReached_84 : decode cX10_isReached 84 = .ok (.imul, 1) := by decide +kernel
theorem dX10_isReached_85 : decode cX10_isReached 85 = .ok (.iload 6, 2) := by decide +kernel
theorem dX10_isReached_87 : decode cX10_isReached 87 = .ok (.iload 6, 2) := by decide +kernel
theorem dX10_isReached_89 : decode cX10_isReached 89 = .ok (.imul, 1) := by decide +kernel
theorem dX10_isReached_90 : decode cX10_isReached 90 = .ok (.iadd, 1) := by decide +kernel
theorem dX10_isReached_91 : decode cX10_isReached 91 = .ok (.aload_n 0, 1) := by decide +kernel
theorem dX10_isReached_92 : decode cX10_isReached 92 = .ok (.iload_n 1, 1) := by decide +kernel
theorem dX10_isReached_93 : decode cX10_isReached 93 = .ok (.iconst 3, 1) := by decide +kernel
theorem dX10_isReached_94 : decode cX10_isReached 94 = .ok (.invokevirtual 86, 3) := by decide +kernel
theorem dX10_isReached_97 : decode cX10_isReached 97 = .ok (.if_icmp .gt 7, 3) := by decide +kernel
theorem dX10_isReached_100 : decode cX10_isReached 100 = .ok (.iconst 1, 1) := by decide +kernel
theorem dX10_isReached_101 : decode cX10_isReached 101 = .ok (.goto 4, 3) := by decide +kernel
theorem dX10_isReached_104 : decode cX10_isReached 104 = .ok (.iconst 0, 1) := by decide +kernel
theorem dX10_isReached_105 : decode cX10_isReached 105 = .ok (.istore_n 2, 1) := by decide +kernel
theorem dX10_isReached_106 : decode cX10_isReached 106 = .ok (.iinc 4 1, 3) := by decide +kernel
theorem dX10_isReached_109 : decode cX10_isReached 109 = .ok (.goto (-91), 3) := by decide +kernel
theorem dX10_isReached_112 : decode cX10_isReached 112 = .ok (.iinc 3 1, 3) := by decide +kernel
theorem dX10_isReached_115 : decode cX10_isReached 115 = .ok (.goto (-111), 3) := by decide +kernel
theorem dX10_isReached_118 : decode cX10_isReached 118 = .ok (.iload_n 2, 1) := by decide +kernel
theorem dX10_isReached_119 : decode cX10_isReached 119 = .ok (.ireturn, 1) := by decide +kernel
theorem dX10_at_0 : decode cX10_at 0 = .ok (.aload_n 0, 1) := by decide +kernel
theorem dX10_at_1 : decode cX10_at 1 = .ok (.iload_n 1, 1) := by decide +kernel
theorem dX10_at_2 : decode cX10_at 2 = .ok (.invokevirtual 33, 3) := by decide +kernel
theorem dX10_at_5 : decode cX10_at 5 = .ok (.ifCond .ne 5, 3) := by decide +kernel
theorem dX10_at_8 : decode cX10_at 8 = .ok (.iconst (-1), 1) := by decide +kernel
theorem dX10_at_9 : decode cX10_at 9 = .ok (.ireturn, 1) := by decide +kernel
theorem dX10_at_10 : decode cX10_at 10 = .ok (.iload_n 2, 1) := by decide +kernel
theorem dX10_at_11 : decode cX10_at 11 = .ok (.tableswitch 103 0 5 #[37, 47, 57, 67, 78, 89], 37) := by decide +kernel
theorem dX10_at_48 : decode cX10_at 48 = .ok (.aload_n 0, 1) := by decide +kernel
theorem dX10_at_49 : decode cX10_at 49 = .ok (.getfield 7, 3) := by decide +kernel
theorem dX10_at_52 : decode cX10_at 52 = .ok (.bipush 20, 2) := by decide +kernel
theorem dX10_at_54 : decode cX10_at 54 = .ok (.iload_n 1, 1) := by decide +kernel
theorem dX10_at_55 : decode cX10_at 55 = .ok (.iadd, 1) := by decide +kernel
theorem dX10_at_56 : decode cX10_at 56 = .ok (.iaload, 1) := by decide +kernel
theorem dX10_at_57 : decode cX10_at 57 = .ok (.ireturn, 1) := by decide +kernel
theorem dX10_at_58 : decode cX10_at 58 = .ok (.aload_n 0, 1) := by decide +kernel
theorem dX10_at_59 : decode cX10_at 59 = .ok (.getfield 7, 3) := by decide +kernel
theorem dX10_at_62 : decode cX10_at 62 = .ok (.bipush 60, 2) := by decide +kernel
theorem dX10_at_64 : decode cX10_at 64 = .ok (.iload_n 1, 1) := by decide +kernel
theorem dX10_at_65 : decode cX10_at 65 = .ok (.iadd, 1) := by decide +kernel
theorem dX10_at_66 : decode cX10_at 66 = .ok (.iaload, 1) := by decide +kernel
theorem dX10_at_67 : decode cX10_at 67 = .ok (.ireturn, 1) := by decide +kernel
theorem dX10_at_68 : decode cX10_at 68 = .ok (.aload_n 0, 1) := by decide +kernel
theorem dX10_at_69 : decode cX10_at 69 = .ok (.getfield 7, 3) := by decide +kernel
theorem dX10_at_72 : decode cX10_at 72 = .ok (.bipush 100, 2) := by decide +kernel
theorem dX10_at_74 : decode cX10_at 74 = .ok (.iload_n 1, 1) := by decide +kernel
theorem dX10_at_75 : decode cX10_at 75 = .ok (.iadd, 1) := by decide +kernel
theorem dX10_at_76 : decode cX10_at 76 = .ok (.iaload, 1) := by decide +kernel
theorem dX10_at_77 : decode cX10_at 77 = .ok (.ireturn, 1) := by decide +kernel
theorem dX10_at_78 : decode cX10_at 78 = .ok (.aload_n 0, 1) := by decide +kernel
theorem dX10_at_79 : decode cX10_at 79 = .ok (.getfield 7, 3) := by decide +kernel
theorem dX10_at_82 : decode cX10_at 82 = .ok (.sipush 140, 3) := by decide +kernel
theorem dX10_at_85 : decode cX10_at 85 = .ok (.iload_n 1, 1) := by decide +kernel
theorem dX10_at_86 : decode cX10_at 86 = .ok (.iadd, 1) := by decide +kernel
theorem dX10_at_87 : decode cX10_at 87 = .ok (.iaload, 1) := by decide +kernel
theorem dX10_at_88 : decode cX10_at 88 = .ok (.ireturn, 1) := by decide +kernel
theorem dX10_at_89 : decode cX10_at 89 = .ok (.aload_n 0, 1) := by decide +kernel
theorem dX10_at_90 : decode cX10_at 90 = .ok (.getfield 7, 3) := by decide +kernel
theorem dX10_at_93 : decode cX10_at 93 = .ok (.sipush 180, 3) := by decide +kernel
theorem dX10_at_96 : decode cX10_at 96 = .ok (.iload_n 1, 1) := by decide +kernel
theorem dX10_at_97 : decode cX10_at 97 = .ok (.iadd, 1) := by decide +kernel
theorem dX10_at_98 : decode cX10_at 98 = .ok (.iaload, 1) := by decide +kernel
theorem dX10_at_99 : decode cX10_at 99 = .ok (.ireturn, 1) := by decide +kernel
theorem dX10_at_100 : decode cX10_at 100 = .ok (.aload_n 0, 1) := by decide +kernel
theorem dX10_at_101 : decode cX10_at 101 = .ok (.iload_n 1, 1) := by decide +kernel
theorem dX10_at_102 : decode cX10_at 102 = .ok (.invokevirtual 104, 3) := by decide +kernel
theorem dX10_at_105 : decode cX10_at 105 = .ok (.ifCond .eq 7, 3) := by decide +kernel
theorem dX10_at_108 : decode cX10_at 108 = .ok (.iconst 1, 1) := by decide +kernel
theorem dX10_at_109 : decode cX10_at 109 = .ok (.goto 4, 3) := by decide +kernel
theorem dX10_at_112 : decode cX10_at 112 = .ok (.iconst 0, 1) := by decide +kernel
theorem dX10_at_113 : decode cX10_at 113 = .ok (.ireturn, 1) := by decide +kernel
theorem dX10_at_114 : decode cX10_at 114 = .ok (.iconst (-1), 1) := by decide +kernel
theorem dX10_at_115 : decode cX10_at 115 = .ok (.ireturn, 1) := by decide +kernel
theorem dX10_sum_0 : decode cX10_sum 0 = .ok (.iconst 0, 1) := by decide +kernel
theorem dX10_sum_1 : decode cX10_sum 1 = .ok (.istore_n 2, 1) := by decide +kernel
theorem dX10_sum_2 : decode cX10_sum 2 = .ok (.iconst 0, 1) := by decide +kernel
theorem dX10_sum_3 : decode cX10_sum 3 = .ok (.istore_n 3, 1) := by decide +kernel
theorem dX10_sum_4 : decode cX10_sum 4 = .ok (.iload_n 3, 1) := by decide +kernel
theorem dX10_sum_5 : decode cX10_sum 5 = .ok (.aload_n 0, 1) := by decide +kernel
theorem dX10_sum_6 : decode cX10_sum 6 = .ok (.invokevirtual 25, 3) := by decide +kernel
theorem dX10_sum_9 : decode cX10_sum 9 = .ok (.if_icmp .ge 20, 3) := by decide +kernel
theorem dX10_sum_12 : decode cX10_sum 12 = .ok (.iload_n 2, 1) := by decide +kernel
theorem dX10_sum_13 : decode cX10_sum 13 = .ok (.aload_n 0, 1) := by decide +kernel
theorem dX10_sum_14 : decode cX10_sum 14 = .ok (.getfield 7, 3) := by decide +kernel
theorem dX10_sum_17 : decode cX10_sum 17 = .ok (.iload_n 1, 1) := by decide +kernel
theorem dX10_sum_18 : decode cX10_sum 18 = .ok (.iload_n 3, 1) := by decide +kernel
theorem dX10_sum_19 : decode cX10_sum 19 = .ok (.iadd, 1) := by decide +kernel
theorem dX10_sum_20 : decode cX10_sum 20 = .ok (.iaload, 1) := by decide +kernel
theorem dX10_sum_21 : decode cX10_sum 21 = .ok (.iadd, 1) := by decide +kernel
theorem dX10_sum_22 : decode cX10_sum 22 = .ok (.istore_n 2, 1) := by decide +kernel
theorem dX10_sum_23 : decode cX10_sum 23 = .ok (.iinc 3 1, 3) := by decide +kernel
theorem dX10_sum_26 : decode cX10_sum 26 = .ok (.goto (-22), 3) := by decide +kernel
theorem dX10_sum_29 : decode cX10_sum 29 = .ok (.iload_n 2, 1) := by decide +kernel
theorem dX10_sum_30 : decode cX10_sum 30 = .ok (.ireturn, 1) := by decide +kernel
theorem dX10_sumOfPipes_0 : decode cX10_sumOfPipes 0 = .ok (.iconst 0, 1) := by decide +kernel
theorem dX10_sumOfPipes_1 : decode cX10_sumOfPipes 1 = .ok (.istore_n 2, 1) := by decide +kernel
theorem dX10_sumOfPipes_2 : decode cX10_sumOfPipes 2 = .ok (.iconst 0, 1) := by decide +kernel
theorem dX10_sumOfPipes_3 : decode cX10_sumOfPipes 3 = .ok (.istore_n 3, 1) := by decide +kernel
theorem dX10_sumOfPipes_4 : decode cX10_sumOfPipes 4 = .ok (.iload_n 3, 1) := by decide +kernel
theorem dX10_sumOfPipes_5 : decode cX10_sumOfPipes 5 = .ok (.aload_n 0, 1) := by decide +kernel
theorem dX10_sumOfPipes_6 : decode cX10_sumOfPipes 6 = .ok (.getfield 7, 3) := by decide +kernel
theorem dX10_sumOfPipes_9 : decode cX10_sumOfPipes 9 = .ok (.bipush 13, 2) := by decide +kernel
theorem dX10_sumOfPipes_11 : decode cX10_sumOfPipes 11 = .ok (.iaload, 1) := by decide +kernel
theorem dX10_sumOfPipes_12 : decode cX10_sumOfPipes 12 = .ok (.if_icmp .ge 18, 3) := by decide +kernel
theorem dX10_sumOfPipes_15 : decode cX10_sumOfPipes 15 = .ok (.iload_n 2, 1) := by decide +kernel
theorem dX10_sumOfPipes_16 : decode cX10_sumOfPipes 16 = .ok (.aload_n 0, 1) := by decide +kernel
theorem dX10_sumOfPipes_17 : decode cX10_sumOfPipes 17 = .ok (.iload_n 3, 1) := by decide +kernel
theorem dX10_sumOfPipes_18 : decode cX10_sumOfPipes 18 = .ok (.iload_n 1, 1) := by decide +kernel
theorem dX10_sumOfPipes_19 : decode cX10_sumOfPipes 19 = .ok (.invokevirtual 55, 3) := by decide +kernel
theorem dX10_sumOfPipes_22 : decode cX10_sumOfPipes 22 = .ok (.iadd, 1) := by decide +kernel
theorem dX10_sumOfPipes_23 : decode cX10_sumOfPipes 23 = .ok (.istore_n 2, 1) := by decide +kernel
theorem dX10_sumOfPipes_24 : decode cX10_sumOfPipes 24 = .ok (.iinc 3 1, 3) := by decide +kernel
theorem dX10_sumOfPipes_27 : decode cX10_sumOfPipes 27 = .ok (.goto (-23), 3) := by decide +kernel
theorem dX10_sumOfPipes_30 : decode cX10_sumOfPipes 30 = .ok (.iload_n 2, 1) := by decide +kernel
theorem dX10_sumOfPipes_31 : decode cX10_sumOfPipes 31 = .ok (.ireturn, 1) := by decide +kernel
theorem dX10_all_0 : decode cX10_all 0 = .ok (.iload_n 1, 1) := by decide +kernel
theorem dX10_all_1 : decode cX10_all 1 = .ok (.tableswitch 89 0 7 #[47, 54, 62, 69, 69, 69, 69, 81], 47) := by decide +kernel
theorem dX10_all_48 : decode cX10_all 48 = .ok (.aload_n 0, 1) := by decide +kernel
theorem dX10_all_49 : decode cX10_all 49 = .ok (.bipush 100, 2) := by decide +kernel
theorem dX10_all_51 : decode cX10_all 51 = .ok (.invokevirtual 107, 3) := by decide +kernel
theorem dX10_all_54 : decode cX10_all 54 = .ok (.ireturn, 1) := by decide +kernel
theorem dX10_all_55 : decode cX10_all 55 = .ok (.aload_n 0, 1) := by decide +kernel
theorem dX10_all_56 : decode cX10_all 56 = .ok (.sipush 140, 3) := by decide +kernel
theorem dX10_all_59 : decode cX10_all 59 = .ok (.invokevirtual 107, 3) := by decide +kernel
theorem dX10_all_62 : decode cX10_all 62 = .ok (.ireturn, 1) := by decide +kernel
theorem dX10_all_63 : decode cX10_all 63 = .ok (.aload_n 0, 1) := by decide +kernel
theorem dX10_all_64 : decode cX10_all 64 = .ok (.bipush 9, 2) := by decide +kernel
theorem dX10_all_66 : decode cX10_all 66 = .ok (.invokevirtual 110, 3) := by decide +kernel
theorem dX10_all_69 : decode cX10_all 69 = .ok (.ireturn, 1) := by decide +kernel
theorem dX10_all_70 : decode cX10_all 70 = .ok (.aload_n 0, 1) := by decide +kernel
theorem dX10_all_71 : decode cX10_all 71 = .ok (.getfield 7, 3) := by decide +kernel
theorem dX10_all_74 : decode cX10_all 74 = .ok (.bipush 9, 2) := by decide +kernel
theorem dX10_all_76 : decode cX10_all 76 = .ok (.iload_n 1, 1) := by decide +kernel
theorem dX10_all_77 : decode cX10_all 77 = .ok (.iadd, 1) := by decide +kernel
theorem dX10_all_78 : decode cX10_all 78 = .ok (.iconst 3, 1) := by decide +kernel
theorem dX10_all_79 : decode cX10_all 79 = .ok (.isub, 1) := by decide +kernel
theorem dX10_all_80 : decode cX10_all 80 = .ok (.iaload, 1) := by decide +kernel
theorem dX10_all_81 : decode cX10_all 81 = .ok (.ireturn, 1) := by decide +kernel
theorem dX10_all_82 : decode cX10_all 82 = .ok (.aload_n 0, 1) := by decide +kernel
theorem dX10_all_83 : decode cX10_all 83 = .ok (.getfield 7, 3) := by decide +kernel
theorem dX10_all_86 : decode cX10_all 86 = .ok (.bipush 8, 2) := by decide +kernel
theorem dX10_all_88 : decode cX10_all 88 = .ok (.iaload, 1) := by decide +kernel
theorem dX10_all_89 : decode cX10_all 89 = .ok (.ireturn, 1) := by decide +kernel
theorem dX10_all_90 : decode cX10_all 90 = .ok (.iconst (-1), 1) := by decide +kernel
theorem dX10_all_91 : decode cX10_all 91 = .ok (.ireturn, 1) := by decide +kernel
theorem dX10_dryMany_0 : decode cX10_dryMany 0 = .ok (.iconst 0, 1) := by decide +kernel
theorem dX10_dryMany_1 : decode cX10_dryMany 1 = .ok (.istore_n 1, 1) := by decide +kernel
theorem dX10_dryMany_2 : decode cX10_dryMany 2 = .ok (.iconst 0, 1) := by decide +kernel
theorem dX10_dryMany_3 : decode cX10_dryMany 3 = .ok (.istore_n 2, 1) := by decide +kernel
theorem dX10_dryMany_4 : decode cX10_dryMany 4 = .ok (.iload_n 2, 1) := by decide +kernel
theorem dX10_dryMany_5 : decode cX10_dryMany 5 = .ok (.aload_n 0, 1) := by decide +kernel
theorem dX10_dryMany_6 : decode cX10_dryMany 6 = .ok (.invokevirtual 25, 3) := by decide +kernel
theorem dX10_dryMany_9 : decode cX10_dryMany 9 = .ok (.if_icmp .ge 25, 3) := by decide +kernel
theorem dX10_dryMany_12 : decode cX10_dryMany 12 = .ok (.iload_n 1, 1) := by decide +kernel
theorem dX10_dryMany_13 : decode cX10_dryMany 13 = .ok (.aload_n 0, 1) := by decide +kernel
theorem dX10_dryMany_14 : decode cX10_dryMany 14 = .ok (.iload_n 2, 1) := by decide +kernel
theorem dX10_dryMany_15 : decode cX10_dryMany 15 = .ok (.invokevirtual 104, 3) := by decide +kernel
theorem dX10_dryMany_18 : decode cX10_dryMany 18 = .ok (.ifCond .eq 7, 3) := by decide +kernel
theorem dX10_dryMany_21 : decode cX10_dryMany 21 = .ok (.iconst 0, 1) := by decide +kernel
theorem dX10_dryMany_22 : decode cX10_dryMany 22 = .ok (.goto 4, 3) := by decide +kernel
theorem dX10_dryMany_25 : decode cX10_dryMany 25 = .ok (.iconst 1, 1) := by decide +kernel
theorem dX10_dryMany_26 : decode cX10_dryMany 26 = .ok (.iadd, 1) := by decide +kernel
theorem dX10_dryMany_27 : decode cX10_dryMany 27 = .ok (.istore_n 1, 1) := by decide +kernel
theorem dX10_dryMany_28 : decode cX10_dryMany 28 = .ok (.iinc 2 1, 3) := by decide +kernel
theorem dX10_dryMany_31 : decode cX10_dryMany 31 = .ok (.goto (-27), 3) := by decide +kernel
theorem dX10_dryMany_34 : decode cX10_dryMany 34 = .ok (.iload_n 1, 1) := by decide +kernel
theorem dX10_dryMany_35 : decode cX10_dryMany 35 = .ok (.ireturn, 1) := by decide +kernel
theorem dX10_many_0 : decode cX10_many 0 = .ok (.iload_n 1, 1) := by decide +kernel
theorem dX10_many_1 : decode cX10_many 1 = .ok (.tableswitch 92 0 6 #[43, 48, 56, 64, 69, 77, 85], 43) := by decide +kernel
theorem dX10_many_44 : decode cX10_many 44 = .ok (.aload_n 0, 1) := by decide +kernel
theorem dX10_many_45 : decode cX10_many 45 = .ok (.invokevirtual 25, 3) := by decide +kernel
theorem dX10_many_48 : decode cX10_many 48 = .ok (.ireturn, 1) := by decide +kernel
theorem dX10_many_49 : decode cX10_many 49 = .ok (.aload_n 0, 1) := by decide +kernel
theorem dX10_many_50 : decode cX10_many 50 = .ok (.getfield 7, 3) := by decide +kernel
theorem dX10_many_53 : decode cX10_many 53 = .ok (.bipush 13, 2) := by decide +kernel
theorem dX10_many_55 : decode cX10_many 55 = .ok (.iaload, 1) := by decide +kernel
theorem dX10_many_56 : decode cX10_many 56 = .ok (.ireturn, 1) := by decide +kernel
theorem dX10_many_57 : decode cX10_many 57 = .ok (.aload_n 0, 1) := by decide +kernel
theorem dX10_many_58 : decode cX10_many 58 = .ok (.getfield 7, 3) := by decide +kernel
theorem dX10_many_61 : decode cX10_many 61 = .ok (.bipush 7, 2) := by decide +kernel
theorem dX10_many_63 : decode cX10_many 63 = .ok (.iaload, 1) := by decide +kernel
theorem dX10_many_64 : decode cX10_many 64 = .ok (.ireturn, 1) := by decide +kernel
theorem dX10_many_65 : decode cX10_many 65 = .ok (.aload_n 0, 1) := by decide +kernel
theorem dX10_many_66 : decode cX10_many 66 = .ok (.invokevirtual 113, 3) := by decide +kernel
theorem dX10_many_69 : decode cX10_many 69 = .ok (.ireturn, 1) := by decide +kernel
theorem dX10_many_70 : decode cX10_many 70 = .ok (.aload_n 0, 1) := by decide +kernel
theorem dX10_many_71 : decode cX10_many 71 = .ok (.sipush 220, 3) := by decide +kernel
theorem dX10_many_74 : decode cX10_many 74 = .ok (.invokevirtual 107, 3) := by decide +kernel
theorem dX10_many_77 : decode cX10_many 77 = .ok (.ireturn, 1) := by decide +kernel
theorem dX10_many_78 : decode cX10_many 78 = .ok (.aload_n 0, 1) := by decide +kernel
theorem dX10_many_79 : decode cX10_many 79 = .ok (.sipush 260, 3) := by decide +kernel
theorem dX10_many_82 : decode cX10_many 82 = .ok (.invokevirtual 107, 3) := by decide +kernel
theorem dX10_many_85 : decode cX10_many 85 = .ok (.ireturn, 1) := by decide +kernel
theorem dX10_many_86 : decode cX10_many 86 = .ok (.aload_n 0, 1) := by decide +kernel
theorem dX10_many_87 : decode cX10_many 87 = .ok (.bipush 8, 2) := by decide +kernel
theorem dX10_many_89 : decode cX10_many 89 = .ok (.invokevirtual 110, 3) := by decide +kernel
theorem dX10_many_92 : decode cX10_many 92 = .ok (.ireturn, 1) := by decide +kernel
theorem dX10_many_93 : decode cX10_many 93 = .ok (.iconst (-1), 1) := by decide +kernel
theorem dX10_many_94 : decode cX10_many 94 = .ok (.ireturn, 1) := by decide +kernel
theorem dX10_dry_0 : decode cX10_dry 0 = .ok (.iload_n 1, 1) := by decide +kernel
theorem dX10_dry_1 : decode cX10_dry 1 = .ok (.istore_n 2, 1) := by decide +kernel
theorem dX10_dry_2 : decode cX10_dry 2 = .ok (.iconst 0, 1) := by decide +kernel
theorem dX10_dry_3 : decode cX10_dry 3 = .ok (.istore_n 3, 1) := by decide +kernel
theorem dX10_dry_4 : decode cX10_dry 4 = .ok (.iload_n 3, 1) := by decide +kernel
theorem dX10_dry_5 : decode cX10_dry 5 = .ok (.aload_n 0, 1) := by decide +kernel
theorem dX10_dry_6 : decode cX10_dry 6 = .ok (.invokevirtual 25, 3) := by decide +kernel
theorem dX10_dry_9 : decode cX10_dry 9 = .ok (.if_icmp .ge 26, 3) := by decide +kernel
theorem dX10_dry_12 : decode cX10_dry 12 = .ok (.aload_n 0, 1) := by decide +kernel
theorem dX10_dry_13 : decode cX10_dry 13 = .ok (.iload_n 3, 1) := by decide +kernel
theorem dX10_dry_14 : decode cX10_dry 14 = .ok (.invokevirtual 104, 3) := by decide +kernel
theorem dX10_dry_17 : decode cX10_dry 17 = .ok (.ifCond .ne 12, 3) := by decide +kernel
theorem dX10_dry_20 : decode cX10_dry 20 = .ok (.iload_n 2, 1) := by decide +kernel
theorem dX10_dry_21 : decode cX10_dry 21 = .ok (.ifCond .ne 5, 3) := by decide +kernel
theorem dX10_dry_24 : decode cX10_dry 24 = .ok (.iload_n 3, 1) := by decide +kernel
theorem dX10_dry_25 : decode cX10_dry 25 = .ok (.ireturn, 1) := by decide +kernel
theorem dX10_dry_26 : decode cX10_dry 26 = .ok (.iinc 2 (-1), 3) := by decide +kernel
theorem dX10_dry_29 : decode cX10_dry 29 = .ok (.iinc 3 1, 3) := by decide +kernel
theorem dX10_dry_32 : decode cX10_dry 32 = .ok (.goto (-28), 3) := by decide +kernel
theorem dX10_dry_35 : decode cX10_dry 35 = .ok (.bipush (-6), 2) := by decide +kernel
theorem dX10_dry_37 : decode cX10_dry 37 = .ok (.ireturn, 1) := by decide +kernel
theorem dX10_set_0 : decode cX10_set 0 = .ok (.aload_n 0, 1) := by decide +kernel
theorem dX10_set_1 : decode cX10_set 1 = .ok (.iload_n 2, 1) := by decide +kernel
theorem dX10_set_2 : decode cX10_set 2 = .ok (.invokevirtual 33, 3) := by decide +kernel
theorem dX10_set_5 : decode cX10_set 5 = .ok (.ifCond .ne 5, 3) := by decide +kernel
theorem dX10_set_8 : decode cX10_set 8 = .ok (.iconst (-1), 1) := by decide +kernel
theorem dX10_set_9 : decode cX10_set 9 = .ok (.ireturn, 1) := by decide +kernel
theorem dX10_set_10 : decode cX10_set 10 = .ok (.aload_n 0, 1) := by decide +kernel
theorem dX10_set_11 : decode cX10_set 11 = .ok (.getfield 7, 3) := by decide +kernel
theorem dX10_set_14 : decode cX10_set 14 = .ok (.iload_n 1, 1) := by decide +kernel
theorem dX10_set_15 : decode cX10_set 15 = .ok (.iload_n 2, 1) := by decide +kernel
theorem dX10_set_16 : decode cX10_set 16 = .ok (.iadd, 1) := by decide +kernel
theorem dX10_set_17 : decode cX10_set 17 = .ok (.iaload, 1) := by decide +kernel
theorem dX10_set_18 : decode cX10_set 18 = .ok (.iconst 1, 1) := by decide +kernel
theorem dX10_set_19 : decode cX10_set 19 = .ok (.if_icmp .ne 7, 3) := by decide +kernel
theorem dX10_set_22 : decode cX10_set 22 = .ok (.iconst 1, 1) := by decide +kernel
theorem dX10_set_23 : decode cX10_set 23 = .ok (.goto 4, 3) := by decide +kernel
theorem dX10_set_26 : decode cX10_set 26 = .ok (.iconst 0, 1) := by decide +kernel
theorem dX10_set_27 : decode cX10_set 27 = .ok (.iload_n 3, 1) := by decide +kernel
theorem dX10_set_28 : decode cX10_set 28 = .ok (.if_icmp .ne 7, 3) := by decide +kernel
theorem dX10_set_31 : decode cX10_set 31 = .ok (.iconst 0, 1) := by decide +kernel
theorem dX10_set_32 : decode cX10_set 32 = .ok (.goto 4, 3) := by decide +kernel
theorem dX10_set_35 : decode cX10_set 35 = .ok (.iconst 1, 1) := by decide +kernel
theorem dX10_set_36 : decode cX10_set 36 = .ok (.istore 4, 2) := by decide +kernel
theorem dX10_set_38 : decode cX10_set 38 = .ok (.aload_n 0, 1) := by decide +kernel
theorem dX10_set_39 : decode cX10_set 39 = .ok (.getfield 7, 3) := by decide +kernel
theorem dX10_set_42 : decode cX10_set 42 = .ok (.iload_n 1, 1) := by decide +kernel
theorem dX10_set_43 : decode cX10_set 43 = .ok (.iload_n 2, 1) := by decide +kernel
theorem dX10_set_44 : decode cX10_set 44 = .ok (.iadd, 1) := by decide +kernel
theorem dX10_set_45 : decode cX10_set 45 = .ok (.iload_n 3, 1) := by decide +kernel
theorem dX10_set_46 : decode cX10_set 46 = .ok (.ifCond .eq 7, 3) := by decide +kernel
theorem dX10_set_49 : decode cX10_set 49 = .ok (.iconst 1, 1) := by decide +kernel
theorem dX10_set_50 : decode cX10_set 50 = .ok (.goto 4, 3) := by decide +kernel
theorem dX10_set_53 : decode cX10_set 53 = .ok (.iconst 0, 1) := by decide +kernel
theorem dX10_set_54 : decode cX10_set 54 = .ok (.iastore, 1) := by decide +kernel
theorem dX10_set_55 : decode cX10_set 55 = .ok (.iload 4, 2) := by decide +kernel
theorem dX10_set_57 : decode cX10_set 57 = .ok (.ireturn, 1) := by decide +kernel
theorem dX10_mark_0 : decode cX10_mark 0 = .ok (.aload_n 0, 1) := by decide +kernel
theorem dX10_mark_1 : decode cX10_mark 1 = .ok (.sipush 220, 3) := by decide +kernel
theorem dX10_mark_4 : decode cX10_mark 4 = .ok (.iload_n 1, 1) := by decide +kernel
theorem dX10_mark_5 : decode cX10_mark 5 = .ok (.iload_n 2, 1) := by decide +kernel
theorem dX10_mark_6 : decode cX10_mark 6 = .ok (.invokevirtual 116, 3) := by decide +kernel
theorem dX10_mark_9 : decode cX10_mark 9 = .ok (.ireturn, 1) := by decide +kernel
theorem dX10_cost_0 : decode cX10_cost 0 = .ok (.bipush 10, 2) := by decide +kernel
theorem dX10_cost_2 : decode cX10_cost 2 = .ok (.aload_n 0, 1) := by decide +kernel
theorem dX10_cost_3 : decode cX10_cost 3 = .ok (.iload_n 1, 1) := by decide +kernel
theorem dX10_cost_4 : decode cX10_cost 4 = .ok (.invokevirtual 37, 3) := by decide +kernel
theorem dX10_cost_7 : decode cX10_cost 7 = .ok (.aload_n 0, 1) := by decide +kernel
theorem dX10_cost_8 : decode cX10_cost 8 = .ok (.iload_n 2, 1) := by decide +kernel
theorem dX10_cost_9 : decode cX10_cost 9 = .ok (.invokevirtual 37, 3) := by decide +kernel
theorem dX10_cost_12 : decode cX10_cost 12 = .ok (.isub, 1) := by decide +kernel
theorem dX10_cost_13 : decode cX10_cost 13 = .ok (.invokestatic 44, 3) := by decide +kernel
theorem dX10_cost_16 : decode cX10_cost 16 = .ok (.aload_n 0, 1) := by decide +kernel
theorem dX10_cost_17 : decode cX10_cost 17 = .ok (.iload_n 1, 1) := by decide +kernel
theorem dX10_cost_18 : decode cX10_cost 18 = .ok (.invokevirtual 41, 3) := by decide +kernel
theorem dX10_cost_21 : decode cX10_cost 21 = .ok (.aload_n 0, 1) := by decide +kernel
theorem dX10_cost_22 : decode cX10_cost 22 = .ok (.iload_n 2, 1) := by decide +kernel
theorem dX10_cost_23 : decode cX10_cost 23 = .ok (.invokevirtual 41, 3) := by decide +kernel
theorem dX10_cost_26 : decode cX10_cost 26 = .ok (.isub, 1) := by decide +kernel
theorem dX10_cost_27 : decode cX10_cost 27 = .ok (.invokestatic 44, 3) := by decide +kernel
theorem dX10_cost_30 : decode cX10_cost 30 = .ok (.iadd, 1) := by decide +kernel
theorem dX10_cost_31 : decode cX10_cost 31 = .ok (.imul, 1) := by decide +kernel
theorem dX10_cost_32 : decode cX10_cost 32 = .ok (.aload_n 0, 1) := by decide +kernel
theorem dX10_cost_33 : decode cX10_cost 33 = .ok (.getfield 7, 3) := by decide +kernel
theorem dX10_cost_36 : decode cX10_cost 36 = .ok (.bipush 20, 2) := by decide +kernel
theorem dX10_cost_38 : decode cX10_cost 38 = .ok (.iload_n 1, 1) := by decide +kernel
theorem dX10_cost_39 : decode cX10_cost 39 = .ok (.iadd, 1) := by decide +kernel
theorem dX10_cost_40 : decode cX10_cost 40 = .ok (.iaload, 1) := by decide +kernel
theorem dX10_cost_41 : decode cX10_cost 41 = .ok (.aload_n 0, 1) := by decide +kernel
theorem dX10_cost_42 : decode cX10_cost 42 = .ok (.getfield 7, 3) := by decide +kernel
theorem dX10_cost_45 : decode cX10_cost 45 = .ok (.bipush 20, 2) := by decide +kernel
theorem dX10_cost_47 : decode cX10_cost 47 = .ok (.iload_n 2, 1) := by decide +kernel
theorem dX10_cost_48 : decode cX10_cost 48 = .ok (.iadd, 1) := by decide +kernel
theorem dX10_cost_49 : decode cX10_cost 49 = .ok (.iaload, 1) := by decide +kernel
theorem dX10_cost_50 : decode cX10_cost 50 = .ok (.isub, 1) := by decide +kernel
theorem dX10_cost_51 : decode cX10_cost 51 = .ok (.invokestatic 44, 3) := by decide +kernel
theorem dX10_cost_54 : decode cX10_cost 54 = .ok (.iadd, 1) := by decide +kernel
theorem dX10_cost_55 : decode cX10_cost 55 = .ok (.ireturn, 1) := by decide +kernel
theorem dX10_takePair_0 : decode cX10_takePair 0 = .ok (.iconst (-1), 1) := by decide +kernel
theorem dX10_takePair_1 : decode cX10_takePair 1 = .ok (.istore_n 1, 1) := by decide +kernel
theorem dX10_takePair_2 : decode cX10_takePair 2 = .ok (.iconst 0, 1) := by decide +kernel
theorem dX10_takePair_3 : decode cX10_takePair 3 = .ok (.istore_n 2, 1) := by decide +kernel
theorem dX10_takePair_4 : decode cX10_takePair 4 = .ok (.iload_n 2, 1) := by decide +kernel
theorem dX10_takePair_5 : decode cX10_takePair 5 = .ok (.aload_n 0, 1) := by decide +kernel
theorem dX10_takePair_6 : decode cX10_takePair 6 = .ok (.invokevirtual 25, 3) := by decide +kernel
theorem dX10_takePair_9 : decode cX10_takePair 9 = .ok (.if_icmp .ge 114, 3) := by decide +kernel
theorem dX10_takePair_12 : decode cX10_takePair 12 = .ok (.iload_n 2, 1) := by decide +kernel
theorem dX10_takePair_13 : decode cX10_takePair 13 = .ok (.iconst 1, 1) := by decide +kernel
theorem dX10_takePair_14 : decode cX10_takePair 14 = .ok (.iadd, 1) := by decide +kernel
theorem dX10_takePair_15 : decode cX10_takePair 15 = .ok (.istore_n 3, 1) := by decide +kernel
theorem dX10_takePair_16 : decode cX10_takePair 16 = .ok (.iload_n 3, 1) := by decide +kernel
theorem dX10_takePair_17 : decode cX10_takePair 17 = .ok (.aload_n 0, 1) := by decide +kernel
theorem dX10_takePair_18 : decode cX10_takePair 18 = .ok (.invokevirtual 25, 3) := by decide +kernel
theorem dX10_takePair_21 : decode cX10_takePair 21 = .ok (.if_icmp .ge 96, 3) := by decide +kernel
theorem dX10_takePair_24 : decode cX10_takePair 24 = .ok (.aload_n 0, 1) := by decide +kernel
theorem dX10_takePair_25 : decode cX10_takePair 25 = .ok (.getfield 7, 3) := by decide +kernel
theorem dX10_takePair_28 : decode cX10_takePair 28 = .ok (.sipush 220, 3) := by decide +kernel
theorem dX10_takePair_31 : decode cX10_takePair 31 = .ok (.iload_n 2, 1) := by decide +kernel
theorem dX10_takePair_32 : decode cX10_takePair 32 = .ok (.iadd, 1) := by decide +kernel
theorem dX10_takePair_33 : decode cX10_takePair 33 = .ok (.iaload, 1) := by decide +kernel
theorem dX10_takePair_34 : decode cX10_takePair 34 = .ok (.iconst 1, 1) := by decide +kernel
theorem dX10_takePair_35 : decode cX10_takePair 35 = .ok (.if_icmp .ne 36, 3) := by decide +kernel
theorem dX10_takePair_38 : decode cX10_takePair 38 = .ok (.aload_n 0, 1) := by decide +kernel
theorem dX10_takePair_39 : decode cX10_takePair 39 = .ok (.getfield 7, 3) := by decide +kernel
theorem dX10_takePair_42 : decode cX10_takePair 42 = .ok (.sipush 220, 3) := by decide +kernel
theorem dX10_takePair_45 : decode cX10_takePair 45 = .ok (.iload_n 3, 1) := by decide +kernel
theorem dX10_takePair_46 : decode cX10_takePair 46 = .ok (.iadd, 1) := by decide +kernel
theorem dX10_takePair_47 : decode cX10_takePair 47 = .ok (.iaload, 1) := by decide +kernel
theorem dX10_takePair_48 : decode cX10_takePair 48 = .ok (.iconst 1, 1) := by decide +kernel
theorem dX10_takePair_49 : decode cX10_takePair 49 = .ok (.if_icmp .ne 22, 3) := by decide +kernel
theorem dX10_takePair_52 : decode cX10_takePair 52 = .ok (.aload_n 0, 1) := by decide +kernel
theorem dX10_takePair_53 : decode cX10_takePair 53 = .ok (.getfield 19, 3) := by decide +kernel
theorem dX10_takePair_56 : decode cX10_takePair 56 = .ok (.iload_n 2, 1) := by decide +kernel
theorem dX10_takePair_57 : decode cX10_takePair 57 = .ok (.iaload, 1) := by decide +kernel
theorem dX10_takePair_58 : decode cX10_takePair 58 = .ok (.aload_n 0, 1) := by decide +kernel
theorem dX10_takePair_59 : decode cX10_takePair 59 = .ok (.getfield 19, 3) := by decide +kernel
theorem dX10_takePair_62 : decode cX10_takePair 62 = .ok (.iload_n 3, 1) := by decide +kernel
theorem dX10_takePair_63 : decode cX10_takePair 63 = .ok (.iaload, 1) := by decide +kernel
theorem dX10_takePair_64 : decode cX10_takePair 64 = .ok (.if_icmp .eq 7, 3) := by decide +kernel
theorem dX10_takePair_67 : decode cX10_takePair 67 = .ok (.iconst 1, 1) := by decide +kernel
theorem dX10_takePair_68 : decode cX10_takePair 68 = .ok (.goto 4, 3) := by decide +kernel
theorem dX10_takePair_71 : decode cX10_takePair 71 = .ok (.iconst 0, 1) := by decide +kernel
theorem dX10_takePair_72 : decode cX10_takePair 72 = .ok (.istore 4, 2) := by decide +kernel
theorem dX10_takePair_74 : decode cX10_takePair 74 = .ok (.iload 4, 2) := by decide +kernel
theorem dX10_takePair_76 : decode cX10_takePair 76 = .ok (.ifCond .eq 35, 3) := by decide +kernel
theorem dX10_takePair_79 : decode cX10_takePair 79 = .ok (.iload_n 1, 1) := by decide +kernel
theorem dX10_takePair_80 : decode cX10_takePair 80 = .ok (.ifCond .lt 24, 3) := by decide +kernel
theorem dX10_takePair_83 : decode cX10_takePair 83 = .ok (.aload_n 0, 1) := by decide +kernel
theorem dX10_takePair_84 : decode cX10_takePair 84 = .ok (.iload_n 2, 1) := by decide +kernel
theorem dX10_takePair_85 : decode cX10_takePair 85 = .ok (.iload_n 3, 1) := by decide +kernel
theorem dX10_takePair_86 : decode cX10_takePair 86 = .ok (.invokevirtual 120, 3) := by decide +kernel
theorem dX10_takePair_89 : decode cX10_takePair 89 = .ok (.aload_n 0, 1) := by decide +kernel
theorem dX10_takePair_90 : decode cX10_takePair 90 = .ok (.iload_n 1, 1) := by decide +kernel
theorem dX10_takePair_91 : decode cX10_takePair 91 = .ok (.bipush 100, 2) := by decide +kernel
theorem dX10_takePair_93 : decode cX10_takePair 93 = .ok (.idiv, 1) := by decide +kernel
theorem dX10_takePair_94 : decode cX10_takePair 94 = .ok (.iload_n 1, 1) := by decide +kernel
theorem dX10_takePair_95 : decode cX10_takePair 95 = .ok (.bipush 100, 2) := by decide +kernel
theorem dX10_takePair_97 : decode cX10_takePair 97 = .ok (.irem, 1) := by decide +kernel
theorem dX10_takePair_98 : decode cX10_takePair 98 = .ok (.invokevirtual 120, 3) := by decide +kernel
theorem dX10_takePair_101 : decode cX10_takePair 101 = .ok (.if_icmp .ge 10, 3) := by decide +kernel
theorem dX10_takePair_104 : decode cX10_takePair 104 = .ok (.bipush 100, 2) := by decide +kernel
theorem dX10_takePair_106 : decode cX10_takePair 106 = .ok (.iload_n 2, 1) := by decide +kernel
theorem dX10_takePair_107 : decode cX10_takePair 107 = .ok (.imul, 1) := by decide +kernel
theorem dX10_takePair_108 : decode cX10_takePair 108 = .ok (.iload_n 3, 1) := by decide +kernel
theorem dX10_takePair_109 : decode cX10_takePair 109 = .ok (.iadd, 1) := by decide +kernel
theorem dX10_takePair_110 : decode cX10_takePair 110 = .ok (.istore_n 1, 1) := by decide +kernel
theorem dX10_takePair_111 : decode cX10_takePair 111 = .ok (.iinc 3 1, 3) := by decide +kernel
theorem dX10_takePair_114 : decode cX10_takePair 114 = .ok (.goto (-98), 3) := by decide +kernel
theorem dX10_takePair_117 : decode cX10_takePair 117 = .ok (.iinc 2 1, 3) := by decide +kernel
theorem dX10_takePair_120 : decode cX10_takePair 120 = .ok (.goto (-116), 3) := by decide +kernel
theorem dX10_takePair_123 : decode cX10_takePair 123 = .ok (.iload_n 1, 1) := by decide +kernel
theorem dX10_takePair_124 : decode cX10_takePair 124 = .ok (.ifCond .ge 5, 3) := by decide +kernel
theorem dX10_takePair_127 : decode cX10_takePair 127 = .ok (.iconst 0, 1) := by decide +kernel
theorem dX10_takePair_128 : decode cX10_takePair 128 = .ok (.ireturn, 1) := by decide +kernel
theorem dX10_takePair_129 : decode cX10_takePair 129 = .ok (.aload_n 0, 1) := by decide +kernel
theorem dX10_takePair_130 : decode cX10_takePair 130 = .ok (.getfield 19, 3) := by decide +kernel
theorem dX10_takePair_133 : decode cX10_takePair 133 = .ok (.iload_n 1, 1) := by decide +kernel
theorem dX10_takePair_134 : decode cX10_takePair 134 = .ok (.bipush 100, 2) := by decide +kernel
theorem dX10_takePair_136 : decode cX10_takePair 136 = .ok (.irem, 1) := by decide +kernel
theorem dX10_takePair_137 : decode cX10_takePair 137 = .ok (.iaload, 1) := by decide +kernel
theorem dX10_takePair_138 : decode cX10_takePair 138 = .ok (.istore_n 2, 1) := by decide +kernel
theorem dX10_takePair_139 : decode cX10_takePair 139 = .ok (.iconst 0, 1) := by decide +kernel
theorem dX10_takePair_140 : decode cX10_takePair 140 = .ok (.istore_n 3, 1) := by decide +kernel
theorem dX10_takePair_141 : decode cX10_takePair 141 = .ok (.iload_n 3, 1) := by decide +kernel
theorem dX10_takePair_142 : decode cX10_takePair 142 = .ok (.aload_n 0, 1) := by decide +kernel
theorem dX10_takePair_143 : decode cX10_takePair 143 = .ok (.invokevirtual 25, 3) := by decide +kernel
theorem dX10_takePair_146 : decode cX10_takePair 146 = .ok (.if_icmp .ge 43, 3) := by decide +kernel
theorem dX10_takePair_149 : decode cX10_takePair 149 = .ok (.aload_n 0, 1) := by decide +kernel
theorem dX10_takePair_150 : decode cX10_takePair 150 = .ok (.getfield 19, 3) := by decide +kernel
theorem dX10_takePair_153 : decode cX10_takePair 153 = .ok (.iload_n 3, 1) := by decide +kernel
theorem dX10_takePair_154 : decode cX10_takePair 154 = .ok (.aload_n 0, 1) := by decide +kernel
theorem dX10_takePair_155 : decode cX10_takePair 155 = .ok (.getfield 19, 3) := by decide +kernel
theorem dX10_takePair_158 : decode cX10_takePair 158 = .ok (.iload_n 3, 1) := by decide +kernel
theorem dX10_takePair_159 : decode cX10_takePair 159 = .ok (.iaload, 1) := by decide +kernel
theorem dX10_takePair_160 : decode cX10_takePair 160 = .ok (.iload_n 2, 1) := by decide +kernel
theorem dX10_takePair_161 : decode cX10_takePair 161 = .ok (.if_icmp .ne 15, 3) := by decide +kernel
theorem dX10_takePair_164 : decode cX10_takePair 164 = .ok (.aload_n 0, 1) := by decide +kernel
theorem dX10_takePair_165 : decode cX10_takePair 165 = .ok (.getfield 19, 3) := by decide +kernel
theorem dX10_takePair_168 : decode cX10_takePair 168 = .ok (.iload_n 1, 1) := by decide +kernel
theorem dX10_takePair_169 : decode cX10_takePair 169 = .ok (.bipush 100, 2) := by decide +kernel
theorem dX10_takePair_171 : decode cX10_takePair 171 = .ok (.idiv, 1) := by decide +kernel
theorem dX10_takePair_172 : decode cX10_takePair 172 = .ok (.iaload, 1) := by decide +kernel
theorem dX10_takePair_173 : decode cX10_takePair 173 = .ok (.goto 9, 3) := by decide +kernel
theorem dX10_takePair_176 : decode cX10_takePair 176 = .ok (.aload_n 0, 1) := by decide +kernel
theorem dX10_takePair_177 : decode cX10_takePair 177 = .ok (.getfield 19, 3) := by decide +kernel
theorem dX10_takePair_180 : decode cX10_takePair 180 = .ok (.iload_n 3, 1) := by decide +kernel
theorem dX10_takePair_181 : decode cX10_takePair 181 = .ok (.iaload, 1) := by decide +kernel
theorem dX10_takePair_182 : decode cX10_takePair 182 = .ok (.iastore, 1) := by decide +kernel
theorem dX10_takePair_183 : decode cX10_takePair 183 = .ok (.iinc 3 1, 3) := by decide +kernel
theorem dX10_takePair_186 : decode cX10_takePair 186 = .ok (.goto (-45), 3) := by decide +kernel
theorem dX10_takePair_189 : decode cX10_takePair 189 = .ok (.aload_n 0, 1) := by decide +kernel
theorem dX10_takePair_190 : decode cX10_takePair 190 = .ok (.getfield 22, 3) := by decide +kernel
theorem dX10_takePair_193 : decode cX10_takePair 193 = .ok (.aload_n 0, 1) := by decide +kernel
theorem dX10_takePair_194 : decode cX10_takePair 194 = .ok (.getfield 123, 3) := by decide +kernel
theorem dX10_takePair_197 : decode cX10_takePair 197 = .ok (.iload_n 1, 1) := by decide +kernel
theorem dX10_takePair_198 : decode cX10_takePair 198 = .ok (.iastore, 1) := by decide +kernel
theorem dX10_takePair_199 : decode cX10_takePair 199 = .ok (.aload_n 0, 1) := by decide +kernel
theorem dX10_takePair_200 : decode cX10_takePair 200 = .ok (.dup, 1) := by decide +kernel
theorem dX10_takePair_201 : decode cX10_takePair 201 = .ok (.getfield 123, 3) := by decide +kernel
theorem dX10_takePair_204 : decode cX10_takePair 204 = .ok (.iconst 1, 1) := by decide +kernel
theorem dX10_takePair_205 : decode cX10_takePair 205 = .ok (.iadd, 1) := by decide +kernel
theorem dX10_takePair_206 : decode cX10_takePair 206 = .ok (.putfield 123, 3) := by decide +kernel
theorem dX10_takePair_209 : decode cX10_takePair 209 = .ok (.iconst 1, 1) := by decide +kernel
theorem dX10_takePair_210 : decode cX10_takePair 210 = .ok (.ireturn, 1) := by decide +kernel
