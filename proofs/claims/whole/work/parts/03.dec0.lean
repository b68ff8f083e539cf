theorem dX0_init_0 : decode cX0_init 0 = .ok (.aload_n 0, 1) := by decide +kernel
theorem dX0_init_1 : decode cX0_init 1 = .ok (.invokespecial 3, 3) := by decide +kernel
theorem dX0_init_4 : decode cX0_init 4 = .ok (.aload_n 0, 1) := by decide +kernel
theorem dX0_init_5 : decode cX0_init 5 = .ok (.bipush 20, 2) := by decide +kernel
theorem dX0_init_7 : decode cX0_init 7 = .ok (.newarray .int, 2) := by decide +kernel
theorem dX0_init_9 : decode cX0_init 9 = .ok (.putfield 9, 3) := by decide +kernel
theorem dX0_init_12 : decode cX0_init 12 = .ok (.aload_n 0, 1) := by decide +kernel
theorem dX0_init_13 : decode cX0_init 13 = .ok (.bipush 36, 2) := by decide +kernel
theorem dX0_init_15 : decode cX0_init 15 = .ok (.newarray .int, 2) := by decide +kernel
theorem dX0_init_17 : decode cX0_init 17 = .ok (.putfield 15, 3) := by decide +kernel
theorem dX0_init_20 : decode cX0_init 20 = .ok (.aload_n 0, 1) := by decide +kernel
theorem dX0_init_21 : decode cX0_init 21 = .ok (.sipush 720, 3) := by decide +kernel
theorem dX0_init_24 : decode cX0_init 24 = .ok (.newarray .int, 2) := by decide +kernel
theorem dX0_init_26 : decode cX0_init 26 = .ok (.putfield 18, 3) := by decide +kernel
theorem dX0_init_29 : decode cX0_init 29 = .ok (.return_, 1) := by decide +kernel
theorem dX0_plan_0 : decode cX0_plan 0 = .ok (.iconst 0, 1) := by decide +kernel
theorem dX0_plan_1 : decode cX0_plan 1 = .ok (.istore_n 2, 1) := by decide +kernel
theorem dX0_plan_2 : decode cX0_plan 2 = .ok (.iload_n 2, 1) := by decide +kernel
theorem dX0_plan_3 : decode cX0_plan 3 = .ok (.bipush 36, 2) := by decide +kernel
theorem dX0_plan_5 : decode cX0_plan 5 = .ok (.if_icmp .ge 21, 3) := by decide +kernel
theorem dX0_plan_8 : decode cX0_plan 8 = .ok (.aload_n 0, 1) := by decide +kernel
theorem dX0_plan_9 : decode cX0_plan 9 = .ok (.getfield 15, 3) := by decide +kernel
theorem dX0_plan_12 : decode cX0_plan 12 = .ok (.iload_n 2, 1) := by decide +kernel
theorem dX0_plan_13 : decode cX0_plan 13 = .ok (.aload_n 0, 1) := by decide +kernel
theorem dX0_plan_14 : decode cX0_plan 14 = .ok (.aload_n 1, 1) := by decide +kernel
theorem dX0_plan_15 : decode cX0_plan 15 = .ok (.iload_n 2, 1) := by decide +kernel
theorem dX0_plan_16 : decode cX0_plan 16 = .ok (.invokevirtual 21, 3) := by decide +kernel
theorem dX0_plan_19 : decode cX0_plan 19 = .ok (.iastore, 1) := by decide +kernel
theorem dX0_plan_20 : decode cX0_plan 20 = .ok (.iinc 2 1, 3) := by decide +kernel
theorem dX0_plan_23 : decode cX0_plan 23 = .ok (.goto (-21), 3) := by decide +kernel
theorem dX0_plan_26 : decode cX0_plan 26 = .ok (.aload_n 0, 1) := by decide +kernel
theorem dX0_plan_27 : decode cX0_plan 27 = .ok (.iconst 0, 1) := by decide +kernel
theorem dX0_plan_28 : decode cX0_plan 28 = .ok (.putfield 25, 3) := by decide +kernel
theorem dX0_plan_31 : decode cX0_plan 31 = .ok (.iconst 0, 1) := by decide +kernel
theorem dX0_plan_32 : decode cX0_plan 32 = .ok (.istore_n 2, 1) := by decide +kernel
theorem dX0_plan_33 : decode cX0_plan 33 = .ok (.iload_n 2, 1) := by decide +kernel
theorem dX0_plan_34 : decode cX0_plan 34 = .ok (.aload_n 1, 1) := by decide +kernel
theorem dX0_plan_35 : decode cX0_plan 35 = .ok (.getfield 29, 3) := by decide +kernel
theorem dX0_plan_38 : decode cX0_plan 38 = .ok (.if_icmp .ge 37, 3) := by decide +kernel
theorem dX0_plan_41 : decode cX0_plan 41 = .ok (.aload_n 0, 1) := by decide +kernel
theorem dX0_plan_42 : decode cX0_plan 42 = .ok (.getfield 9, 3) := by decide +kernel
theorem dX0_plan_45 : decode cX0_plan 45 = .ok (.iload_n 2, 1) := by decide +kernel
theorem dX0_plan_46 : decode cX0_plan 46 = .ok (.aload_n 1, 1) := by decide +kernel
theorem dX0_plan_47 : decode cX0_plan 47 = .ok (.iload_n 2, 1) := by decide +kernel
theorem dX0_plan_48 : decode cX0_plan 48 = .ok (.invokevirtual 34, 3) := by decide +kernel
theorem dX0_plan_51 : decode cX0_plan 51 = .ok (.iastore, 1) := by decide +kernel
theorem dX0_plan_52 : decode cX0_plan 52 = .ok (.aload_n 0, 1) := by decide +kernel
theorem dX0_plan_53 : decode cX0_plan 53 = .ok (.aload_n 0, 1) := by decide +kernel
theorem dX0_plan_54 : decode cX0_plan 54 = .ok (.getfield 25, 3) := by decide +kernel
theorem dX0_plan_57 : decode cX0_plan 57 = .ok (.aload_n 0, 1) := by decide +kernel
theorem dX0_plan_58 : decode cX0_plan 58 = .ok (.getfield 9, 3) := by decide +kernel
theorem dX0_plan_61 : decode cX0_plan 61 = .ok (.iload_n 2, 1) := by decide +kernel
theorem dX0_plan_62 : decode cX0_plan 62 = .ok (.iaload, 1) := by decide +kernel
theorem dX0_plan_63 : decode cX0_plan 63 = .ok (.invokestatic 38, 3) := by decide +kernel
theorem dX0_plan_66 : decode cX0_plan 66 = .ok (.putfield 25, 3) := by decide +kernel
theorem dX0_plan_69 : decode cX0_plan 69 = .ok (.iinc 2 1, 3) := by decide +kernel
theorem dX0_plan_72 : decode cX0_plan 72 = .ok (.goto (-39), 3) := by decide +kernel
theorem dX0_plan_75 : decode cX0_plan 75 = .ok (.return_, 1) := by decide +kernel
theorem dX0_planDrains_0 : decode cX0_planDrains 0 = .ok (.iconst 0, 1) := by decide +kernel
theorem dX0_planDrains_1 : decode cX0_planDrains 1 = .ok (.istore_n 3, 1) := by decide +kernel
theorem dX0_planDrains_2 : decode cX0_planDrains 2 = .ok (.iconst 0, 1) := by decide +kernel
theorem dX0_planDrains_3 : decode cX0_planDrains 3 = .ok (.istore 4, 2) := by decide +kernel
theorem dX0_planDrains_5 : decode cX0_planDrains 5 = .ok (.iload 4, 2) := by decide +kernel
theorem dX0_planDrains_7 : decode cX0_planDrains 7 = .ok (.aload_n 1, 1) := by decide +kernel
theorem dX0_planDrains_8 : decode cX0_planDrains 8 = .ok (.getfield 29, 3) := by decide +kernel
theorem dX0_planDrains_11 : decode cX0_planDrains 11 = .ok (.if_icmp .ge 55, 3) := by decide +kernel
theorem dX0_planDrains_14 : decode cX0_planDrains 14 = .ok (.aload_n 1, 1) := by decide +kernel
theorem dX0_planDrains_15 : decode cX0_planDrains 15 = .ok (.getfield 44, 3) := by decide +kernel
theorem dX0_planDrains_18 : decode cX0_planDrains 18 = .ok (.iload 4, 2) := by decide +kernel
theorem dX0_planDrains_20 : decode cX0_planDrains 20 = .ok (.aaload, 1) := by decide +kernel
theorem dX0_planDrains_21 : decode cX0_planDrains 21 = .ok (.invokevirtual 48, 3) := by decide +kernel
theorem dX0_planDrains_24 : decode cX0_planDrains 24 = .ok (.ifCond .eq 36, 3) := by decide +kernel
theorem dX0_planDrains_27 : decode cX0_planDrains 27 = .ok (.aload_n 1, 1) := by decide +kernel
theorem dX0_planDrains_28 : decode cX0_planDrains 28 = .ok (.getfield 44, 3) := by decide +kernel
theorem dX0_planDrains_31 : decode cX0_planDrains 31 = .ok (.iload 4, 2) := by decide +kernel
theorem dX0_planDrains_33 : decode cX0_planDrains 33 = .ok (.aaload, 1) := by decide +kernel
theorem dX0_planDrains_34 : decode cX0_planDrains 34 = .ok (.getfield 54, 3) := by decide +kernel
theorem dX0_planDrains_37 : decode cX0_planDrains 37 = .ok (.iload_n 2, 1) := by decide +kernel
theorem dX0_planDrains_38 : decode cX0_planDrains 38 = .ok (.invokevirtual 58, 3) := by decide +kernel
theorem dX0_planDrains_41 : decode cX0_planDrains 41 = .ok (.ifCond .lt 19, 3) := by decide +kernel
theorem dX0_planDrains_44 : decode cX0_planDrains 44 = .ok (.aload_n 0, 1) := by decide +kernel
theorem dX0_planDrains_45 : decode cX0_planDrains 45 = .ok (.getfield 18, 3) := by decide +kernel
theorem dX0_planDrains_48 : decode cX0_planDrains 48 = .ok (.iload_n 2, 1) := by decide +kernel
theorem dX0_planDrains_49 : decode cX0_planDrains 49 = .ok (.bipush 20, 2) := by decide +kernel
theorem dX0_planDrains_51 : decode cX0_planDrains 51 = .ok (.imul, 1) := by decide +kernel
theorem dX0_planDrains_52 : decode cX0_planDrains 52 = .ok (.iload_n 3, 1) := by decide +kernel
theorem dX0_planDrains_53 : decode cX0_planDrains 53 = .ok (.iadd, 1) := by decide +kernel
theorem dX0_planDrains_54 : decode cX0_planDrains 54 = .ok (.iload 4, 2) := by decide +kernel
theorem dX0_planDrains_56 : decode cX0_planDrains 56 = .ok (.iastore, 1) := by decide +kernel
theorem dX0_planDrains_57 : decode cX0_planDrains 57 = .ok (.iinc 3 1, 3) := by decide +kernel
theorem dX0_planDrains_60 : decode cX0_planDrains 60 = .ok (.iinc 4 1, 3) := by decide +kernel
theorem dX0_planDrains_63 : decode cX0_planDrains 63 = .ok (.goto (-58), 3) := by decide +kernel
theorem dX0_planDrains_66 : decode cX0_planDrains 66 = .ok (.iload_n 3, 1) := by decide +kernel
theorem dX0_planDrains_67 : decode cX0_planDrains 67 = .ok (.ireturn, 1) := by decide +kernel
theorem dX0_passHour_0 : decode cX0_passHour 0 = .ok (.iconst 0, 1) := by decide +kernel
theorem dX0_passHour_1 : decode cX0_passHour 1 = .ok (.istore_n 3, 1) := by decide +kernel
theorem dX0_passHour_2 : decode cX0_passHour 2 = .ok (.iload_n 3, 1) := by decide +kernel
theorem dX0_passHour_3 : decode cX0_passHour 3 = .ok (.aload_n 1, 1) := by decide +kernel
theorem dX0_passHour_4 : decode cX0_passHour 4 = .ok (.getfield 63, 3) := by decide +kernel
theorem dX0_passHour_7 : decode cX0_passHour 7 = .ok (.getfield 69, 3) := by decide +kernel
theorem dX0_passHour_10 : decode cX0_passHour 10 = .ok (.if_icmp .ge 23, 3) := by decide +kernel
theorem dX0_passHour_13 : decode cX0_passHour 13 = .ok (.aload_n 0, 1) := by decide +kernel
theorem dX0_passHour_14 : decode cX0_passHour 14 = .ok (.aload_n 1, 1) := by decide +kernel
theorem dX0_passHour_15 : decode cX0_passHour 15 = .ok (.aload_n 2, 1) := by decide +kernel
theorem dX0_passHour_16 : decode cX0_passHour 16 = .ok (.iload_n 3, 1) := by decide +kernel
theorem dX0_passHour_17 : decode cX0_passHour 17 = .ok (.invokevirtual 74, 3) := by decide +kernel
theorem dX0_passHour_20 : decode cX0_passHour 20 = .ok (.aload_n 0, 1) := by decide +kernel
theorem dX0_passHour_21 : decode cX0_passHour 21 = .ok (.aload_n 1, 1) := by decide +kernel
theorem dX0_passHour_22 : decode cX0_passHour 22 = .ok (.aload_n 2, 1) := by decide +kernel
theorem dX0_passHour_23 : decode cX0_passHour 23 = .ok (.iload_n 3, 1) := by decide +kernel
theorem dX0_passHour_24 : decode cX0_passHour 24 = .ok (.invokevirtual 78, 3) := by decide +kernel
theorem dX0_passHour_27 : decode cX0_passHour 27 = .ok (.iinc 3 1, 3) := by decide +kernel
theorem dX0_passHour_30 : decode cX0_passHour 30 = .ok (.goto (-28), 3) := by decide +kernel
theorem dX0_passHour_33 : decode cX0_passHour 33 = .ok (.iconst 0, 1) := by decide +kernel
theorem dX0_passHour_34 : decode cX0_passHour 34 = .ok (.istore_n 3, 1) := by decide +kernel
theorem dX0_passHour_35 : decode cX0_passHour 35 = .ok (.iload_n 3, 1) := by decide +kernel
theorem dX0_passHour_36 : decode cX0_passHour 36 = .ok (.aload_n 0, 1) := by decide +kernel
theorem dX0_passHour_37 : decode cX0_passHour 37 = .ok (.getfield 25, 3) := by decide +kernel
theorem dX0_passHour_40 : decode cX0_passHour 40 = .ok (.if_icmp .gt 49, 3) := by decide +kernel
theorem dX0_passHour_43 : decode cX0_passHour 43 = .ok (.iconst 0, 1) := by decide +kernel
theorem dX0_passHour_44 : decode cX0_passHour 44 = .ok (.istore 4, 2) := by decide +kernel
theorem dX0_passHour_46 : decode cX0_passHour 46 = .ok (.iload 4, 2) := by decide +kernel
theorem dX0_passHour_48 : decode cX0_passHour 48 = .ok (.aload_n 1, 1) := by decide +kernel
theorem dX0_passHour_49 : decode cX0_passHour 49 = .ok (.getfield 81, 3) := by decide +kernel
theorem dX0_passHour_52 : decode cX0_passHour 52 = .ok (.getfield 29, 3) := by decide +kernel
theorem dX0_passHour_55 : decode cX0_passHour 55 = .ok (.if_icmp .ge 28, 3) := by decide +kernel
theorem dX0_passHour_58 : decode cX0_passHour 58 = .ok (.aload_n 0, 1) := by decide +kernel
theorem dX0_passHour_59 : decode cX0_passHour 59 = .ok (.getfield 9, 3) := by decide +kernel
theorem dX0_passHour_62 : decode cX0_passHour 62 = .ok (.iload 4, 2) := by decide +kernel
theorem dX0_passHour_64 : decode cX0_passHour 64 = .ok (.iaload, 1) := by decide +kernel
theorem dX0_passHour_65 : decode cX0_passHour 65 = .ok (.iload_n 3, 1) := by decide +kernel
theorem dX0_passHour_66 : decode cX0_passHour 66 = .ok (.if_icmp .ne 11, 3) := by decide +kernel
theorem dX0_passHour_69 : decode cX0_passHour 69 = .ok (.aload_n 0, 1) := by decide +kernel
theorem dX0_passHour_70 : decode cX0_passHour 70 = .ok (.aload_n 1, 1) := by decide +kernel
theorem dX0_passHour_71 : decode cX0_passHour 71 = .ok (.aload_n 2, 1) := by decide +kernel
theorem dX0_passHour_72 : decode cX0_passHour 72 = .ok (.iload 4, 2) := by decide +kernel
theorem dX0_passHour_74 : decode cX0_passHour 74 = .ok (.invokevirtual 85, 3) := by decide +kernel
theorem dX0_passHour_77 : decode cX0_passHour 77 = .ok (.iinc 4 1, 3) := by decide +kernel
theorem dX0_passHour_80 : decode cX0_passHour 80 = .ok (.goto (-34), 3) := by decide +kernel
theorem dX0_passHour_83 : decode cX0_passHour 83 = .ok (.iinc 3 1, 3) := by decide +kernel
theorem dX0_passHour_86 : decode cX0_passHour 86 = .ok (.goto (-51), 3) := by decide +kernel
theorem dX0_passHour_89 : decode cX0_passHour 89 = .ok (.iconst 0, 1) := by decide +kernel
theorem dX0_passHour_90 : decode cX0_passHour 90 = .ok (.istore_n 3, 1) := by decide +kernel
theorem dX0_passHour_91 : decode cX0_passHour 91 = .ok (.iload_n 3, 1) := by decide +kernel
theorem dX0_passHour_92 : decode cX0_passHour 92 = .ok (.aload_n 1, 1) := by decide +kernel
theorem dX0_passHour_93 : decode cX0_passHour 93 = .ok (.getfield 81, 3) := by decide +kernel
theorem dX0_passHour_96 : decode cX0_passHour 96 = .ok (.getfield 29, 3) := by decide +kernel
theorem dX0_passHour_99 : decode cX0_passHour 99 = .ok (.if_icmp .ge 27, 3) := by decide +kernel
theorem dX0_passHour_102 : decode cX0_passHour 102 = .ok (.aload_n 2, 1) := by decide +kernel
theorem dX0_passHour_103 : decode cX0_passHour 103 = .ok (.getfield 88, 3) := by decide +kernel
theorem dX0_passHour_106 : decode cX0_passHour 106 = .ok (.iload_n 3, 1) := by decide +kernel
theorem dX0_passHour_107 : decode cX0_passHour 107 = .ok (.iconst 0, 1) := by decide +kernel
theorem dX0_passHour_108 : decode cX0_passHour 108 = .ok (.aload_n 2, 1) := by decide +kernel
theorem dX0_passHour_109 : decode cX0_passHour 109 = .ok (.getfield 88, 3) := by decide +kernel
theorem dX0_passHour_112 : decode cX0_passHour 112 = .ok (.iload_n 3, 1) := by decide +kernel
theorem dX0_passHour_113 : decode cX0_passHour 113 = .ok (.iaload, 1) := by decide +kernel
theorem dX0_passHour_114 : decode cX0_passHour 114 = .ok (.iconst 1, 1) := by decide +kernel
theorem dX0_passHour_115 : decode cX0_passHour 115 = .ok (.isub, 1) := by decide +kernel
theorem dX0_passHour_116 : decode cX0_passHour 116 = .ok (.invokestatic 38, 3) := by decide +kernel
theorem dX0_passHour_119 : decode cX0_passHour 119 = .ok (.iastore, 1) := by decide +kernel
theorem dX0_passHour_120 : decode cX0_passHour 120 = .ok (.iinc 3 1, 3) := by decide +kernel
theorem dX0_passHour_123 : decode cX0_passHour 123 = .ok (.goto (-32), 3) := by decide +kernel
theorem dX0_passHour_126 : decode cX0_passHour 126 = .ok (.aload_n 2, 1) := by decide +kernel
theorem dX0_passHour_127 : decode cX0_passHour 127 = .ok (.dup, 1) := by decide +kernel
theorem dX0_passHour_128 : decode cX0_passHour 128 = .ok (.getfield 93, 3) := by decide +kernel
theorem dX0_passHour_131 : decode cX0_passHour 131 = .ok (.iconst 1, 1) := by decide +kernel
theorem dX0_passHour_132 : decode cX0_passHour 132 = .ok (.iadd, 1) := by decide +kernel
theorem dX0_passHour_133 : decode cX0_passHour 133 = .ok (.putfield 93, 3) := by decide +kernel
theorem dX0_passHour_136 : decode cX0_passHour 136 = .ok (.return_, 1) := by decide +kernel
theorem dX0_wetPlace_0 : decode cX0_wetPlace 0 = .ok (.aload_n 1, 1) := by decide +kernel
theorem dX0_wetPlace_1 : decode cX0_wetPlace 1 = .ok (.getfield 63, 3) := by decide +kernel
theorem dX0_wetPlace_4 : decode cX0_wetPlace 4 = .ok (.getfield 96, 3) := by decide +kernel
theorem dX0_wetPlace_7 : decode cX0_wetPlace 7 = .ok (.iload_n 3, 1) := by decide +kernel
theorem dX0_wetPlace_8 : decode cX0_wetPlace 8 = .ok (.iaload, 1) := by decide +kernel
theorem dX0_wetPlace_9 : decode cX0_wetPlace 9 = .ok (.istore 4, 2) := by decide +kernel
theorem dX0_wetPlace_11 : decode cX0_wetPlace 11 = .ok (.aload_n 2, 1) := by decide +kernel
theorem dX0_wetPlace_12 : decode cX0_wetPlace 12 = .ok (.dup, 1) := by decide +kernel
theorem dX0_wetPlace_13 : decode cX0_wetPlace 13 = .ok (.getfield 99, 3) := by decide +kernel
theorem dX0_wetPlace_16 : decode cX0_wetPlace 16 = .ok (.aload_n 1, 1) := by decide +kernel
theorem dX0_wetPlace_17 : decode cX0_wetPlace 17 = .ok (.getfield 102, 3) := by decide +kernel
theorem dX0_wetPlace_20 : decode cX0_wetPlace 20 = .ok (.iload_n 3, 1) := by decide +kernel
theorem dX0_wetPlace_21 : decode cX0_wetPlace 21 = .ok (.iaload, 1) := by decide +kernel
theorem dX0_wetPlace_22 : decode cX0_wetPlace 22 = .ok (.iadd, 1) := by decide +kernel
theorem dX0_wetPlace_23 : decode cX0_wetPlace 23 = .ok (.putfield 99, 3) := by decide +kernel
theorem dX0_wetPlace_26 : decode cX0_wetPlace 26 = .ok (.aload_n 2, 1) := by decide +kernel
theorem dX0_wetPlace_27 : decode cX0_wetPlace 27 = .ok (.getfield 105, 3) := by decide +kernel
theorem dX0_wetPlace_30 : decode cX0_wetPlace 30 = .ok (.iload_n 3, 1) := by decide +kernel
theorem dX0_wetPlace_31 : decode cX0_wetPlace 31 = .ok (.dup2, 1) := by decide +kernel
theorem dX0_wetPlace_32 : decode cX0_wetPlace 32 = .ok (.iaload, 1) := by decide +kernel
theorem dX0_wetPlace_33 : decode cX0_wetPlace 33 = .ok (.aload_n 1, 1) := by decide +kernel
theorem dX0_wetPlace_34 : decode cX0_wetPlace 34 = .ok (.getfield 102, 3) := by decide +kernel
theorem dX0_wetPlace_37 : decode cX0_wetPlace 37 = .ok (.iload_n 3, 1) := by decide +kernel
theorem dX0_wetPlace_38 : decode cX0_wetPlace 38 = .ok (.iaload, 1) := by decide +kernel
theorem dX0_wetPlace_39 : decode cX0_wetPlace 39 = .ok (.iadd, 1) := by decide +kernel
theorem dX0_wetPlace_40 : decode cX0_wetPlace 40 = .ok (.iastore, 1) := by decide +kernel
theorem dX0_wetPlace_41 : decode cX0_wetPlace 41 = .ok (.iconst 0, 1) := by decide +kernel
theorem dX0_wetPlace_42 : decode cX0_wetPlace 42 = .ok (.aload_n 1, 1) := by decide +kernel
theorem dX0_wetPlace_43 : decode cX0_wetPlace 43 = .ok (.getfield 63, 3) := by decide +kernel
theorem dX0_wetPlace_46 : decode cX0_wetPlace 46 = .ok (.getfield 108, 3) := by decide +kernel
theorem dX0_wetPlace_49 : decode cX0_wetPlace 49 = .ok (.iload 4, 2) := by decide +kernel
theorem dX0_wetPlace_51 : decode cX0_wetPlace 51 = .ok (.invokestatic 111, 3) := by decide +kernel
theorem dX0_wetPlace_54 : decode cX0_wetPlace 54 = .ok (.aload_n 2, 1) := by decide +kernel
theorem dX0_wetPlace_55 : decode cX0_wetPlace 55 = .ok (.getfield 115, 3) := by decide +kernel
theorem dX0_wetPlace_58 : decode cX0_wetPlace 58 = .ok (.iload_n 3, 1) := by decide +kernel
theorem dX0_wetPlace_59 : decode cX0_wetPlace 59 = .ok (.iaload, 1) := by decide +kernel
theorem dX0_wetPlace_60 : decode cX0_wetPlace 60 = .ok (.isub, 1) := by decide +kernel
theorem dX0_wetPlace_61 : decode cX0_wetPlace 61 = .ok (.invokestatic 38, 3) := by decide +kernel
theorem dX0_wetPlace_64 : decode cX0_wetPlace 64 = .ok (.istore 5, 2) := by decide +kernel
theorem dX0_wetPlace_66 : decode cX0_wetPlace 66 = .ok (.iload 5, 2) := by decide +kernel
theorem dX0_wetPlace_68 : decode cX0_wetPlace 68 = .ok (.aload_n 1, 1) := by decide +kernel
theorem dX0_wetPlace_69 : decode cX0_wetPlace 69 = .ok (.getfield 63, 3) := by decide +kernel
theorem dX0_wetPlace_72 : decode cX0_wetPlace 72 = .ok (.getfield 118, 3) := by decide +kernel
theorem dX0_wetPlace_75 : decode cX0_wetPlace 75 = .ok (.iload 4, 2) := by decide +kernel
theorem dX0_wetPlace_77 : decode cX0_wetPlace 77 = .ok (.invokestatic 111, 3) := by decide +kernel
theorem dX0_wetPlace_80 : decode cX0_wetPlace 80 = .ok (.invokestatic 121, 3) := by decide +kernel
theorem dX0_wetPlace_83 : decode cX0_wetPlace 83 = .ok (.istore 6, 2) := by decide +kernel
theorem dX0_wetPlace_85 : decode cX0_wetPlace 85 = .ok (.iload 6, 2) := by decide +kernel
theorem dX0_wetPlace_87 : decode cX0_wetPlace 87 = .ok (.aload_n 2, 1) := by decide +kernel
theorem dX0_wetPlace_88 : decode cX0_wetPlace 88 = .ok (.getfield 105, 3) := by decide +kernel
theorem dX0_wetPlace_91 : decode cX0_wetPlace 91 = .ok (.iload_n 3, 1) := by decide +kernel
theorem dX0_wetPlace_92 : decode cX0_wetPlace 92 = .ok (.iaload, 1) := by decide +kernel
theorem dX0_wetPlace_93 : decode cX0_wetPlace 93 = .ok (.invokestatic 121, 3) := by decide +kernel
theorem dX0_wetPlace_96 : decode cX0_wetPlace 96 = .ok (.istore 7, 2) := by decide +kernel
theorem dX0_wetPlace_98 : decode cX0_wetPlace 98 = .ok (.aload_n 2, 1) := by decide +kernel
theorem dX0_wetPlace_99 : decode cX0_wetPlace 99 = .ok (.getfield 105, 3) := by decide +kernel
theorem dX0_wetPlace_102 : decode cX0_wetPlace 102 = .ok (.iload_n 3, 1) := by decide +kernel
theorem dX0_wetPlace_103 : decode cX0_wetPlace 103 = .ok (.dup2, 1) := by decide +kernel
theorem dX0_wetPlace_104 : decode cX0_wetPlace 104 = .ok (.iaload, 1) := by decide +kernel
theorem dX0_wetPlace_105 : decode cX0_wetPlace 105 = .ok (.iload 7, 2) := by decide +kernel
theorem dX0_wetPlace_107 : decode cX0_wetPlace 107 = .ok (.isub, 1) := by decide +kernel
theorem dX0_wetPlace_108 : decode cX0_wetPlace 108 = .ok (.iastore, 1) := by decide +kernel
theorem dX0_wetPlace_109 : decode cX0_wetPlace 109 = .ok (.aload_n 2, 1) := by decide +kernel
theorem dX0_wetPlace_110 : decode cX0_wetPlace 110 = .ok (.getfield 115, 3) := by decide +kernel
theorem dX0_wetPlace_113 : decode cX0_wetPlace 113 = .ok (.iload_n 3, 1) := by decide +kernel
theorem dX0_wetPlace_114 : decode cX0_wetPlace 114 = .ok (.dup2, 1) := by decide +kernel
theorem dX0_wetPlace_115 : decode cX0_wetPlace 115 = .ok (.iaload, 1) := by decide +kernel
theorem dX0_wetPlace_116 : decode cX0_wetPlace 116 = .ok (.iload 7, 2) := by decide +kernel
theorem dX0_wetPlace_118 : decode cX0_wetPlace 118 = .ok (.iadd, 1) := by decide +kernel
theorem dX0_wetPlace_119 : decode cX0_wetPlace 119 = .ok (.iastore, 1) := by decide +kernel
theorem dX0_wetPlace_120 : decode cX0_wetPlace 120 = .ok (.return_, 1) := by decide +kernel
theorem dX0_drainPlace_0 : decode cX0_drainPlace 0 = .ok (.aload_n 1, 1) := by decide +kernel
theorem dX0_drainPlace_1 : decode cX0_drainPlace 1 = .ok (.getfield 63, 3) := by decide +kernel
theorem dX0_drainPlace_4 : decode cX0_drainPlace 4 = .ok (.getfield 124, 3) := by decide +kernel
theorem dX0_drainPlace_7 : decode cX0_drainPlace 7 = .ok (.aload_n 1, 1) := by decide +kernel
theorem dX0_drainPlace_8 : decode cX0_drainPlace 8 = .ok (.getfield 63, 3) := by decide +kernel
theorem dX0_drainPlace_11 : decode cX0_drainPlace 11 = .ok (.getfield 96, 3) := by decide +kernel
theorem dX0_drainPlace_14 : decode cX0_drainPlace 14 = .ok (.iload_n 3, 1) := by decide +kernel
theorem dX0_drainPlace_15 : decode cX0_drainPlace 15 = .ok (.iaload, 1) := by decide +kernel
theorem dX0_drainPlace_16 : decode cX0_drainPlace 16 = .ok (.invokestatic 111, 3) := by decide +kernel
theorem dX0_drainPlace_19 : decode cX0_drainPlace 19 = .ok (.istore 4, 2) := by decide +kernel
theorem dX0_drainPlace_21 : decode cX0_drainPlace 21 = .ok (.iconst 0, 1) := by decide +kernel
theorem dX0_drainPlace_22 : decode cX0_drainPlace 22 = .ok (.istore 5, 2) := by decide +kernel
theorem dX0_drainPlace_24 : decode cX0_drainPlace 24 = .ok (.iload 5, 2) := by decide +kernel
theorem dX0_drainPlace_26 : decode cX0_drainPlace 26 = .ok (.aload_n 0, 1) := by decide +kernel
theorem dX0_drainPlace_27 : decode cX0_drainPlace 27 = .ok (.getfield 15, 3) := by decide +kernel
theorem dX0_drainPlace_30 : decode cX0_drainPlace 30 = .ok (.iload_n 3, 1) := by decide +kernel
theorem dX0_drainPlace_31 : decode cX0_drainPlace 31 = .ok (.iaload, 1) := by decide +kernel
theorem dX0_drainPlace_32 : decode cX0_drainPlace 32 = .ok (.if_icmp .ge 104, 3) := by decide +kernel
theorem dX0_drainPlace_35 : decode cX0_drainPlace 35 = .ok (.aload_n 0, 1) := by decide +kernel
theorem dX0_drainPlace_36 : decode cX0_drainPlace 36 = .ok (.getfield 18, 3) := by decide +kernel
theorem dX0_drainPlace_39 : decode cX0_drainPlace 39 = .ok (.iload_n 3, 1) := by decide +kernel
theorem dX0_drainPlace_40 : decode cX0_drainPlace 40 = .ok (.bipush 20, 2) := by decide +kernel
theorem dX0_drainPlace_42 : decode cX0_drainPlace 42 = .ok (.imul, 1) := by decide +kernel
theorem dX0_drainPlace_43 : decode cX0_drainPlace 43 = .ok (.iload 5, 2) := by decide +kernel
theorem dX0_drainPlace_45 : decode cX0_drainPlace 45 = .ok (.iadd, 1) := by decide +kernel
theorem dX0_drainPlace_46 : decode cX0_drainPlace 46 = .ok (.invokestatic 111, 3) := by decide +kernel
theorem dX0_drainPlace_49 : decode cX0_drainPlace 49 = .ok (.istore 6, 2) := by decide +kernel
theorem dX0_drainPlace_51 : decode cX0_drainPlace 51 = .ok (.aload_n 0, 1) := by decide +kernel
theorem dX0_drainPlace_52 : decode cX0_drainPlace 52 = .ok (.aload_n 1, 1) := by decide +kernel
theorem dX0_drainPlace_53 : decode cX0_drainPlace 53 = .ok (.getfield 81, 3) := by decide +kernel
theorem dX0_drainPlace_56 : decode cX0_drainPlace 56 = .ok (.aload_n 2, 1) := by decide +kernel
theorem dX0_drainPlace_57 : decode cX0_drainPlace 57 = .ok (.iload 6, 2) := by decide +kernel
theorem dX0_drainPlace_59 : decode cX0_drainPlace 59 = .ok (.invokevirtual 127, 3) := by decide +kernel
theorem dX0_drainPlace_62 : decode cX0_drainPlace 62 = .ok (.ifCond .eq 68, 3) := by decide +kernel
theorem dX0_drainPlace_65 : decode cX0_drainPlace 65 = .ok (.aload_n 1, 1) := by decide +kernel
theorem dX0_drainPlace_66 : decode cX0_drainPlace 66 = .ok (.getfield 81, 3) := by decide +kernel
theorem dX0_drainPlace_69 : decode cX0_drainPlace 69 = .ok (.getfield 44, 3) := by decide +kernel
theorem dX0_drainPlace_72 : decode cX0_drainPlace 72 = .ok (.iload 6, 2) := by decide +kernel
theorem dX0_drainPlace_74 : decode cX0_drainPlace 74 = .ok (.aaload, 1) := by decide +kernel
theorem dX0_drainPlace_75 : decode cX0_drainPlace 75 = .ok (.getfield 131, 3) := by decide +kernel
theorem dX0_drainPlace_78 : decode cX0_drainPlace 78 = .ok (.aload_n 2, 1) := by decide +kernel
theorem dX0_drainPlace_79 : decode cX0_drainPlace 79 = .ok (.getfield 134, 3) := by decide +kernel
theorem dX0_drainPlace_82 : decode cX0_drainPlace 82 = .ok (.iload 6, 2) := by decide +kernel
theorem dX0_drainPlace_84 : decode cX0_drainPlace 84 = .ok (.iaload, 1) := by decide +kernel
theorem dX0_drainPlace_85 : decode cX0_drainPlace 85 = .ok (.isub, 1) := by decide +kernel
theorem dX0_drainPlace_86 : decode cX0_drainPlace 86 = .ok (.istore 7, 2) := by decide +kernel
theorem dX0_drainPlace_88 : decode cX0_drainPlace 88 = .ok (.iload 7, 2) := by decide +kernel
theorem dX0_drainPlace_90 : decode cX0_drainPlace 90 = .ok (.aload_n 2, 1) := by decide +kernel
theorem dX0_drainPlace_91 : decode cX0_drainPlace 91 = .ok (.getfield 115, 3) := by decide +kernel
theorem dX0_drainPlace_94 : decode cX0_drainPlace 94 = .ok (.iload_n 3, 1) := by decide +kernel
theorem dX0_drainPlace_95 : decode cX0_drainPlace 95 = .ok (.iaload, 1) := by decide +kernel
theorem dX0_drainPlace_96 : decode cX0_drainPlace 96 = .ok (.iload 4, 2) := by decide +kernel
theorem dX0_drainPlace_98 : decode cX0_drainPlace 98 = .ok (.imul, 1) := by decide +kernel
theorem dX0_drainPlace_99 : decode cX0_drainPlace 99 = .ok (.bipush 100, 2) := by decide +kernel
theorem dX0_drainPlace_101 : decode cX0_drainPlace 101 = .ok (.idiv, 1) := by decide +kernel
theorem dX0_drainPlace_102 : decode cX0_drainPlace 102 = .ok (.invokestatic 121, 3) := by decide +kernel
theorem dX0_drainPlace_105 : decode cX0_drainPlace 105 = .ok (.istore 8, 2) := by decide +kernel
theorem dX0_drainPlace_107 : decode cX0_drainPlace 107 = .ok (.aload_n 2, 1) := by decide +kernel
theorem dX0_drainPlace_108 : decode cX0_drainPlace 108 = .ok (.getfield 115, 3) := by decide +kernel
theorem dX0_drainPlace_111 : decode cX0_drainPlace 111 = .ok (.iload_n 3, 1) := by decide +kernel
theorem dX0_drainPlace_112 : decode cX0_drainPlace 112 = .ok (.dup2, 1) := by decide +kernel
theorem dX0_drainPlace_113 : decode cX0_drainPlace 113 = .ok (.iaload, 1) := by decide +kernel
theorem dX0_drainPlace_114 : decode cX0_drainPlace 114 = .ok (.iload 8, 2) := by decide +kernel
theorem dX0_drainPlace_116 : decode cX0_drainPlace 116 = .ok (.isub, 1) := by decide +kernel
theorem dX0_drainPlace_117 : decode cX0_drainPlace 117 = .ok (.iastore, 1) := by decide +kernel
theorem dX0_drainPlace_118 : decode cX0_drainPlace 118 = .ok (.aload_n 2, 1) := by decide +kernel
theorem dX0_drainPlace_119 : decode cX0_drainPlace 119 = .ok (.getfield 134, 3) := by decide +kernel
theorem dX0_drainPlace_122 : decode cX0_drainPlace 122 = .ok (.iload 6, 2) := by decide +kernel
theorem dX0_drainPlace_124 : decode cX0_drainPlace 124 = .ok (.dup2, 1) := by decide +kernel
theorem dX0_drainPlace_125 : decode cX0_drainPlace 125 = .ok (.iaload, 1) := by decide +kernel
theorem dX0_drainPlace_126 : decode cX0_drainPlace 126 = .ok (.iload 8, 2) := by decide +kernel
theorem dX0_drainPlace_128 : decode cX0_drainPlace 128 = .ok (.iadd, 1) := by decide +kernel
theorem dX0_drainPlace_129 : decode cX0_drainPlace 129 = .ok (.iastore, 1) := by decide +kernel
theorem dX0_drainPlace_130 : decode cX0_drainPlace 130 = .ok (.iinc 5 1, 3) := by decide +kernel
theorem dX0_drainPlace_133 : decode cX0_drainPlace 133 = .ok (.goto (-109), 3) := by decide +kernel
theorem dX0_drainPlace_136 : decode cX0_drainPlace 136 = .ok (.return_, 1) := by decide +kernel
theorem dX0_isDraining_0 : decode cX0_isDraining 0 = .ok (.aload_n 1, 1) := by decide +kernel
theorem dX0_isDraining_1 : decode cX0_isDraining 1 = .ok (.iload_n 3, 1) := by decide +kernel
theorem dX0_isDraining_2 : decode cX0_isDraining 2 = .ok (.invokevirtual 137, 3) := by decide +kernel
theorem dX0_isDraining_5 : decode cX0_isDraining 5 = .ok (.ifCond .eq 40, 3) := by decide +kernel
theorem dX0_isDraining_8 : decode cX0_isDraining 8 = .ok (.aload_n 2, 1) := by decide +kernel
theorem dX0_isDraining_9 : decode cX0_isDraining 9 = .ok (.getfield 141, 3) := by decide +kernel
theorem dX0_isDraining_12 : decode cX0_isDraining 12 = .ok (.iload_n 3, 1) := by decide +kernel
theorem dX0_isDraining_13 : decode cX0_isDraining 13 = .ok (.invokevirtual 145, 3) := by decide +kernel
theorem dX0_isDraining_16 : decode cX0_isDraining 16 = .ok (.ifCond .ne 29, 3) := by decide +kernel
theorem dX0_isDraining_19 : decode cX0_isDraining 19 = .ok (.aload_n 1, 1) := by decide +kernel
theorem dX0_isDraining_20 : decode cX0_isDraining 20 = .ok (.getfield 44, 3) := by decide +kernel
theorem dX0_isDraining_23 : decode cX0_isDraining 23 = .ok (.iload_n 3, 1) := by decide +kernel
theorem dX0_isDraining_24 : decode cX0_isDraining 24 = .ok (.aaload, 1) := by decide +kernel
theorem dX0_isDraining_25 : decode cX0_isDraining 25 = .ok (.getfield 150, 3) := by decide +kernel
theorem dX0_isDraining_28 : decode cX0_isDraining 28 = .ok (.iconst 2, 1) := by decide +kernel
theorem dX0_isDraining_29 : decode cX0_isDraining 29 = .ok (.if_icmp .ne 12, 3) := by decide +kernel
theorem dX0_isDraining_32 : decode cX0_isDraining 32 = .ok (.aload_n 2, 1) := by decide +kernel
theorem dX0_isDraining_33 : decode cX0_isDraining 33 = .ok (.getfield 88, 3) := by decide +kernel
theorem dX0_isDraining_36 : decode cX0_isDraining 36 = .ok (.iload_n 3, 1) := by decide +kernel
theorem dX0_isDraining_37 : decode cX0_isDraining 37 = .ok (.iaload, 1) := by decide +kernel
theorem dX0_isDraining_38 : decode cX0_isDraining 38 = .ok (.ifCond .le 7, 3) := by decide +kernel
theorem dX0_isDraining_41 : decode cX0_isDraining 41 = .ok (.iconst 1, 1) := by decide +kernel
theorem dX0_isDraining_42 : decode cX0_isDraining 42 = .ok (.goto 4, 3) := by decide +kernel
theorem dX0_isDraining_45 : decode cX0_isDraining 45 = .ok (.iconst 0, 1) := by decide +kernel
theorem dX0_isDraining_46 : decode cX0_isDraining 46 = .ok (.ireturn, 1) := by decide +kernel
theorem dX0_passOn_0 : decode cX0_passOn 0 = .ok (.aload_n 1, 1) := by decide +kernel
theorem dX0_passOn_1 : decode cX0_passOn 1 = .ok (.getfield 81, 3) := by decide +kernel
theorem dX0_passOn_4 : decode cX0_passOn 4 = .ok (.getfield 44, 3) := by decide +kernel
theorem dX0_passOn_7 : decode cX0_passOn 7 = .ok (.iload_n 3, 1) := by decide +kernel
theorem dX0_passOn_8 : decode cX0_passOn 8 = .ok (.aaload, 1) := by decide +kernel
theorem dX0_passOn_9 : decode cX0_passOn 9 = .ok (.astore 4, 2) := by decide +kernel
theorem dX0_passOn_11 : decode cX0_passOn 11 = .ok (.aload_n 2, 1) := by decide +kernel
theorem dX0_passOn_12 : decode cX0_passOn 12 = .ok (.getfield 141, 3) := by decide +kernel
theorem dX0_passOn_15 : decode cX0_passOn 15 = .ok (.iload_n 3, 1) := by decide +kernel
theorem dX0_passOn_16 : decode cX0_passOn 16 = .ok (.invokevirtual 145, 3) := by decide +kernel
theorem dX0_passOn_19 : decode cX0_passOn 19 = .ok (.ifCond .eq 7, 3) := by decide +kernel
theorem dX0_passOn_22 : decode cX0_passOn 22 = .ok (.iconst 0, 1) := by decide +kernel
theorem dX0_passOn_23 : decode cX0_passOn 23 = .ok (.goto 11, 3) := by decide +kernel
theorem dX0_passOn_26 : decode cX0_passOn 26 = .ok (.aload_n 0, 1) := by decide +kernel
theorem dX0_passOn_27 : decode cX0_passOn 27 = .ok (.aload_n 1, 1) := by decide +kernel
theorem dX0_passOn_28 : decode cX0_passOn 28 = .ok (.aload_n 2, 1) := by decide +kernel
theorem dX0_passOn_29 : decode cX0_passOn 29 = .ok (.aload 4, 2) := by decide +kernel
theorem dX0_passOn_31 : decode cX0_passOn 31 = .ok (.invokevirtual 153, 3) := by decide +kernel
theorem dX0_passOn_34 : decode cX0_passOn 34 = .ok (.istore 5, 2) := by decide +kernel
theorem dX0_passOn_36 : decode cX0_passOn 36 = .ok (.iload 5, 2) := by decide +kernel
theorem dX0_passOn_38 : decode cX0_passOn 38 = .ok (.aload 4, 2) := by decide +kernel
theorem dX0_passOn_40 : decode cX0_passOn 40 = .ok (.getfield 157, 3) := by decide +kernel
theorem dX0_passOn_43 : decode cX0_passOn 43 = .ok (.aload_n 2, 1) := by decide +kernel
theorem dX0_passOn_44 : decode cX0_passOn 44 = .ok (.getfield 134, 3) := by decide +kernel
theorem dX0_passOn_47 : decode cX0_passOn 47 = .ok (.iload_n 3, 1) := by decide +kernel
theorem dX0_passOn_48 : decode cX0_passOn 48 = .ok (.iaload, 1) := by decide +kernel
theorem dX0_passOn_49 : decode cX0_passOn 49 = .ok (.invokestatic 121, 3) := by decide +kernel
theorem dX0_passOn_52 : decode cX0_passOn 52 = .ok (.invokestatic 121, 3) := by decide +kernel
theorem dX0_passOn_55 : decode cX0_passOn 55 = .ok (.istore 6, 2) := by decide +kernel
theorem dX0_passOn_57 : decode cX0_passOn 57 = .ok (.aload_n 2, 1) := by decide +kernel
theorem dX0_passOn_58 : decode cX0_passOn 58 = .ok (.getfield 160, 3) := by decide +kernel
theorem dX0_passOn_61 : decode cX0_passOn 61 = .ok (.iload_n 3, 1) := by decide +kernel
theorem dX0_passOn_62 : decode cX0_passOn 62 = .ok (.iload 6, 2) := by decide +kernel
theorem dX0_passOn_64 : decode cX0_passOn 64 = .ok (.iastore, 1) := by decide +kernel
theorem dX0_passOn_65 : decode cX0_passOn 65 = .ok (.aload_n 2, 1) := by decide +kernel
theorem dX0_passOn_66 : decode cX0_passOn 66 = .ok (.getfield 134, 3) := by decide +kernel
theorem dX0_passOn_69 : decode cX0_passOn 69 = .ok (.iload_n 3, 1) := by decide +kernel
theorem dX0_passOn_70 : decode cX0_passOn 70 = .ok (.dup2, 1) := by decide +kernel
theorem dX0_passOn_71 : decode cX0_passOn 71 = .ok (.iaload, 1) := by decide +kernel
theorem dX0_passOn_72 : decode cX0_passOn 72 = .ok (.iload 6, 2) := by decide +kernel
theorem dX0_passOn_74 : decode cX0_passOn 74 = .ok (.isub, 1) := by decide +kernel
theorem dX0_passOn_75 : decode cX0_passOn 75 = .ok (.iastore, 1) := by decide +kernel
theorem dX0_passOn_76 : decode cX0_passOn 76 = .ok (.aload 4, 2) := by decide +kernel
theorem dX0_passOn_78 : decode cX0_passOn 78 = .ok (.getfield 163, 3) := by decide +kernel
theorem dX0_passOn_81 : decode cX0_passOn 81 = .ok (.bipush 100, 2) := by decide +kernel
theorem dX0_passOn_83 : decode cX0_passOn 83 = .ok (.isub, 1) := by decide +kernel
theorem dX0_passOn_84 : decode cX0_passOn 84 = .ok (.istore 7, 2) := by decide +kernel
theorem dX0_passOn_86 : decode cX0_passOn 86 = .ok (.aload_n 1, 1) := by decide +kernel
theorem dX0_passOn_87 : decode cX0_passOn 87 = .ok (.getfield 81, 3) := by decide +kernel
theorem dX0_passOn_90 : decode cX0_passOn 90 = .ok (.aload 4, 2) := by decide +kernel
theorem dX0_passOn_92 : decode cX0_passOn 92 = .ok (.getfield 163, 3) := by decide +kernel
theorem dX0_passOn_95 : decode cX0_passOn 95 = .ok (.invokevirtual 137, 3) := by decide +kernel
theorem dX0_passOn_98 : decode cX0_passOn 98 = .ok (.ifCond .eq 21, 3) := by decide +kernel
theorem dX0_passOn_101 : decode cX0_passOn 101 = .ok (.aload_n 2, 1) := by decide +kernel
theorem dX0_passOn_102 : decode cX0_passOn 102 = .ok (.getfield 134, 3) := by decide +kernel
theorem dX0_passOn_105 : decode cX0_passOn 105 = .ok (.aload 4, 2) := by decide +kernel
theorem dX0_passOn_107 : decode cX0_passOn 107 = .ok (.getfield 163, 3) := by decide +kernel
theorem dX0_passOn_110 : decode cX0_passOn 110 = .ok (.dup2, 1) := by decide +kernel
theorem dX0_passOn_111 : decode cX0_passOn 111 = .ok (.iaload, 1) := by decide +kernel
theorem dX0_passOn_112 : decode cX0_passOn 112 = .ok (.iload 6, 2) := by decide +kernel
theorem dX0_passOn_114 : decode cX0_passOn 114 = .ok (.iadd, 1) := by decide +kernel
theorem dX0_passOn_115 : decode cX0_passOn 115 = .ok (.iastore, 1) := by decide +kernel
theorem dX0_passOn_116 : decode cX0_passOn 116 = .ok (.goto 23, 3) := by decide +kernel
theorem dX0_passOn_119 : decode cX0_passOn 119 = .ok (.iload 7, 2) := by decide +kernel
theorem dX0_passOn_121 : decode cX0_passOn 121 = .ok (.invokestatic 166, 3) := by decide +kernel
theorem dX0_passOn_124 : decode cX0_passOn 124 = .ok (.ifCond .eq 15, 3) := by decide +kernel
theorem dX0_passOn_127 : decode cX0_passOn 127 = .ok (.aload_n 2, 1) := by decide +kernel
theorem dX0_passOn_128 : decode cX0_passOn 128 = .ok (.getfield 169, 3) := by decide +kernel
theorem dX0_passOn_131 : decode cX0_passOn 131 = .ok (.iload 7, 2) := by decide +kernel
theorem dX0_passOn_133 : decode cX0_passOn 133 = .ok (.dup2, 1) := by decide +kernel
theorem dX0_passOn_134 : decode cX0_passOn 134 = .ok (.iaload, 1) := by decide +kernel
theorem dX0_passOn_135 : decode cX0_passOn 135 = .ok (.iload 6, 2) := by decide +kernel
theorem dX0_passOn_137 : decode cX0_passOn 137 = .ok (.iadd, 1) := by decide +kernel
theorem dX0_passOn_138 : decode cX0_passOn 138 = .ok (.iastore, 1) := by decide +kernel
theorem dX0_passOn_139 : decode cX0_passOn 139 = .ok (.return_, 1) := by decide +kernel
theorem dX0_mostInto_0 : decode cX0_mostInto 0 = .ok (.aload_n 3, 1) := by decide +kernel
theorem dX0_mostInto_1 : decode cX0_mostInto 1 = .ok (.getfield 163, 3) := by decide +kernel
theorem dX0_mostInto_4 : decode cX0_mostInto 4 = .ok (.bipush 100, 2) := by decide +kernel
theorem dX0_mostInto_6 : decode cX0_mostInto 6 = .ok (.isub, 1) := by decide +kernel
theorem dX0_mostInto_7 : decode cX0_mostInto 7 = .ok (.istore 4, 2) := by decide +kernel
theorem dX0_mostInto_9 : decode cX0_mostInto 9 = .ok (.aload_n 1, 1) := by decide +kernel
theorem dX0_mostInto_10 : decode cX0_mostInto 10 = .ok (.getfield 81, 3) := by decide +kernel
theorem dX0_mostInto_13 : decode cX0_mostInto 13 = .ok (.aload_n 3, 1) := by decide +kernel
theorem dX0_mostInto_14 : decode cX0_mostInto 14 = .ok (.getfield 163, 3) := by decide +kernel
theorem dX0_mostInto_17 : decode cX0_mostInto 17 = .ok (.invokevirtual 137, 3) := by decide +kernel
theorem dX0_mostInto_20 : decode cX0_mostInto 20 = .ok (.ifCond .eq 29, 3) := by decide +kernel
theorem dX0_mostInto_23 : decode cX0_mostInto 23 = .ok (.aload_n 1, 1) := by decide +kernel
theorem dX0_mostInto_24 : decode cX0_mostInto 24 = .ok (.getfield 81, 3) := by decide +kernel
theorem dX0_mostInto_27 : decode cX0_mostInto 27 = .ok (.getfield 44, 3) := by decide +kernel
theorem dX0_mostInto_30 : decode cX0_mostInto 30 = .ok (.aload_n 3, 1) := by decide +kernel
theorem dX0_mostInto_31 : decode cX0_mostInto 31 = .ok (.getfield 163, 3) := by decide +kernel
theorem dX0_mostInto_34 : decode cX0_mostInto 34 = .ok (.aaload, 1) := by decide +kernel
theorem dX0_mostInto_35 : decode cX0_mostInto 35 = .ok (.getfield 131, 3) := by decide +kernel
theorem dX0_mostInto_38 : decode cX0_mostInto 38 = .ok (.aload_n 2, 1) := by decide +kernel
theorem dX0_mostInto_39 : decode cX0_mostInto 39 = .ok (.getfield 134, 3) := by decide +kernel
theorem dX0_mostInto_42 : decode cX0_mostInto 42 = .ok (.aload_n 3, 1) := by decide +kernel
theorem dX0_mostInto_43 : decode cX0_mostInto 43 = .ok (.getfield 163, 3) := by decide +kernel
theorem dX0_mostInto_46 : decode cX0_mostInto 46 = .ok (.iaload, 1) := by decide +kernel
theorem dX0_mostInto_47 : decode cX0_mostInto 47 = .ok (.isub, 1) := by decide +kernel
theorem dX0_mostInto_48 : decode cX0_mostInto 48 = .ok (.ireturn, 1) := by decide +kernel
theorem dX0_mostInto_49 : decode cX0_mostInto 49 = .ok (.iload 4, 2) := by decide +kernel
theorem dX0_mostInto_51 : decode cX0_mostInto 51 = .ok (.invokestatic 166, 3) := by decide +kernel
theorem dX0_mostInto_54 : decode cX0_mostInto 54 = .ok (.ifCond .ne 5, 3) := by decide +kernel
theorem dX0_mostInto_57 : decode cX0_mostInto 57 = .ok (.iconst 0, 1) := by decide +kernel
theorem dX0_mostInto_58 : decode cX0_mostInto 58 = .ok (.ireturn, 1) := by decide +kernel
theorem dX0_mostInto_59 : decode cX0_mostInto 59 = .ok (.aload_n 3, 1) := by decide +kernel
theorem dX0_mostInto_60 : decode cX0_mostInto 60 = .ok (.getfield 54, 3) := by decide +kernel
theorem dX0_mostInto_63 : decode cX0_mostInto 63 = .ok (.aload_n 3, 1) := by decide +kernel
theorem dX0_mostInto_64 : decode cX0_mostInto 64 = .ok (.getfield 54, 3) := by decide +kernel
theorem dX0_mostInto_67 : decode cX0_mostInto 67 = .ok (.getfield 172, 3) := by decide +kernel
theorem dX0_mostInto_70 : decode cX0_mostInto 70 = .ok (.iconst 1, 1) := by decide +kernel
theorem dX0_mostInto_71 : decode cX0_mostInto 71 = .ok (.isub, 1) := by decide +kernel
theorem dX0_mostInto_72 : decode cX0_mostInto 72 = .ok (.invokevirtual 175, 3) := by decide +kernel
theorem dX0_mostInto_75 : decode cX0_mostInto 75 = .ok (.istore 5, 2) := by decide +kernel
theorem dX0_mostInto_77 : decode cX0_mostInto 77 = .ok (.aload_n 1, 1) := by decide +kernel
theorem dX0_mostInto_78 : decode cX0_mostInto 78 = .ok (.getfield 63, 3) := by decide +kernel
theorem dX0_mostInto_81 : decode cX0_mostInto 81 = .ok (.getfield 178, 3) := by decide +kernel
theorem dX0_mostInto_84 : decode cX0_mostInto 84 = .ok (.iload 4, 2) := by decide +kernel
theorem dX0_mostInto_86 : decode cX0_mostInto 86 = .ok (.iaload, 1) := by decide +kernel
theorem dX0_mostInto_87 : decode cX0_mostInto 87 = .ok (.iload 5, 2) := by decide +kernel
theorem dX0_mostInto_89 : decode cX0_mostInto 89 = .ok (.if_icmp .le 7, 3) := by decide +kernel
theorem dX0_mostInto_92 : decode cX0_mostInto 92 = .ok (.iconst 1, 1) := by decide +kernel
theorem dX0_mostInto_93 : decode cX0_mostInto 93 = .ok (.goto 4, 3) := by decide +kernel
theorem dX0_mostInto_96 : decode cX0_mostInto 96 = .ok (.iconst 0, 1) := by decide +kernel
theorem dX0_mostInto_97 : decode cX0_mostInto 97 = .ok (.istore 6, 2) := by decide +kernel
theorem dX0_mostInto_99 : decode cX0_mostInto 99 = .ok (.iload 6, 2) := by decide +kernel
theorem dX0_mostInto_101 : decode cX0_mostInto 101 = .ok (.ifCond .eq 7, 3) := by decide +kernel
theorem dX0_mostInto_104 : decode cX0_mostInto 104 = .ok (.iconst 0, 1) := by decide +kernel
theorem dX0_mostInto_105 : decode cX0_mostInto 105 = .ok (.goto 7, 3) := by decide +kernel
theorem dX0_mostInto_108 : decode cX0_mostInto 108 = .ok (.aload_n 3, 1) := by decide +kernel
theorem dX0_mostInto_109 : decode cX0_mostInto 109 = .ok (.getfield 157, 3) := by decide +kernel
theorem dX0_mostInto_112 : decode cX0_mostInto 112 = .ok (.ireturn, 1) := by decide +kernel
theorem dX1_init_0 : decode cX1_init 0 = .ok (.aload_n 0, 1) := by decide +kernel
theorem dX1_init_1 : decode cX1_init 1 = .ok (.invokespecial 3, 3) := by decide +kernel
theorem dX1_init_4 : decode cX1_init 4 = .ok (.aload_n 0, 1) := by decide +kernel
theorem dX1_init_5 : decode cX1_init 5 = .ok (.bipush 36, 2) := by decide +kernel
theorem dX1_init_7 : decode cX1_init 7 = .ok (.newarray .int, 2) := by decide +kernel
theorem dX1_init_9 : decode cX1_init 9 = .ok (.putfield 9, 3) := by decide +kernel
theorem dX1_init_12 : decode cX1_init 12 = .ok (.aload_n 0, 1) := by decide +kernel
theorem dX1_init_13 : decode cX1_init 13 = .ok (.bipush 36, 2) := by decide +kernel
theorem dX1_init_15 : decode cX1_init 15 = .ok (.newarray .int, 2) := by decide +kernel
theorem dX1_init_17 : decode cX1_init 17 = .ok (.putfield 15, 3) := by decide +kernel
theorem dX1_init_20 : decode cX1_init 20 = .ok (.aload_n 0, 1) := by decide +kernel
theorem dX1_init_21 : decode cX1_init 21 = .ok (.iconst 4, 1) := by decide +kernel
theorem dX1_init_22 : decode cX1_init 22 = .ok (.newarray .int, 2) := by decide +kernel
theorem dX1_init_24 : decode cX1_init 24 = .ok (.putfield 18, 3) := by decide +kernel
theorem dX1_init_27 : decode cX1_init 27 = .ok (.aload_n 0, 1) := by decide +kernel
theorem dX1_init_28 : decode cX1_init 28 = .ok (.iconst 4, 1) := by decide +kernel
theorem dX1_init_29 : decode cX1_init 29 = .ok (.newarray .int, 2) := by decide +kernel
theorem dX1_init_31 : decode cX1_init 31 = .ok (.putfield 21, 3) := by decide +kernel
theorem dX1_init_34 : decode cX1_init 34 = .ok (.aload_n 0, 1) := by decide +kernel
theorem dX1_init_35 : decode cX1_init 35 = .ok (.iconst 4, 1) := by decide +kernel
theorem dX1_init_36 : decode cX1_init 36 = .ok (.newarray .int, 2) := by decide +kernel
theorem dX1_init_38 : decode cX1_init 38 = .ok (.putfield 24, 3) := by decide +kernel
theorem dX1_init_41 : decode cX1_init 41 = .ok (.aload_n 0, 1) := by decide +kernel
theorem dX1_init_42 : decode cX1_init 42 = .ok (.iconst 4, 1) := by decide +kernel
theorem dX1_init_43 : decode cX1_init 43 = .ok (.newarray .int, 2) := by decide +kernel
theorem dX1_init_45 : decode cX1_init 45 = .ok (.putfield 27, 3) := by decide +kernel
theorem dX1_init_48 : decode cX1_init 48 = .ok (.aload_n 0, 1) := by decide +kernel
theorem dX1_init_49 : decode cX1_init 49 = .ok (.iconst 4, 1) := by decide +kernel
theorem dX1_init_50 : decode cX1_init 50 = .ok (.newarray .int, 2) := by decide +kernel
theorem dX1_init_52 : decode cX1_init 52 = .ok (.putfield 30, 3) := by decide +kernel
theorem dX1_init_55 : decode cX1_init 55 = .ok (.aload_n 0, 1) := by decide +kernel
theorem dX1_init_56 : decode cX1_init 56 = .ok (.iconst 1, 1) := by decide +kernel
theorem dX1_init_57 : decode cX1_init 57 = .ok (.putfield 33, 3) := by decide +kernel
theorem dX1_init_60 : decode cX1_init 60 = .ok (.aload_n 0, 1) := by decide +kernel
theorem dX1_init_61 : decode cX1_init 61 = .ok (.iconst 1, 1) := by decide +kernel
theorem dX1_init_62 : decode cX1_init 62 = .ok (.putfield 37, 3) := by decide +kernel
theorem dX1_init_65 : decode cX1_init 65 = .ok (.return_, 1) := by decide +kernel
theorem dX1_renew_0 : decode cX1_renew 0 = .ok (.aload_n 0, 1) := by decide +kernel
theorem dX1_renew_1 : decode cX1_renew 1 = .ok (.iload_n 2, 1) := by decide +kernel
theorem dX1_renew_2 : decode cX1_renew 2 = .ok (.putfield 33, 3) := by decide +kernel
theorem dX1_renew_5 : decode cX1_renew 5 = .ok (.aload_n 0, 1) := by decide +kernel
theorem dX1_renew_6 : decode cX1_renew 6 = .ok (.iload_n 1, 1) := by decide +kernel
theorem dX1_renew_7 : decode cX1_renew 7 = .ok (.iload_n 2, 1) := by decide +kernel
theorem dX1_renew_8 : decode cX1_renew 8 = .ok (.imul, 1) := by decide +kernel
theorem dX1_renew_9 : decode cX1_renew 9 = .ok (.putfield 37, 3) := by decide +kernel
theorem dX1_renew_12 : decode cX1_renew 12 = .ok (.aload_n 0, 1) := by decide +kernel
theorem dX1_renew_13 : decode cX1_renew 13 = .ok (.getfield 9, 3) := by decide +kernel
theorem dX1_renew_16 : decode cX1_renew 16 = .ok (.sipush 1000, 3) := by decide +kernel
theorem dX1_renew_19 : decode cX1_renew 19 = .ok (.invokestatic 40, 3) := by decide +kernel
theorem dX1_renew_22 : decode cX1_renew 22 = .ok (.aload_n 0, 1) := by decide +kernel
theorem dX1_renew_23 : decode cX1_renew 23 = .ok (.getfield 15, 3) := by decide +kernel
theorem dX1_renew_26 : decode cX1_renew 26 = .ok (.iconst 0, 1) := by decide +kernel
theorem dX1_renew_27 : decode cX1_renew 27 = .ok (.invokestatic 40, 3) := by decide +kernel
theorem dX1_renew_30 : decode cX1_renew 30 = .ok (.return_, 1) := by decide +kernel
theorem dX1_copyFrom_0 : decode cX1_copyFrom 0 = .ok (.aload_n 0, 1) := by decide +kernel
theorem dX1_copyFrom_1 : decode cX1_copyFrom 1 = .ok (.aload_n 1, 1) := by decide +kernel
theorem dX1_copyFrom_2 : decode cX1_copyFrom 2 = .ok (.getfield 33, 3) := by decide +kernel
theorem dX1_copyFrom_5 : decode cX1_copyFrom 5 = .ok (.putfield 33, 3) := by decide +kernel
theorem dX1_copyFrom_8 : decode cX1_copyFrom 8 = .ok (.aload_n 0, 1) := by decide +kernel
theorem dX1_copyFrom_9 : decode cX1_copyFrom 9 = .ok (.aload_n 1, 1) := by decide +kernel
theorem dX1_copyFrom_10 : decode cX1_copyFrom 10 = .ok (.getfield 37, 3) := by decide +kernel
theorem dX1_copyFrom_13 : decode cX1_copyFrom 13 = .ok (.putfield 37, 3) := by decide +kernel
theorem dX1_copyFrom_16 : decode cX1_copyFrom 16 = .ok (.aload_n 1, 1) := by decide +kernel
theorem dX1_copyFrom_17 : decode cX1_copyFrom 17 = .ok (.getfield 9, 3) := by decide +kernel
theorem dX1_copyFrom_20 : decode cX1_copyFrom 20 = .ok (.aload_n 0, 1) := by decide +kernel
theorem dX1_copyFrom_21 : decode cX1_copyFrom 21 = .ok (.getfield 9, 3) := by decide +kernel
theorem dX1_copyFrom_24 : decode cX1_copyFrom 24 = .ok (.invokestatic 44, 3) := by decide +kernel
theorem dX1_copyFrom_27 : decode cX1_copyFrom 27 = .ok (.aload_n 1, 1) := by decide +kernel
theorem dX1_copyFrom_28 : decode cX1_copyFrom 28 = .ok (.getfield 15, 3) := by decide +kernel
theorem dX1_copyFrom_31 : decode cX1_copyFrom 31 = .ok (.aload_n 0, 1) := by decide +kernel
theorem dX1_copyFrom_32 : decode cX1_copyFrom 32 = .ok (.getfield 15, 3) := by decide +kernel
theorem dX1_copyFrom_35 : decode cX1_copyFrom 35 = .ok (.invokestatic 44, 3) := by decide +kernel
theorem dX1_copyFrom_38 : decode cX1_copyFrom 38 = .ok (.aload_n 1, 1) := by decide +kernel
theorem dX1_copyFrom_39 : decode cX1_copyFrom 39 = .ok (.getfield 18, 3) := by decide +kernel
theorem dX1_copyFrom_42 : decode cX1_copyFrom 42 = .ok (.aload_n 0, 1) := by decide +kernel
theorem dX1_copyFrom_43 : decode cX1_copyFrom 43 = .ok (.getfield 18, 3) := by decide +kernel
theorem dX1_copyFrom_46 : decode cX1_copyFrom 46 = .ok (.invokestatic 44, 3) := by decide +kernel
theorem dX1_copyFrom_49 : decode cX1_copyFrom 49 = .ok (.aload_n 1, 1) := by decide +kernel
theorem dX1_copyFrom_50 : decode cX1_copyFrom 50 = .ok (.getfield 21, 3) := by decide +kernel
theorem dX1_copyFrom_53 : decode cX1_copyFrom 53 = .ok (.aload_n 0, 1) := by decide +kernel
theorem dX1_copyFrom_54 : decode cX1_copyFrom 54 = .ok (.getfield 21, 3) := by decide +kernel
theorem dX1_copyFrom_57 : decode cX1_copyFrom 57 = .ok (.invokestatic 44, 3) := by decide +kernel
theorem dX1_copyFrom_60 : decode cX1_copyFrom 60 = .ok (.aload_n 1, 1) := by decide +kernel
theorem dX1_copyFrom_61 : decode cX1_copyFrom 61 = .ok (.getfield 24, 3) := by decide +kernel
theorem dX1_copyFrom_64 : decode cX1_copyFrom 64 = .ok (.aload_n 0, 1) := by decide +kernel
theorem dX1_copyFrom_65 : decode cX1_copyFrom 65 = .ok (.getfield 24, 3) := by decide +kernel
theorem dX1_copyFrom_68 : decode cX1_copyFrom 68 = .ok (.invokestatic 44, 3) := by decide +kernel
theorem dX1_copyFrom_71 : decode cX1_copyFrom 71 = .ok (.aload_n 1, 1) := by decide +kernel
theorem dX1_copyFrom_72 : decode cX1_copyFrom 72 = .ok (.getfield 27, 3) := by decide +kernel
theorem dX1_copyFrom_75 : decode cX1_copyFrom 75 = .ok (.aload_n 0, 1) := by decide +kernel
theorem dX1_copyFrom_76 : decode cX1_copyFrom 76 = .ok (.getfield 27, 3) := by decide +kernel
theorem dX1_copyFrom_79 : decode cX1_copyFrom 79 = .ok (.invokestatic 44, 3) := by decide +kernel
theorem dX1_copyFrom_82 : decode cX1_copyFrom 82 = .ok (.aload_n 1, 1) := by decide +kernel
theorem dX1_copyFrom_83 : decode cX1_copyFrom 83 = .ok (.getfield 30, 3) := by decide +kernel
theorem dX1_copyFrom_86 : decode cX1_copyFrom 86 = .ok (.aload_n 0, 1) := by decide +kernel
theorem dX1_copyFrom_87 : decode cX1_copyFrom 87 = .ok (.getfield 30, 3) := by decide +kernel
theorem dX1_copyFrom_90 : decode cX1_copyFrom 90 = .ok (.invokestatic 44, 3) := by decide +kernel
theorem dX1_copyFrom_93 : decode cX1_copyFrom 93 = .ok (.return_, 1) := by decide +kernel
theorem dX1_hasPlace_0 : decode cX1_hasPlace 0 = .ok (.iload_n 1, 1) := by decide +kernel
theorem dX1_hasPlace_1 : decode cX1_hasPlace 1 = .ok (.ifCond .lt 15, 3) := by decide +kernel
theorem dX1_hasPlace_4 : decode cX1_hasPlace 4 = .ok (.iload_n 1, 1) := by decide +kernel
theorem dX1_hasPlace_5 : decode cX1_hasPlace 5 = .ok (.aload_n 0, 1) := by decide +kernel
theorem dX1_hasPlace_6 : decode cX1_hasPlace 6 = .ok (.getfield 37, 3) := by decide +kernel
theorem dX1_hasPlace_9 : decode cX1_hasPlace 9 = .ok (.if_icmp .ge 7, 3) := by decide +kernel
theorem dX1_hasPlace_12 : decode cX1_hasPlace 12 = .ok (.iconst 1, 1) := by decide +kernel
theorem dX1_hasPlace_13 : decode cX1_hasPlace 13 = .ok (.goto 4, 3) := by decide +kernel
theorem dX1_hasPlace_16 : decode cX1_hasPlace 16 = .ok (.iconst 0, 1) := by decide +kernel
theorem dX1_hasPlace_17 : decode cX1_hasPlace 17 = .ok (.ireturn, 1) := by decide +kernel
theorem dX1_rowOf_0 : decode cX1_rowOf 0 = .ok (.aload_n 0, 1) := by decide +kernel
theorem dX1_rowOf_1 : decode cX1_rowOf 1 = .ok (.getfield 33, 3) := by decide +kernel
theorem dX1_rowOf_4 : decode cX1_rowOf 4 = .ok (.ifCond .le 12, 3) := by decide +kernel
theorem dX1_rowOf_7 : decode cX1_rowOf 7 = .ok (.iload_n 1, 1) := by decide +kernel
theorem dX1_rowOf_8 : decode cX1_rowOf 8 = .ok (.aload_n 0, 1) := by decide +kernel
theorem dX1_rowOf_9 : decode cX1_rowOf 9 = .ok (.getfield 33, 3) := by decide +kernel
theorem dX1_rowOf_12 : decode cX1_rowOf 12 = .ok (.idiv, 1) := by decide +kernel
theorem dX1_rowOf_13 : decode cX1_rowOf 13 = .ok (.goto 4, 3) := by decide +kernel
theorem dX1_rowOf_16 : decode cX1_rowOf 16 = .ok (.iconst 0, 1) := by decide +kernel
theorem dX1_rowOf_17 : decode cX1_rowOf 17 = .ok (.ireturn, 1) := by decide +kernel
theorem dX1_rowsApart_0 : decode cX1_rowsApart 0 = .ok (.aload_n 0, 1) := by decide +kernel
theorem dX1_rowsApart_1 : decode cX1_rowsApart 1 = .ok (.iload_n 1, 1) := by decide +kernel
theorem dX1_rowsApart_2 : decode cX1_rowsApart 2 = .ok (.invokevirtual 48, 3) := by decide +kernel
theorem dX1_rowsApart_5 : decode cX1_rowsApart 5 = .ok (.aload_n 0, 1) := by decide +kernel
theorem dX1_rowsApart_6 : decode cX1_rowsApart 6 = .ok (.iload_n 2, 1) := by decide +kernel
theorem dX1_rowsApart_7 : decode cX1_rowsApart 7 = .ok (.invokevirtual 48, 3) := by decide +kernel
theorem dX1_rowsApart_10 : decode cX1_rowsApart 10 = .ok (.isub, 1) := by decide +kernel
theorem dX1_rowsApart_11 : decode cX1_rowsApart 11 = .ok (.invokestatic 52, 3) := by decide +kernel
theorem dX1_rowsApart_14 : decode cX1_rowsApart 14 = .ok (.ireturn, 1) := by decide +kernel
theorem dX1_columnsApart_0 : decode cX1_columnsApart 0 = .ok (.iload_n 1, 1) := by decide +kernel
theorem dX1_columnsApart_1 : decode cX1_columnsApart 1 = .ok (.aload_n 0, 1) := by decide +kernel
theorem dX1_columnsApart_2 : decode cX1_columnsApart 2 = .ok (.iload_n 1, 1) := by decide +kernel
theorem dX1_columnsApart_3 : decode cX1_columnsApart 3 = .ok (.invokevirtual 48, 3) := by decide +kernel
theorem dX1_columnsApart_6 : decode cX1_columnsApart 6 = .ok (.aload_n 0, 1) := by decide +kernel
theorem dX1_columnsApart_7 : decode cX1_columnsApart 7 = .ok (.getfield 33, 3) := by decide +kernel
theorem dX1_columnsApart_10 : decode cX1_columnsApart 10 = .ok (.imul, 1) := by decide +kernel
theorem dX1_columnsApart_11 : decode cX1_columnsApart 11 = .ok (.isub, 1) := by decide +kernel
theorem dX1_columnsApart_12 : decode cX1_columnsApart 12 = .ok (.iload_n 2, 1) := by decide +kernel
theorem dX1_columnsApart_13 : decode cX1_columnsApart 13 = .ok (.aload_n 0, 1) := by decide +kernel
theorem dX1_columnsApart_14 : decode cX1_columnsApart 14 = .ok (.iload_n 2, 1) := by decide +kernel
theorem dX1_columnsApart_15 : decode cX1_columnsApart 15 = .ok (.invokevirtual 48, 3) := by decide +kernel
theorem dX1_columnsApart_18 : decode cX1_columnsApart 18 = .ok (.aload_n 0, 1) := by decide +kernel
theorem dX1_columnsApart_19 : decode cX1_columnsApart 19 = .ok (.getfield 33, 3) := by decide +kernel
theorem dX1_columnsApart_22 : decode cX1_columnsApart 22 = .ok (.imul, 1) := by decide +kernel
theorem dX1_columnsApart_23 : decode cX1_columnsApart 23 = .ok (.isub, 1) := by decide +kernel
theorem dX1_columnsApart_24 : decode cX1_columnsApart 24 = .ok (.isub, 1) := by decide +kernel
theorem dX1_columnsApart_25 : decode cX1_columnsApart 25 = .ok (.invokestatic 52, 3) := by decide +kernel
theorem dX1_columnsApart_28 : decode cX1_columnsApart 28 = .ok (.ireturn, 1) := by decide +kernel
theorem dX1_areInLine_0 : decode cX1_areInLine 0 = .ok (.aload_n 0, 1) := by decide +kernel
theorem dX1_areInLine_1 : decode cX1_areInLine 1 = .ok (.iload_n 1, 1) := by decide +kernel
theorem dX1_areInLine_2 : decode cX1_areInLine 2 = .ok (.iload_n 2, 1) := by decide +kernel
theorem dX1_areInLine_3 : decode cX1_areInLine 3 = .ok (.invokevirtual 57, 3) := by decide +kernel
theorem dX1_areInLine_6 : decode cX1_areInLine 6 = .ok (.ifCond .eq 12, 3) := by decide +kernel
theorem dX1_areInLine_9 : decode cX1_areInLine 9 = .ok (.aload_n 0, 1) := by decide +kernel
theorem dX1_areInLine_10 : decode cX1_areInLine 10 = .ok (.iload_n 1, 1) := by decide +kernel
theorem dX1_areInLine_11 : decode cX1_areInLine 11 = .ok (.iload_n 2, 1) := by decide +kernel
theorem dX1_areInLine_12 : decode cX1_areInLine 12 = .ok (.invokevirtual 61, 3) := by decide +kernel
theorem dX1_areInLine_15 : decode cX1_areInLine 15 = .ok (.ifCond .ne 7, 3) := by decide +kernel
theorem dX1_areInLine_18 : decode cX1_areInLine 18 = .ok (.iconst 1, 1) := by decide +kernel
theorem dX1_areInLine_19 : decode cX1_areInLine 19 = .ok (.goto 4, 3) := by decide +kernel
theorem dX1_areInLine_22 : decode cX1_areInLine 22 = .ok (.iconst 0, 1) := by decide +kernel
theorem dX1_areInLine_23 : decode cX1_areInLine 23 = .ok (.ireturn, 1) := by decide +kernel
theorem dX1_coverAt_0 : decode cX1_coverAt 0 = .ok (.aload_n 0, 1) := by decide +kernel
theorem dX1_coverAt_1 : decode cX1_coverAt 1 = .ok (.getfield 9, 3) := by decide +kernel
theorem dX1_coverAt_4 : decode cX1_coverAt 4 = .ok (.aload_n 1, 1) := by decide +kernel
theorem dX1_coverAt_5 : decode cX1_coverAt 5 = .ok (.iload_n 2, 1) := by decide +kernel
theorem dX1_coverAt_6 : decode cX1_coverAt 6 = .ok (.invokevirtual 64, 3) := by decide +kernel
theorem dX1_coverAt_9 : decode cX1_coverAt 9 = .ok (.invokestatic 69, 3) := by decide +kernel
theorem dX1_coverAt_12 : decode cX1_coverAt 12 = .ok (.aload_n 1, 1) := by decide +kernel
theorem dX1_coverAt_13 : decode cX1_coverAt 13 = .ok (.iload_n 2, 1) := by decide +kernel
theorem dX1_coverAt_14 : decode cX1_coverAt 14 = .ok (.invokevirtual 73, 3) := by decide +kernel
theorem dX1_coverAt_17 : decode cX1_coverAt 17 = .ok (.isub, 1) := by decide +kernel
theorem dX1_coverAt_18 : decode cX1_coverAt 18 = .ok (.ireturn, 1) := by decide +kernel
theorem dX1_firstBareStep_0 : decode cX1_firstBareStep 0 = .ok (.iconst 0, 1) := by decide +kernel
theorem dX1_firstBareStep_1 : decode cX1_firstBareStep 1 = .ok (.istore_n 2, 1) := by decide +kernel
theorem dX1_firstBareStep_2 : decode cX1_firstBareStep 2 = .ok (.iload_n 2, 1) := by decide +kernel
theorem dX1_firstBareStep_3 : decode cX1_firstBareStep 3 = .ok (.aload_n 1, 1) := by decide +kernel
theorem dX1_firstBareStep_4 : decode cX1_firstBareStep 4 = .ok (.getfield 76, 3) := by decide +kernel
theorem dX1_firstBareStep_7 : decode cX1_firstBareStep 7 = .ok (.if_icmp .ge 30, 3) := by decide +kernel
theorem dX1_firstBareStep_10 : decode cX1_firstBareStep 10 = .ok (.aload_n 0, 1) := by decide +kernel
theorem dX1_firstBareStep_11 : decode cX1_firstBareStep 11 = .ok (.aload_n 1, 1) := by decide +kernel
theorem dX1_firstBareStep_12 : decode cX1_firstBareStep 12 = .ok (.iload_n 2, 1) := by decide +kernel
theorem dX1_firstBareStep_13 : decode cX1_firstBareStep 13 = .ok (.invokevirtual 79, 3) := by decide +kernel
theorem dX1_firstBareStep_16 : decode cX1_firstBareStep 16 = .ok (.bipush 60, 2) := by decide +kernel
theorem dX1_firstBareStep_18 : decode cX1_firstBareStep 18 = .ok (.if_icmp .lt 11, 3) := by decide +kernel
theorem dX1_firstBareStep_21 : decode cX1_firstBareStep 21 = .ok (.aload_n 1, 1) := by decide +kernel
theorem dX1_firstBareStep_22 : decode cX1_firstBareStep 22 = .ok (.iload_n 2, 1) := by decide +kernel
theorem dX1_firstBareStep_23 : decode cX1_firstBareStep 23 = .ok (.invokevirtual 73, 3) := by decide +kernel
theorem dX1_firstBareStep_26 : decode cX1_firstBareStep 26 = .ok (.ifCond .ge 5, 3) := by decide +kernel
theorem dX1_firstBareStep_29 : decode cX1_firstBareStep 29 = .ok (.iload_n 2, 1) := by decide +kernel
theorem dX1_firstBareStep_30 : decode cX1_firstBareStep 30 = .ok (.ireturn, 1) := by decide +kernel
theorem dX1_firstBareStep_31 : decode cX1_firstBareStep 31 = .ok (.iinc 2 1, 3) := by decide +kernel
theorem dX1_firstBareStep_34 : decode cX1_firstBareStep 34 = .ok (.goto (-32), 3) := by decide +kernel
theorem dX1_firstBareStep_37 : decode cX1_firstBareStep 37 = .ok (.iconst (-1), 1) := by decide +kernel
theorem dX1_firstBareStep_38 : decode cX1_firstBareStep 38 = .ok (.ireturn, 1) := by decide +kernel
theorem dX1_isReachedBy_0 : decode cX1_isReachedBy 0 = .ok (.aload_n 0, 1) := by decide +kernel
theorem dX1_isReachedBy_1 : decode cX1_isReachedBy 1 = .ok (.getfield 27, 3) := by decide +kernel
theorem dX1_isReachedBy_4 : decode cX1_isReachedBy 4 = .ok (.aload_n 0, 1) := by decide +kernel
theorem dX1_isReachedBy_5 : decode cX1_isReachedBy 5 = .ok (.getfield 15, 3) := by decide +kernel
theorem dX1_isReachedBy_8 : decode cX1_isReachedBy 8 = .ok (.iload_n 1, 1) := by decide +kernel
theorem dX1_isReachedBy_9 : decode cX1_isReachedBy 9 = .ok (.iaload, 1) := by decide +kernel
theorem dX1_isReachedBy_10 : decode cX1_isReachedBy 10 = .ok (.invokestatic 69, 3) := by decide +kernel
theorem dX1_isReachedBy_13 : decode cX1_isReachedBy 13 = .ok (.istore_n 3, 1) := by decide +kernel
theorem dX1_isReachedBy_14 : decode cX1_isReachedBy 14 = .ok (.iconst 0, 1) := by decide +kernel
theorem dX1_isReachedBy_15 : decode cX1_isReachedBy 15 = .ok (.istore 4, 2) := by decide +kernel
theorem dX1_isReachedBy_17 : decode cX1_isReachedBy 17 = .ok (.iload 4, 2) := by decide +kernel
theorem dX1_isReachedBy_19 : decode cX1_isReachedBy 19 = .ok (.aload_n 2, 1) := by decide +kernel
theorem dX1_isReachedBy_20 : decode cX1_isReachedBy 20 = .ok (.getfield 76, 3) := by decide +kernel
theorem dX1_isReachedBy_23 : decode cX1_isReachedBy 23 = .ok (.if_icmp .ge 52, 3) := by decide +kernel
theorem dX1_isReachedBy_26 : decode cX1_isReachedBy 26 = .ok (.aload_n 0, 1) := by decide +kernel
theorem dX1_isReachedBy_27 : decode cX1_isReachedBy 27 = .ok (.iload_n 1, 1) := by decide +kernel
theorem dX1_isReachedBy_28 : decode cX1_isReachedBy 28 = .ok (.aload_n 2, 1) := by decide +kernel
theorem dX1_isReachedBy_29 : decode cX1_isReachedBy 29 = .ok (.iload 4, 2) := by decide +kernel
theorem dX1_isReachedBy_31 : decode cX1_isReachedBy 31 = .ok (.invokevirtual 64, 3) := by decide +kernel
theorem dX1_isReachedBy_34 : decode cX1_isReachedBy 34 = .ok (.invokevirtual 57, 3) := by decide +kernel
theorem dX1_isReachedBy_37 : decode cX1_isReachedBy 37 = .ok (.istore 5, 2) := by decide +kernel
theorem dX1_isReachedBy_39 : decode cX1_isReachedBy 39 = .ok (.aload_n 0, 1) := by decide +kernel
theorem dX1_isReachedBy_40 : decode cX1_isReachedBy 40 = .ok (.iload_n 1, 1) := by decide +kernel
theorem dX1_isReachedBy_41 : decode cX1_isReachedBy 41 = .ok (.aload_n 2, 1) := by decide +kernel
theorem dX1_isReachedBy_42 : decode cX1_isReachedBy 42 = .ok (.iload 4, 2) := by decide +kernel
theorem dX1_isReachedBy_44 : decode cX1_isReachedBy 44 = .ok (.invokevirtual 64, 3) := by decide +kernel
theorem dX1_isReachedBy_47 : decode cX1_isReachedBy 47 = .ok (.invokevirtual 61, 3) := by decide +kernel
theorem dX1_isReachedBy_50 : decode cX1_isReachedBy 50 = .ok (.istore 6, 2) := by decide +kernel
theorem dX1_isReachedBy_52 : decode cX1_isReachedBy 52 = .ok (.iload 5, 2) := by decide +kernel
theorem dX1_isReachedBy_54 : decode cX1_isReachedBy 54 = .ok (.iload 5, 2) := by decide +kernel
theorem dX1_isReachedBy_56 : decode cX1_isReachedBy 56 = .ok (.imul, 1) := by decide +kernel
theorem dX1_isReachedBy_57 : decode cX1_isReachedBy 57 = .ok (.iload 6, 2) := by decide +kernel
theorem dX1_isReachedBy_59 : decode cX1_isReachedBy 59 = .ok (.iload 6, 2) := by decide +kernel
theorem dX1_isReachedBy_61 : decode cX1_isReachedBy 61 = .ok (.imul, 1) := by decide +kernel
theorem dX1_isReachedBy_62 : decode cX1_isReachedBy 62 = .ok (.iadd, 1) := by decide +kernel
theorem dX1_isReachedBy_63 : decode cX1_isReachedBy 63 = .ok (.iload_n 3, 1) := by decide +kernel
theorem dX1_isReachedBy_64 : decode cX1_isReachedBy 64 = .ok (.if_icmp .gt 5, 3) := by decide +kernel
theorem dX1_isReachedBy_67 : decode cX1_isReachedBy 67 = .ok (.iconst 1, 1) := by decide +kernel
theorem dX1_isReachedBy_68 : decode cX1_isReachedBy 68 = .ok (.ireturn, 1) := by decide +kernel
theorem dX1_isReachedBy_69 : decode cX1_isReachedBy 69 = .ok (.iinc 4 1, 3) := by decide +kernel
theorem dX1_isReachedBy_72 : decode cX1_isReachedBy 72 = .ok (.goto (-55), 3) := by decide +kernel
theorem dX1_isReachedBy_75 : decode cX1_isReachedBy 75 = .ok (.iconst 0, 1) := by decide +kernel
theorem dX1_isReachedBy_76 : decode cX1_isReachedBy 76 = .ok (.ireturn, 1) := by decide +kernel
theorem dX1_costBetween_0 : decode cX1_costBetween 0 = .ok (.bipush 10, 2) := by decide +kernel
theorem dX1_costBetween_2 : decode cX1_costBetween 2 = .ok (.aload_n 0, 1) := by decide +kernel
theorem dX1_costBetween_3 : decode cX1_costBetween 3 = .ok (.iload_n 1, 1) := by decide +kernel
theorem dX1_costBetween_4 : decode cX1_costBetween 4 = .ok (.iload_n 2, 1) := by decide +kernel
theorem dX1_costBetween_5 : decode cX1_costBetween 5 = .ok (.invokevirtual 57, 3) := by decide +kernel
theorem dX1_costBetween_8 : decode cX1_costBetween 8 = .ok (.aload_n 0, 1) := by decide +kernel
theorem dX1_costBetween_9 : decode cX1_costBetween 9 = .ok (.iload_n 1, 1) := by decide +kernel
theorem dX1_costBetween_10 : decode cX1_costBetween 10 = .ok (.iload_n 2, 1) := by decide +kernel
theorem dX1_costBetween_11 : decode cX1_costBetween 11 = .ok (.invokevirtual 61, 3) := by decide +kernel
theorem dX1_costBetween_14 : decode cX1_costBetween 14 = .ok (.iadd, 1) := by decide +kernel
theorem dX1_costBetween_15 : decode cX1_costBetween 15 = .ok (.imul, 1) := by decide +kernel
theorem dX1_costBetween_16 : decode cX1_costBetween 16 = .ok (.aload_n 0, 1) := by decide +kernel
theorem dX1_costBetween_17 : decode cX1_costBetween 17 = .ok (.getfield 9, 3) := by decide +kernel
theorem dX1_costBetween_20 : decode cX1_costBetween 20 = .ok (.iload_n 1, 1) := by decide +kernel
theorem dX1_costBetween_21 : decode cX1_costBetween 21 = .ok (.iaload, 1) := by decide +kernel
theorem dX1_costBetween_22 : decode cX1_costBetween 22 = .ok (.aload_n 0, 1) := by decide +kernel
theorem dX1_costBetween_23 : decode cX1_costBetween 23 = .ok (.getfield 9, 3) := by decide +kernel
theorem dX1_costBetween_26 : decode cX1_costBetween 26 = .ok (.iload_n 2, 1) := by decide +kernel
theorem dX1_costBetween_27 : decode cX1_costBetween 27 = .ok (.iaload, 1) := by decide +kernel
theorem dX1_costBetween_28 : decode cX1_costBetween 28 = .ok (.isub, 1) := by decide +kernel
theorem dX1_costBetween_29 : decode cX1_costBetween 29 = .ok (.invokestatic 52, 3) := by decide +kernel
theorem dX1_costBetween_32 : decode cX1_costBetween 32 = .ok (.iadd, 1) := by decide +kernel
theorem dX1_costBetween_33 : decode cX1_costBetween 33 = .ok (.ireturn, 1) := by decide +kernel
theorem dX2_init_0 : decode cX2_init 0 = .ok (.aload_n 0, 1) := by decide +kernel
theorem dX2_init_1 : decode cX2_init 1 = .ok (.invokespecial 1, 3) := by decide +kernel
theorem dX2_init_4 : decode cX2_init 4 = .ok (.return_, 1) := by decide +kernel
theorem dX2_has_0 : decode cX2_has 0 = .ok (.aload_n 0, 1) := by decide +kernel
theorem dX2_has_1 : decode cX2_has 1 = .ok (.getfield 7, 3) := by decide +kernel
theorem dX2_has_4 : decode cX2_has 4 = .ok (.iload_n 1, 1) := by decide +kernel
theorem dX2_has_5 : decode cX2_has 5 = .ok (.lushr, 1) := by decide +kernel
theorem dX2_has_6 : decode cX2_has 6 = .ok (.lconst 1, 1) := by decide +kernel
theorem dX2_has_7 : decode cX2_has 7 = .ok (.land, 1) := by decide +kernel
theorem dX2_has_8 : decode cX2_has 8 = .ok (.lconst 0, 1) := by decide +kernel
theorem dX2_has_9 : decode cX2_has 9 = .ok (.lcmp, 1) := by decide +kernel
theorem dX2_has_10 : decode cX2_has 10 = .ok (.ifCond .eq 7, 3) := by decide +kernel
theorem dX2_has_13 : decode cX2_has 13 = .ok (.iconst 1, 1) := by decide +kernel
theorem dX2_has_14 : decode cX2_has 14 = .ok (.goto 4, 3) := by decide +kernel
theorem dX2_has_17 : decode cX2_has 17 = .ok (.iconst 0, 1) := by decide +kernel
theorem dX2_has_18 : decode cX2_has 18 = .ok (.ireturn, 1) := by decide +kernel
theorem dX2_put_0 : decode cX2_put 0 = .ok (.aload_n 0, 1) := by decide +kernel
theorem dX2_put_1 : decode cX2_put 1 = .ok (.iload_n 1, 1) := by decide +kernel
theorem dX2_put_2 : decode cX2_put 2 = .ok (.invokevirtual 13, 3) := by decide +kernel
theorem dX2_put_5 : decode cX2_put 5 = .ok (.iload_n 2, 1) := by decide +kernel
theorem dX2_put_6 : decode cX2_put 6 = .ok (.if_icmp .ne 5, 3) := by decide +kernel
theorem dX2_put_9 : decode cX2_put 9 = .ok (.iconst 0, 1) := by decide +kernel
theorem dX2_put_10 : decode cX2_put 10 = .ok (.ireturn, 1) := by decide +kernel
theorem dX2_put_11 : decode cX2_put 11 = .ok (.aload_n 0, 1) := by decide +kernel
theorem dX2_put_12 : decode cX2_put 12 = .ok (.aload_n 0, 1) := by decide +kernel
theorem dX2_put_13 : decode cX2_put 13 = .ok (.getfield 7, 3) := by decide +kernel
theorem dX2_put_16 : decode cX2_put 16 = .ok (.lconst 1, 1) := by decide +kernel
theorem dX2_put_17 : decode cX2_put 17 = .ok (.iload_n 1, 1) := by decide +kernel
theorem dX2_put_18 : decode cX2_put 18 = .ok (.lshl, 1) := by decide +kernel
theorem dX2_put_19 : decode cX2_put 19 = .ok (.lxor, 1) := by decide +kernel
theorem dX2_put_20 : decode cX2_put 20 = .ok (.putfield 7, 3) := by decide +kernel
theorem dX2_put_23 : decode cX2_put 23 = .ok (.iconst 1, 1) := by decide +kernel
theorem dX2_put_24 : decode cX2_put 24 = .ok (.ireturn, 1) := by decide +kernel
theorem dX2_size_0 : decode cX2_size 0 = .ok (.aload_n 0, 1) := by decide +kernel
theorem dX2_size_1 : decode cX2_size 1 = .ok (.getfield 7, 3) := by decide +kernel
theorem dX2_size_4 : decode cX2_size 4 = .ok (.invokestatic 17, 3) := by decide +kernel
theorem dX2_size_7 : decode cX2_size 7 = .ok (.ireturn, 1) := by decide +kernel
theorem dX2_clear_0 : decode cX2_clear 0 = .ok (.aload_n 0, 1) := by decide +kernel
theorem dX2_clear_1 : decode cX2_clear 1 = .ok (.lconst 0, 1) := by decide +kernel
theorem dX2_clear_2 : decode cX2_clear 2 = .ok (.putfield 7, 3) := by decide +kernel
theorem dX2_clear_5 : decode cX2_clear 5 = .ok (.return_, 1) := by decide +kernel
theorem dX2_copyFrom_0 : decode cX2_copyFrom 0 = .ok (.aload_n 0, 1) := by decide +kernel
theorem dX2_copyFrom_1 : decode cX2_copyFrom 1 = .ok (.aload_n 1, 1) := by decide +kernel
theorem dX2_copyFrom_2 : decode cX2_copyFrom 2 = .ok (.getfield 7, 3) := by decide +kernel
theorem dX2_copyFrom_5 : decode cX2_copyFrom 5 = .ok (.putfield 7, 3) := by decide +kernel
theorem dX2_copyFrom_8 : decode cX2_copyFrom 8 = .ok (.return_, 1) := by decide +kernel
theorem dX3_init_0 : decode cX3_init 0 = .ok (.aload_n 0, 1) := by decide +kernel
theorem dX3_init_1 : decode cX3_init 1 = .ok (.invokespecial 1, 3) := by decide +kernel
theorem dX3_init_4 : decode cX3_init 4 = .ok (.return_, 1) := by decide +kernel
theorem dX3_set_0 : decode cX3_set 0 = .ok (.aload_n 0, 1) := by decide +kernel
theorem dX3_set_1 : decode cX3_set 1 = .ok (.iload_n 1, 1) := by decide +kernel
theorem dX3_set_2 : decode cX3_set 2 = .ok (.putfield 7, 3) := by decide +kernel
theorem dX3_set_5 : decode cX3_set 5 = .ok (.aload_n 0, 1) := by decide +kernel
theorem dX3_set_6 : decode cX3_set 6 = .ok (.iload_n 2, 1) := by decide +kernel
theorem dX3_set_7 : decode cX3_set 7 = .ok (.putfield 13, 3) := by decide +kernel
theorem dX3_set_10 : decode cX3_set 10 = .ok (.aload_n 0, 1) := by decide +kernel
theorem dX3_set_11 : decode cX3_set 11 = .ok (.iload_n 3, 1) := by decide +kernel
theorem dX3_set_12 : decode cX3_set 12 = .ok (.putfield 16, 3) := by decide +kernel
theorem dX3_set_15 : decode cX3_set 15 = .ok (.aload_n 0, 1) := by decide +kernel
theorem dX3_set_16 : decode cX3_set 16 = .ok (.iload 4, 2) := by decide +kernel
theorem dX3_set_18 : decode cX3_set 18 = .ok (.putfield 19, 3) := by decide +kernel
theorem dX3_set_21 : decode cX3_set 21 = .ok (.aload_n 0, 1) := by decide +kernel
theorem dX3_set_22 : decode cX3_set 22 = .ok (.iload 5, 2) := by decide +kernel
theorem dX3_set_24 : decode cX3_set 24 = .ok (.putfield 22, 3) := by decide +kernel
theorem dX3_set_27 : decode cX3_set 27 = .ok (.return_, 1) := by decide +kernel
theorem dX3_clear_0 : decode cX3_clear 0 = .ok (.aload_n 0, 1) := by decide +kernel
theorem dX3_clear_1 : decode cX3_clear 1 = .ok (.iconst 0, 1) := by decide +kernel
theorem dX3_clear_2 : decode cX3_clear 2 = .ok (.iconst 0, 1) := by decide +kernel
theorem dX3_clear_3 : decode cX3_clear 3 = .ok (.iconst 0, 1) := by decide +kernel
theorem dX3_clear_4 : decode cX3_clear 4 = .ok (.iconst 0, 1) := by decide +kernel
theorem dX3_clear_5 : decode cX3_clear 5 = .ok (.iconst 0, 1) := by decide +kernel
theorem dX3_clear_6 : decode cX3_clear 6 = .ok (.invokevirtual 25, 3) := by decide +kernel
theorem dX3_clear_9 : decode cX3_clear 9 = .ok (.return_, 1) := by decide +kernel
theorem dX3_copyFrom_0 : decode cX3_copyFrom 0 = .ok (.aload_n 0, 1) := by decide +kernel
theorem dX3_copyFrom_1 : decode cX3_copyFrom 1 = .ok (.aload_n 1, 1) := by decide +kernel
theorem dX3_copyFrom_2 : decode cX3_copyFrom 2 = .ok (.getfield 7, 3) := by decide +kernel
theorem dX3_copyFrom_5 : decode cX3_copyFrom 5 = .ok (.aload_n 1, 1) := by decide +kernel
theorem dX3_copyFrom_6 : decode cX3_copyFrom 6 = .ok (.getfield 13, 3) := by decide +kernel
theorem dX3_copyFrom_9 : decode cX3_copyFrom 9 = .ok (.aload_n 1, 1) := by decide +kernel
theorem dX3_copyFrom_10 : decode cX3_copyFrom 10 = .ok (.getfield 16, 3) := by decide +kernel
theorem dX3_copyFrom_13 : decode cX3_copyFrom 13 = .ok (.aload_n 1, 1) := by decide +kernel
theorem dX3_copyFrom_14 : decode cX3_copyFrom 14 = .ok (.getfield 19, 3) := by decide +kernel
theorem dX3_copyFrom_17 : decode cX3_copyFrom 17 = .ok (.aload_n 1, 1) := by decide +kernel
theorem dX3_copyFrom_18 : decode cX3_copyFrom 18 = .ok (.getfield 22, 3) := by decide +kernel
theorem dX3_copyFrom_21 : decode cX3_copyFrom 21 = .ok (.invokevirtual 25, 3) := by decide +kernel
theorem dX3_copyFrom_24 : decode cX3_copyFrom 24 = .ok (.return_, 1) := by decide +kernel
theorem dX3_placeAt_0 : decode cX3_placeAt 0 = .ok (.aload_n 0, 1) := by decide +kernel
theorem dX3_placeAt_1 : decode cX3_placeAt 1 = .ok (.getfield 7, 3) := by decide +kernel
theorem dX3_placeAt_4 : decode cX3_placeAt 4 = .ok (.iload_n 1, 1) := by decide +kernel
theorem dX3_placeAt_5 : decode cX3_placeAt 5 = .ok (.aload_n 0, 1) := by decide +kernel
theorem dX3_placeAt_6 : decode cX3_placeAt 6 = .ok (.getfield 13, 3) := by decide +kernel
theorem dX3_placeAt_9 : decode cX3_placeAt 9 = .ok (.imul, 1) := by decide +kernel
theorem dX3_placeAt_10 : decode cX3_placeAt 10 = .ok (.iadd, 1) := by decide +kernel
theorem dX3_placeAt_11 : decode cX3_placeAt 11 = .ok (.ireturn, 1) := by decide +kernel
theorem dX3_levelAt_0 : decode cX3_levelAt 0 = .ok (.aload_n 0, 1) := by decide +kernel
theorem dX3_levelAt_1 : decode cX3_levelAt 1 = .ok (.getfield 19, 3) := by decide +kernel
theorem dX3_levelAt_4 : decode cX3_levelAt 4 = .ok (.iload_n 1, 1) := by decide +kernel
theorem dX3_levelAt_5 : decode cX3_levelAt 5 = .ok (.aload_n 0, 1) := by decide +kernel
theorem dX3_levelAt_6 : decode cX3_levelAt 6 = .ok (.getfield 22, 3) := by decide +kernel
theorem dX3_levelAt_9 : decode cX3_levelAt 9 = .ok (.imul, 1) := by decide +kernel
theorem dX3_levelAt_10 : decode cX3_levelAt 10 = .ok (.isub, 1) := by decide +kernel
theorem dX3_levelAt_11 : decode cX3_levelAt 11 = .ok (.ireturn, 1) := by decide +kernel
theorem dX3_stepOn_0 : decode cX3_stepOn 0 = .ok (.iconst 0, 1) := by decide +kernel
theorem dX3_stepOn_1 : decode cX3_stepOn 1 = .ok (.istore_n 2, 1) := by decide +kernel
theorem dX3_stepOn_2 : decode cX3_stepOn 2 = .ok (.iload_n 2, 1) := by decide +kernel
theorem dX3_stepOn_3 : decode cX3_stepOn 3 = .ok (.aload_n 0, 1) := by decide +kernel
theorem dX3_stepOn_4 : decode cX3_stepOn 4 = .ok (.getfield 16, 3) := by decide +kernel
theorem dX3_stepOn_7 : decode cX3_stepOn 7 = .ok (.if_icmp .ge 20, 3) := by decide +kernel
theorem dX3_stepOn_10 : decode cX3_stepOn 10 = .ok (.aload_n 0, 1) := by decide +kernel
theorem dX3_stepOn_11 : decode cX3_stepOn 11 = .ok (.iload_n 2, 1) := by decide +kernel
theorem dX3_stepOn_12 : decode cX3_stepOn 12 = .ok (.invokevirtual 29, 3) := by decide +kernel
theorem dX3_stepOn_15 : decode cX3_stepOn 15 = .ok (.iload_n 1, 1) := by decide +kernel
theorem dX3_stepOn_16 : decode cX3_stepOn 16 = .ok (.if_icmp .ne 5, 3) := by decide +kernel
theorem dX3_stepOn_19 : decode cX3_stepOn 19 = .ok (.iload_n 2, 1) := by decide +kernel
theorem dX3_stepOn_20 : decode cX3_stepOn 20 = .ok (.ireturn, 1) := by decide +kernel
theorem dX3_stepOn_21 : decode cX3_stepOn 21 = .ok (.iinc 2 1, 3) := by decide +kernel
theorem dX3_stepOn_24 : decode cX3_stepOn 24 = .ok (.goto (-22), 3) := by decide +kernel
theorem dX3_stepOn_27 : decode cX3_stepOn 27 = .ok (.iconst (-1), 1) := by decide +kernel
theorem dX3_stepOn_28 : decode cX3_stepOn 28 = .ok (.ireturn, 1) := by decide +kernel
theorem dX4_init_0 : decode cX4_init 0 = .ok (.aload_n 0, 1) := by decide +kernel
theorem dX4_init_1 : decode cX4_init 1 = .ok (.invokespecial 3, 3) := by decide +kernel
theorem dX4_init_4 : decode cX4_init 4 = .ok (.aload_n 0, 1) := by decide +kernel
theorem dX4_init_5 : decode cX4_init 5 = .ok (.bipush 20, 2) := by decide +kernel
theorem dX4_init_7 : decode cX4_init 7 = .ok (.anewarray 9, 3) := by decide +kernel
theorem dX4_init_10 : decode cX4_init 10 = .ok (.putfield 11, 3) := by decide +kernel
theorem dX4_init_13 : decode cX4_init 13 = .ok (.iconst 0, 1) := by decide +kernel
theorem dX4_init_14 : decode cX4_init 14 = .ok (.istore_n 1, 1) := by decide +kernel
theorem dX4_init_15 : decode cX4_init 15 = .ok (.iload_n 1, 1) := by decide +kernel
theorem dX4_init_16 : decode cX4_init 16 = .ok (.bipush 20, 2) := by decide +kernel
theorem dX4_init_18 : decode cX4_init 18 = .ok (.if_icmp .ge 22, 3) := by decide +kernel
theorem dX4_init_21 : decode cX4_init 21 = .ok (.aload_n 0, 1) := by decide +kernel
theorem dX4_init_22 : decode cX4_init 22 = .ok (.getfield 11, 3) := by decide +kernel
theorem dX4_init_25 : decode cX4_init 25 = .ok (.iload_n 1, 1) := by decide +kernel
theorem dX4_init_26 : decode cX4_init 26 = .ok (.new 9, 3) := by decide +kernel
theorem dX4_init_29 : decode cX4_init 29 = .ok (.dup, 1) := by decide +kernel
theorem dX4_init_30 : decode cX4_init 30 = .ok (.invokespecial 17, 3) := by decide +kernel
theorem dX4_init_33 : decode cX4_init 33 = .ok (.aastore, 1) := by decide +kernel
theorem dX4_init_34 : decode cX4_init 34 = .ok (.iinc 1 1, 3) := by decide +kernel
theorem dX4_init_37 : decode cX4_init 37 = .ok (.goto (-22), 3) := by decide +kernel
theorem dX4_init_40 : decode cX4_init 40 = .ok (.return_, 1) := by decide +kernel
theorem dX4_hasPipe_0 : decode cX4_hasPipe 0 = .ok (.iload_n 1, 1) := by decide +kernel
theorem dX4_hasPipe_1 : decode cX4_hasPipe 1 = .ok (.ifCond .lt 15, 3) := by decide +kernel
theorem dX4_hasPipe_4 : decode cX4_hasPipe 4 = .ok (.iload_n 1, 1) := by decide +kernel
theorem dX4_hasPipe_5 : decode cX4_hasPipe 5 = .ok (.aload_n 0, 1) := by decide +kernel
theorem dX4_hasPipe_6 : decode cX4_hasPipe 6 = .ok (.getfield 18, 3) := by decide +kernel
theorem dX4_hasPipe_9 : decode cX4_hasPipe 9 = .ok (.if_icmp .ge 7, 3) := by decide +kernel
theorem dX4_hasPipe_12 : decode cX4_hasPipe 12 = .ok (.iconst 1, 1) := by decide +kernel
theorem dX4_hasPipe_13 : decode cX4_hasPipe 13 = .ok (.goto 4, 3) := by decide +kernel
theorem dX4_hasPipe_16 : decode cX4_hasPipe 16 = .ok (.iconst 0, 1) := by decide +kernel
theorem dX4_hasPipe_17 : decode cX4_hasPipe 17 = .ok (.ireturn, 1) := by decide +kernel
theorem dX4_copyFrom_0 : decode cX4_copyFrom 0 = .ok (.iconst 0, 1) := by decide +kernel
theorem dX4_copyFrom_1 : decode cX4_copyFrom 1 = .ok (.istore_n 2, 1) := by decide +kernel
theorem dX4_copyFrom_2 : decode cX4_copyFrom 2 = .ok (.iload_n 2, 1) := by decide +kernel
theorem dX4_copyFrom_3 : decode cX4_copyFrom 3 = .ok (.aload_n 1, 1) := by decide +kernel
theorem dX4_copyFrom_4 : decode cX4_copyFrom 4 = .ok (.getfield 18, 3) := by decide +kernel
theorem dX4_copyFrom_7 : decode cX4_copyFrom 7 = .ok (.if_icmp .ge 24, 3) := by decide +kernel
theorem dX4_copyFrom_10 : decode cX4_copyFrom 10 = .ok (.aload_n 0, 1) := by decide +kernel
theorem dX4_copyFrom_11 : decode cX4_copyFrom 11 = .ok (.getfield 11, 3) := by decide +kernel
theorem dX4_copyFrom_14 : decode cX4_copyFrom 14 = .ok (.iload_n 2, 1) := by decide +kernel
theorem dX4_copyFrom_15 : decode cX4_copyFrom 15 = .ok (.aaload, 1) := by decide +kernel
theorem dX4_copyFrom_16 : decode cX4_copyFrom 16 = .ok (.aload_n 1, 1) := by decide +kernel
theorem dX4_copyFrom_17 : decode cX4_copyFrom 17 = .ok (.getfield 11, 3) := by decide +kernel
theorem dX4_copyFrom_20 : decode cX4_copyFrom 20 = .ok (.iload_n 2, 1) := by decide +kernel
theorem dX4_copyFrom_21 : decode cX4_copyFrom 21 = .ok (.aaload, 1) := by decide +kernel
theorem dX4_copyFrom_22 : decode cX4_copyFrom 22 = .ok (.invokevirtual 22, 3) := by decide +kernel
theorem dX4_copyFrom_25 : decode cX4_copyFrom 25 = .ok (.iinc 2 1, 3) := by decide +kernel
theorem dX4_copyFrom_28 : decode cX4_copyFrom 28 = .ok (.goto (-26), 3) := by decide +kernel
theorem dX4_copyFrom_31 : decode cX4_copyFrom 31 = .ok (.aload_n 0, 1) := by decide +kernel
theorem dX4_copyFrom_32 : decode cX4_copyFrom 32 = .ok (.aload_n 1, 1) := by decide +kernel
theorem dX4_copyFrom_33 : decode cX4_copyFrom 33 = .ok (.getfield 18, 3) := by decide +kernel
theorem dX4_copyFrom_36 : decode cX4_copyFrom 36 = .ok (.putfield 18, 3) := by decide +kernel
theorem dX4_copyFrom_39 : decode cX4_copyFrom 39 = .ok (.return_, 1) := by decide +kernel
