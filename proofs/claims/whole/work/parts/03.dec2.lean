theorem dX9_join_0 : decode cX9_join 0 = .ok (.aload_n 0, 1) := by decide +kernel
theorem dX9_join_1 : decode cX9_join 1 = .ok (.getfield 12, 3) := by decide +kernel
theorem dX9_join_4 : decode cX9_join 4 = .ok (.getfield 67, 3) := by decide +kernel
theorem dX9_join_7 : decode cX9_join 7 = .ok (.iload_n 1, 1) := by decide +kernel
theorem dX9_join_8 : decode cX9_join 8 = .ok (.invokevirtual 171, 3) := by decide +kernel
theorem dX9_join_11 : decode cX9_join 11 = .ok (.ifCond .eq 17, 3) := by decide +kernel
theorem dX9_join_14 : decode cX9_join 14 = .ok (.aload_n 0, 1) := by decide +kernel
theorem dX9_join_15 : decode cX9_join 15 = .ok (.getfield 12, 3) := by decide +kernel
theorem dX9_join_18 : decode cX9_join 18 = .ok (.getfield 67, 3) := by decide +kernel
theorem dX9_join_21 : decode cX9_join 21 = .ok (.iload_n 2, 1) := by decide +kernel
theorem dX9_join_22 : decode cX9_join 22 = .ok (.invokevirtual 171, 3) := by decide +kernel
theorem dX9_join_25 : decode cX9_join 25 = .ok (.ifCond .ne 5, 3) := by decide +kernel
theorem dX9_join_28 : decode cX9_join 28 = .ok (.iconst (-1), 1) := by decide +kernel
theorem dX9_join_29 : decode cX9_join 29 = .ok (.ireturn, 1) := by decide +kernel
theorem dX9_join_30 : decode cX9_join 30 = .ok (.aload_n 0, 1) := by decide +kernel
theorem dX9_join_31 : decode cX9_join 31 = .ok (.getfield 12, 3) := by decide +kernel
theorem dX9_join_34 : decode cX9_join 34 = .ok (.getfield 67, 3) := by decide +kernel
theorem dX9_join_37 : decode cX9_join 37 = .ok (.getfield 158, 3) := by decide +kernel
theorem dX9_join_40 : decode cX9_join 40 = .ok (.iload_n 1, 1) := by decide +kernel
theorem dX9_join_41 : decode cX9_join 41 = .ok (.aaload, 1) := by decide +kernel
theorem dX9_join_42 : decode cX9_join 42 = .ok (.astore_n 3, 1) := by decide +kernel
theorem dX9_join_43 : decode cX9_join 43 = .ok (.aload_n 0, 1) := by decide +kernel
theorem dX9_join_44 : decode cX9_join 44 = .ok (.getfield 12, 3) := by decide +kernel
theorem dX9_join_47 : decode cX9_join 47 = .ok (.getfield 67, 3) := by decide +kernel
theorem dX9_join_50 : decode cX9_join 50 = .ok (.getfield 158, 3) := by decide +kernel
theorem dX9_join_53 : decode cX9_join 53 = .ok (.iload_n 2, 1) := by decide +kernel
theorem dX9_join_54 : decode cX9_join 54 = .ok (.aaload, 1) := by decide +kernel
theorem dX9_join_55 : decode cX9_join 55 = .ok (.astore 4, 2) := by decide +kernel
theorem dX9_join_57 : decode cX9_join 57 = .ok (.aload_n 3, 1) := by decide +kernel
theorem dX9_join_58 : decode cX9_join 58 = .ok (.getfield 174, 3) := by decide +kernel
theorem dX9_join_61 : decode cX9_join 61 = .ok (.getfield 151, 3) := by decide +kernel
theorem dX9_join_64 : decode cX9_join 64 = .ok (.iconst 1, 1) := by decide +kernel
theorem dX9_join_65 : decode cX9_join 65 = .ok (.isub, 1) := by decide +kernel
theorem dX9_join_66 : decode cX9_join 66 = .ok (.istore 5, 2) := by decide +kernel
theorem dX9_join_68 : decode cX9_join 68 = .ok (.aload 4, 2) := by decide +kernel
theorem dX9_join_70 : decode cX9_join 70 = .ok (.getfield 174, 3) := by decide +kernel
theorem dX9_join_73 : decode cX9_join 73 = .ok (.aload_n 3, 1) := by decide +kernel
theorem dX9_join_74 : decode cX9_join 74 = .ok (.getfield 174, 3) := by decide +kernel
theorem dX9_join_77 : decode cX9_join 77 = .ok (.iload 5, 2) := by decide +kernel
theorem dX9_join_79 : decode cX9_join 79 = .ok (.invokevirtual 177, 3) := by decide +kernel
theorem dX9_join_82 : decode cX9_join 82 = .ok (.invokevirtual 181, 3) := by decide +kernel
theorem dX9_join_85 : decode cX9_join 85 = .ok (.istore 6, 2) := by decide +kernel
theorem dX9_join_87 : decode cX9_join 87 = .ok (.aload_n 3, 1) := by decide +kernel
theorem dX9_join_88 : decode cX9_join 88 = .ok (.getfield 184, 3) := by decide +kernel
theorem dX9_join_91 : decode cX9_join 91 = .ok (.iconst 3, 1) := by decide +kernel
theorem dX9_join_92 : decode cX9_join 92 = .ok (.if_icmp .eq 16, 3) := by decide +kernel
theorem dX9_join_95 : decode cX9_join 95 = .ok (.aload 4, 2) := by decide +kernel
theorem dX9_join_97 : decode cX9_join 97 = .ok (.invokevirtual 187, 3) := by decide +kernel
theorem dX9_join_100 : decode cX9_join 100 = .ok (.ifCond .eq 8, 3) := by decide +kernel
theorem dX9_join_103 : decode cX9_join 103 = .ok (.iload 6, 2) := by decide +kernel
theorem dX9_join_105 : decode cX9_join 105 = .ok (.ifCond .ge 6, 3) := by decide +kernel
theorem dX9_join_108 : decode cX9_join 108 = .ok (.bipush (-3), 2) := by decide +kernel
theorem dX9_join_110 : decode cX9_join 110 = .ok (.ireturn, 1) := by decide +kernel
theorem dX9_join_111 : decode cX9_join 111 = .ok (.aload_n 3, 1) := by decide +kernel
theorem dX9_join_112 : decode cX9_join 112 = .ok (.getfield 174, 3) := by decide +kernel
theorem dX9_join_115 : decode cX9_join 115 = .ok (.iload 5, 2) := by decide +kernel
theorem dX9_join_117 : decode cX9_join 117 = .ok (.invokevirtual 191, 3) := by decide +kernel
theorem dX9_join_120 : decode cX9_join 120 = .ok (.aload 4, 2) := by decide +kernel
theorem dX9_join_122 : decode cX9_join 122 = .ok (.getfield 174, 3) := by decide +kernel
theorem dX9_join_125 : decode cX9_join 125 = .ok (.iload 6, 2) := by decide +kernel
theorem dX9_join_127 : decode cX9_join 127 = .ok (.invokevirtual 191, 3) := by decide +kernel
theorem dX9_join_130 : decode cX9_join 130 = .ok (.if_icmp .ge 6, 3) := by decide +kernel
theorem dX9_join_133 : decode cX9_join 133 = .ok (.bipush (-4), 2) := by decide +kernel
theorem dX9_join_135 : decode cX9_join 135 = .ok (.ireturn, 1) := by decide +kernel
theorem dX9_join_136 : decode cX9_join 136 = .ok (.aload_n 0, 1) := by decide +kernel
theorem dX9_join_137 : decode cX9_join 137 = .ok (.getfield 12, 3) := by decide +kernel
theorem dX9_join_140 : decode cX9_join 140 = .ok (.getfield 67, 3) := by decide +kernel
theorem dX9_join_143 : decode cX9_join 143 = .ok (.iload_n 2, 1) := by decide +kernel
theorem dX9_join_144 : decode cX9_join 144 = .ok (.iload_n 1, 1) := by decide +kernel
theorem dX9_join_145 : decode cX9_join 145 = .ok (.invokevirtual 194, 3) := by decide +kernel
theorem dX9_join_148 : decode cX9_join 148 = .ok (.ifCond .eq 6, 3) := by decide +kernel
theorem dX9_join_151 : decode cX9_join 151 = .ok (.bipush (-5), 2) := by decide +kernel
theorem dX9_join_153 : decode cX9_join 153 = .ok (.ireturn, 1) := by decide +kernel
theorem dX9_join_154 : decode cX9_join 154 = .ok (.aload_n 3, 1) := by decide +kernel
theorem dX9_join_155 : decode cX9_join 155 = .ok (.iload_n 2, 1) := by decide +kernel
theorem dX9_join_156 : decode cX9_join 156 = .ok (.putfield 197, 3) := by decide +kernel
theorem dX9_join_159 : decode cX9_join 159 = .ok (.aload_n 0, 1) := by decide +kernel
theorem dX9_join_160 : decode cX9_join 160 = .ok (.getfield 12, 3) := by decide +kernel
theorem dX9_join_163 : decode cX9_join 163 = .ok (.getfield 67, 3) := by decide +kernel
theorem dX9_join_166 : decode cX9_join 166 = .ok (.iload_n 1, 1) := by decide +kernel
theorem dX9_join_167 : decode cX9_join 167 = .ok (.invokevirtual 200, 3) := by decide +kernel
theorem dX9_join_170 : decode cX9_join 170 = .ok (.ireturn, 1) := by decide +kernel
theorem dX9_open_0 : decode cX9_open 0 = .ok (.aload_n 0, 1) := by decide +kernel
theorem dX9_open_1 : decode cX9_open 1 = .ok (.getfield 12, 3) := by decide +kernel
theorem dX9_open_4 : decode cX9_open 4 = .ok (.getfield 67, 3) := by decide +kernel
theorem dX9_open_7 : decode cX9_open 7 = .ok (.iload_n 1, 1) := by decide +kernel
theorem dX9_open_8 : decode cX9_open 8 = .ok (.invokevirtual 171, 3) := by decide +kernel
theorem dX9_open_11 : decode cX9_open 11 = .ok (.ifCond .eq 10, 3) := by decide +kernel
theorem dX9_open_14 : decode cX9_open 14 = .ok (.iload_n 2, 1) := by decide +kernel
theorem dX9_open_15 : decode cX9_open 15 = .ok (.invokestatic 127, 3) := by decide +kernel
theorem dX9_open_18 : decode cX9_open 18 = .ok (.ifCond .ne 5, 3) := by decide +kernel
theorem dX9_open_21 : decode cX9_open 21 = .ok (.iconst (-1), 1) := by decide +kernel
theorem dX9_open_22 : decode cX9_open 22 = .ok (.ireturn, 1) := by decide +kernel
theorem dX9_open_23 : decode cX9_open 23 = .ok (.aload_n 0, 1) := by decide +kernel
theorem dX9_open_24 : decode cX9_open 24 = .ok (.getfield 12, 3) := by decide +kernel
theorem dX9_open_27 : decode cX9_open 27 = .ok (.getfield 67, 3) := by decide +kernel
theorem dX9_open_30 : decode cX9_open 30 = .ok (.getfield 158, 3) := by decide +kernel
theorem dX9_open_33 : decode cX9_open 33 = .ok (.iload_n 1, 1) := by decide +kernel
theorem dX9_open_34 : decode cX9_open 34 = .ok (.aaload, 1) := by decide +kernel
theorem dX9_open_35 : decode cX9_open 35 = .ok (.getfield 184, 3) := by decide +kernel
theorem dX9_open_38 : decode cX9_open 38 = .ok (.iconst 3, 1) := by decide +kernel
theorem dX9_open_39 : decode cX9_open 39 = .ok (.if_icmp .eq 6, 3) := by decide +kernel
theorem dX9_open_42 : decode cX9_open 42 = .ok (.bipush (-3), 2) := by decide +kernel
theorem dX9_open_44 : decode cX9_open 44 = .ok (.ireturn, 1) := by decide +kernel
theorem dX9_open_45 : decode cX9_open 45 = .ok (.aload_n 0, 1) := by decide +kernel
theorem dX9_open_46 : decode cX9_open 46 = .ok (.getfield 12, 3) := by decide +kernel
theorem dX9_open_49 : decode cX9_open 49 = .ok (.getfield 67, 3) := by decide +kernel
theorem dX9_open_52 : decode cX9_open 52 = .ok (.getfield 158, 3) := by decide +kernel
theorem dX9_open_55 : decode cX9_open 55 = .ok (.iload_n 1, 1) := by decide +kernel
theorem dX9_open_56 : decode cX9_open 56 = .ok (.aaload, 1) := by decide +kernel
theorem dX9_open_57 : decode cX9_open 57 = .ok (.bipush 100, 2) := by decide +kernel
theorem dX9_open_59 : decode cX9_open 59 = .ok (.iload_n 2, 1) := by decide +kernel
theorem dX9_open_60 : decode cX9_open 60 = .ok (.iadd, 1) := by decide +kernel
theorem dX9_open_61 : decode cX9_open 61 = .ok (.putfield 197, 3) := by decide +kernel
theorem dX9_open_64 : decode cX9_open 64 = .ok (.iconst 1, 1) := by decide +kernel
theorem dX9_open_65 : decode cX9_open 65 = .ok (.ireturn, 1) := by decide +kernel
theorem dX9_part_0 : decode cX9_part 0 = .ok (.aload_n 0, 1) := by decide +kernel
theorem dX9_part_1 : decode cX9_part 1 = .ok (.getfield 12, 3) := by decide +kernel
theorem dX9_part_4 : decode cX9_part 4 = .ok (.getfield 67, 3) := by decide +kernel
theorem dX9_part_7 : decode cX9_part 7 = .ok (.iload_n 1, 1) := by decide +kernel
theorem dX9_part_8 : decode cX9_part 8 = .ok (.invokevirtual 171, 3) := by decide +kernel
theorem dX9_part_11 : decode cX9_part 11 = .ok (.ifCond .ne 5, 3) := by decide +kernel
theorem dX9_part_14 : decode cX9_part 14 = .ok (.iconst (-1), 1) := by decide +kernel
theorem dX9_part_15 : decode cX9_part 15 = .ok (.ireturn, 1) := by decide +kernel
theorem dX9_part_16 : decode cX9_part 16 = .ok (.aload_n 0, 1) := by decide +kernel
theorem dX9_part_17 : decode cX9_part 17 = .ok (.getfield 12, 3) := by decide +kernel
theorem dX9_part_20 : decode cX9_part 20 = .ok (.getfield 67, 3) := by decide +kernel
theorem dX9_part_23 : decode cX9_part 23 = .ok (.getfield 158, 3) := by decide +kernel
theorem dX9_part_26 : decode cX9_part 26 = .ok (.iload_n 1, 1) := by decide +kernel
theorem dX9_part_27 : decode cX9_part 27 = .ok (.aaload, 1) := by decide +kernel
theorem dX9_part_28 : decode cX9_part 28 = .ok (.getfield 197, 3) := by decide +kernel
theorem dX9_part_31 : decode cX9_part 31 = .ok (.iconst (-1), 1) := by decide +kernel
theorem dX9_part_32 : decode cX9_part 32 = .ok (.if_icmp .ne 5, 3) := by decide +kernel
theorem dX9_part_35 : decode cX9_part 35 = .ok (.iconst 0, 1) := by decide +kernel
theorem dX9_part_36 : decode cX9_part 36 = .ok (.ireturn, 1) := by decide +kernel
theorem dX9_part_37 : decode cX9_part 37 = .ok (.aload_n 0, 1) := by decide +kernel
theorem dX9_part_38 : decode cX9_part 38 = .ok (.getfield 12, 3) := by decide +kernel
theorem dX9_part_41 : decode cX9_part 41 = .ok (.getfield 67, 3) := by decide +kernel
theorem dX9_part_44 : decode cX9_part 44 = .ok (.getfield 158, 3) := by decide +kernel
theorem dX9_part_47 : decode cX9_part 47 = .ok (.iload_n 1, 1) := by decide +kernel
theorem dX9_part_48 : decode cX9_part 48 = .ok (.aaload, 1) := by decide +kernel
theorem dX9_part_49 : decode cX9_part 49 = .ok (.iconst (-1), 1) := by decide +kernel
theorem dX9_part_50 : decode cX9_part 50 = .ok (.putfield 197, 3) := by decide +kernel
theorem dX9_part_53 : decode cX9_part 53 = .ok (.iconst 1, 1) := by decide +kernel
theorem dX9_part_54 : decode cX9_part 54 = .ok (.ireturn, 1) := by decide +kernel
theorem dX9_block_0 : decode cX9_block 0 = .ok (.aload_n 0, 1) := by decide +kernel
theorem dX9_block_1 : decode cX9_block 1 = .ok (.getfield 12, 3) := by decide +kernel
theorem dX9_block_4 : decode cX9_block 4 = .ok (.getfield 67, 3) := by decide +kernel
theorem dX9_block_7 : decode cX9_block 7 = .ok (.iload_n 1, 1) := by decide +kernel
theorem dX9_block_8 : decode cX9_block 8 = .ok (.invokevirtual 171, 3) := by decide +kernel
theorem dX9_block_11 : decode cX9_block 11 = .ok (.ifCond .eq 21, 3) := by decide +kernel
theorem dX9_block_14 : decode cX9_block 14 = .ok (.aload_n 0, 1) := by decide +kernel
theorem dX9_block_15 : decode cX9_block 15 = .ok (.getfield 12, 3) := by decide +kernel
theorem dX9_block_18 : decode cX9_block 18 = .ok (.getfield 77, 3) := by decide +kernel
theorem dX9_block_21 : decode cX9_block 21 = .ok (.getfield 203, 3) := by decide +kernel
theorem dX9_block_24 : decode cX9_block 24 = .ok (.iload_n 1, 1) := by decide +kernel
theorem dX9_block_25 : decode cX9_block 25 = .ok (.iload_n 2, 1) := by decide +kernel
theorem dX9_block_26 : decode cX9_block 26 = .ok (.invokevirtual 206, 3) := by decide +kernel
theorem dX9_block_29 : decode cX9_block 29 = .ok (.goto 4, 3) := by decide +kernel
theorem dX9_block_32 : decode cX9_block 32 = .ok (.iconst (-1), 1) := by decide +kernel
theorem dX9_block_33 : decode cX9_block 33 = .ok (.ireturn, 1) := by decide +kernel
theorem dX9_of_0 : decode cX9_of 0 = .ok (.aload_n 0, 1) := by decide +kernel
theorem dX9_of_1 : decode cX9_of 1 = .ok (.getfield 12, 3) := by decide +kernel
theorem dX9_of_4 : decode cX9_of 4 = .ok (.getfield 67, 3) := by decide +kernel
theorem dX9_of_7 : decode cX9_of 7 = .ok (.iload_n 1, 1) := by decide +kernel
theorem dX9_of_8 : decode cX9_of 8 = .ok (.invokevirtual 171, 3) := by decide +kernel
theorem dX9_of_11 : decode cX9_of 11 = .ok (.ifCond .ne 5, 3) := by decide +kernel
theorem dX9_of_14 : decode cX9_of 14 = .ok (.iconst (-1), 1) := by decide +kernel
theorem dX9_of_15 : decode cX9_of 15 = .ok (.ireturn, 1) := by decide +kernel
theorem dX9_of_16 : decode cX9_of 16 = .ok (.aload_n 0, 1) := by decide +kernel
theorem dX9_of_17 : decode cX9_of 17 = .ok (.getfield 12, 3) := by decide +kernel
theorem dX9_of_20 : decode cX9_of 20 = .ok (.getfield 67, 3) := by decide +kernel
theorem dX9_of_23 : decode cX9_of 23 = .ok (.getfield 158, 3) := by decide +kernel
theorem dX9_of_26 : decode cX9_of 26 = .ok (.iload_n 1, 1) := by decide +kernel
theorem dX9_of_27 : decode cX9_of 27 = .ok (.aaload, 1) := by decide +kernel
theorem dX9_of_28 : decode cX9_of 28 = .ok (.astore_n 3, 1) := by decide +kernel
theorem dX9_of_29 : decode cX9_of 29 = .ok (.iload_n 2, 1) := by decide +kernel
theorem dX9_of_30 : decode cX9_of 30 = .ok (.tableswitch 181 0 11 #[62, 67, 75, 80, 85, 90, 102, 107, 130, 143, 156, 168], 62) := by decide +kernel
theorem dX9_of_92 : decode cX9_of 92 = .ok (.aload_n 3, 1) := by decide +kernel
theorem dX9_of_93 : decode cX9_of 93 = .ok (.getfield 184, 3) := by decide +kernel
theorem dX9_of_96 : decode cX9_of 96 = .ok (.ireturn, 1) := by decide +kernel
theorem dX9_of_97 : decode cX9_of 97 = .ok (.aload_n 3, 1) := by decide +kernel
theorem dX9_of_98 : decode cX9_of 98 = .ok (.getfield 174, 3) := by decide +kernel
theorem dX9_of_101 : decode cX9_of 101 = .ok (.getfield 151, 3) := by decide +kernel
theorem dX9_of_104 : decode cX9_of 104 = .ok (.ireturn, 1) := by decide +kernel
theorem dX9_of_105 : decode cX9_of 105 = .ok (.aload_n 3, 1) := by decide +kernel
theorem dX9_of_106 : decode cX9_of 106 = .ok (.getfield 210, 3) := by decide +kernel
theorem dX9_of_109 : decode cX9_of 109 = .ok (.ireturn, 1) := by decide +kernel
theorem dX9_of_110 : decode cX9_of 110 = .ok (.aload_n 3, 1) := by decide +kernel
theorem dX9_of_111 : decode cX9_of 111 = .ok (.getfield 213, 3) := by decide +kernel
theorem dX9_of_114 : decode cX9_of 114 = .ok (.ireturn, 1) := by decide +kernel
theorem dX9_of_115 : decode cX9_of 115 = .ok (.aload_n 3, 1) := by decide +kernel
theorem dX9_of_116 : decode cX9_of 116 = .ok (.getfield 216, 3) := by decide +kernel
theorem dX9_of_119 : decode cX9_of 119 = .ok (.ireturn, 1) := by decide +kernel
theorem dX9_of_120 : decode cX9_of 120 = .ok (.aload_n 0, 1) := by decide +kernel
theorem dX9_of_121 : decode cX9_of 121 = .ok (.getfield 12, 3) := by decide +kernel
theorem dX9_of_124 : decode cX9_of 124 = .ok (.getfield 67, 3) := by decide +kernel
theorem dX9_of_127 : decode cX9_of 127 = .ok (.iload_n 1, 1) := by decide +kernel
theorem dX9_of_128 : decode cX9_of 128 = .ok (.invokevirtual 200, 3) := by decide +kernel
theorem dX9_of_131 : decode cX9_of 131 = .ok (.ireturn, 1) := by decide +kernel
theorem dX9_of_132 : decode cX9_of 132 = .ok (.aload_n 3, 1) := by decide +kernel
theorem dX9_of_133 : decode cX9_of 133 = .ok (.getfield 197, 3) := by decide +kernel
theorem dX9_of_136 : decode cX9_of 136 = .ok (.ireturn, 1) := by decide +kernel
theorem dX9_of_137 : decode cX9_of 137 = .ok (.aload_n 0, 1) := by decide +kernel
theorem dX9_of_138 : decode cX9_of 138 = .ok (.getfield 12, 3) := by decide +kernel
theorem dX9_of_141 : decode cX9_of 141 = .ok (.getfield 77, 3) := by decide +kernel
theorem dX9_of_144 : decode cX9_of 144 = .ok (.getfield 203, 3) := by decide +kernel
theorem dX9_of_147 : decode cX9_of 147 = .ok (.iload_n 1, 1) := by decide +kernel
theorem dX9_of_148 : decode cX9_of 148 = .ok (.invokevirtual 219, 3) := by decide +kernel
theorem dX9_of_151 : decode cX9_of 151 = .ok (.ifCond .eq 7, 3) := by decide +kernel
theorem dX9_of_154 : decode cX9_of 154 = .ok (.iconst 1, 1) := by decide +kernel
theorem dX9_of_155 : decode cX9_of 155 = .ok (.goto 4, 3) := by decide +kernel
theorem dX9_of_158 : decode cX9_of 158 = .ok (.iconst 0, 1) := by decide +kernel
theorem dX9_of_159 : decode cX9_of 159 = .ok (.ireturn, 1) := by decide +kernel
theorem dX9_of_160 : decode cX9_of 160 = .ok (.aload_n 0, 1) := by decide +kernel
theorem dX9_of_161 : decode cX9_of 161 = .ok (.getfield 12, 3) := by decide +kernel
theorem dX9_of_164 : decode cX9_of 164 = .ok (.getfield 77, 3) := by decide +kernel
theorem dX9_of_167 : decode cX9_of 167 = .ok (.getfield 222, 3) := by decide +kernel
theorem dX9_of_170 : decode cX9_of 170 = .ok (.iload_n 1, 1) := by decide +kernel
theorem dX9_of_171 : decode cX9_of 171 = .ok (.iaload, 1) := by decide +kernel
theorem dX9_of_172 : decode cX9_of 172 = .ok (.ireturn, 1) := by decide +kernel
theorem dX9_of_173 : decode cX9_of 173 = .ok (.aload_n 0, 1) := by decide +kernel
theorem dX9_of_174 : decode cX9_of 174 = .ok (.getfield 12, 3) := by decide +kernel
theorem dX9_of_177 : decode cX9_of 177 = .ok (.getfield 77, 3) := by decide +kernel
theorem dX9_of_180 : decode cX9_of 180 = .ok (.getfield 168, 3) := by decide +kernel
theorem dX9_of_183 : decode cX9_of 183 = .ok (.iload_n 1, 1) := by decide +kernel
theorem dX9_of_184 : decode cX9_of 184 = .ok (.iaload, 1) := by decide +kernel
theorem dX9_of_185 : decode cX9_of 185 = .ok (.ireturn, 1) := by decide +kernel
theorem dX9_of_186 : decode cX9_of 186 = .ok (.aload_n 0, 1) := by decide +kernel
theorem dX9_of_187 : decode cX9_of 187 = .ok (.getfield 12, 3) := by decide +kernel
theorem dX9_of_190 : decode cX9_of 190 = .ok (.getfield 67, 3) := by decide +kernel
theorem dX9_of_193 : decode cX9_of 193 = .ok (.iload_n 1, 1) := by decide +kernel
theorem dX9_of_194 : decode cX9_of 194 = .ok (.invokevirtual 225, 3) := by decide +kernel
theorem dX9_of_197 : decode cX9_of 197 = .ok (.ireturn, 1) := by decide +kernel
theorem dX9_of_198 : decode cX9_of 198 = .ok (.aload_n 0, 1) := by decide +kernel
theorem dX9_of_199 : decode cX9_of 199 = .ok (.getfield 12, 3) := by decide +kernel
theorem dX9_of_202 : decode cX9_of 202 = .ok (.getfield 77, 3) := by decide +kernel
theorem dX9_of_205 : decode cX9_of 205 = .ok (.getfield 228, 3) := by decide +kernel
theorem dX9_of_208 : decode cX9_of 208 = .ok (.iload_n 1, 1) := by decide +kernel
theorem dX9_of_209 : decode cX9_of 209 = .ok (.iaload, 1) := by decide +kernel
theorem dX9_of_210 : decode cX9_of 210 = .ok (.ireturn, 1) := by decide +kernel
theorem dX9_of_211 : decode cX9_of 211 = .ok (.iconst (-1), 1) := by decide +kernel
theorem dX9_of_212 : decode cX9_of 212 = .ok (.ireturn, 1) := by decide +kernel
theorem dX9_step_0 : decode cX9_step 0 = .ok (.aload_n 0, 1) := by decide +kernel
theorem dX9_step_1 : decode cX9_step 1 = .ok (.getfield 12, 3) := by decide +kernel
theorem dX9_step_4 : decode cX9_step 4 = .ok (.getfield 67, 3) := by decide +kernel
theorem dX9_step_7 : decode cX9_step 7 = .ok (.iload_n 1, 1) := by decide +kernel
theorem dX9_step_8 : decode cX9_step 8 = .ok (.invokevirtual 171, 3) := by decide +kernel
theorem dX9_step_11 : decode cX9_step 11 = .ok (.ifCond .eq 31, 3) := by decide +kernel
theorem dX9_step_14 : decode cX9_step 14 = .ok (.iload_n 2, 1) := by decide +kernel
theorem dX9_step_15 : decode cX9_step 15 = .ok (.iconst 0, 1) := by decide +kernel
theorem dX9_step_16 : decode cX9_step 16 = .ok (.aload_n 0, 1) := by decide +kernel
theorem dX9_step_17 : decode cX9_step 17 = .ok (.getfield 12, 3) := by decide +kernel
theorem dX9_step_20 : decode cX9_step 20 = .ok (.getfield 67, 3) := by decide +kernel
theorem dX9_step_23 : decode cX9_step 23 = .ok (.getfield 158, 3) := by decide +kernel
theorem dX9_step_26 : decode cX9_step 26 = .ok (.iload_n 1, 1) := by decide +kernel
theorem dX9_step_27 : decode cX9_step 27 = .ok (.aaload, 1) := by decide +kernel
theorem dX9_step_28 : decode cX9_step 28 = .ok (.getfield 174, 3) := by decide +kernel
theorem dX9_step_31 : decode cX9_step 31 = .ok (.getfield 151, 3) := by decide +kernel
theorem dX9_step_34 : decode cX9_step 34 = .ok (.iconst 1, 1) := by decide +kernel
theorem dX9_step_35 : decode cX9_step 35 = .ok (.isub, 1) := by decide +kernel
theorem dX9_step_36 : decode cX9_step 36 = .ok (.invokestatic 44, 3) := by decide +kernel
theorem dX9_step_39 : decode cX9_step 39 = .ok (.ifCond .ne 7, 3) := by decide +kernel
theorem dX9_step_42 : decode cX9_step 42 = .ok (.sipush (-10000), 3) := by decide +kernel
theorem dX9_step_45 : decode cX9_step 45 = .ok (.ireturn, 1) := by decide +kernel
theorem dX9_step_46 : decode cX9_step 46 = .ok (.aload_n 0, 1) := by decide +kernel
theorem dX9_step_47 : decode cX9_step 47 = .ok (.getfield 12, 3) := by decide +kernel
theorem dX9_step_50 : decode cX9_step 50 = .ok (.getfield 67, 3) := by decide +kernel
theorem dX9_step_53 : decode cX9_step 53 = .ok (.getfield 158, 3) := by decide +kernel
theorem dX9_step_56 : decode cX9_step 56 = .ok (.iload_n 1, 1) := by decide +kernel
theorem dX9_step_57 : decode cX9_step 57 = .ok (.aaload, 1) := by decide +kernel
theorem dX9_step_58 : decode cX9_step 58 = .ok (.getfield 174, 3) := by decide +kernel
theorem dX9_step_61 : decode cX9_step 61 = .ok (.astore 4, 2) := by decide +kernel
theorem dX9_step_63 : decode cX9_step 63 = .ok (.iload_n 3, 1) := by decide +kernel
theorem dX9_step_64 : decode cX9_step 64 = .ok (.tableswitch 56 0 2 #[28, 35, 42], 28) := by decide +kernel
theorem dX9_step_92 : decode cX9_step 92 = .ok (.aload 4, 2) := by decide +kernel
theorem dX9_step_94 : decode cX9_step 94 = .ok (.iload_n 2, 1) := by decide +kernel
theorem dX9_step_95 : decode cX9_step 95 = .ok (.invokevirtual 177, 3) := by decide +kernel
theorem dX9_step_98 : decode cX9_step 98 = .ok (.ireturn, 1) := by decide +kernel
theorem dX9_step_99 : decode cX9_step 99 = .ok (.aload 4, 2) := by decide +kernel
theorem dX9_step_101 : decode cX9_step 101 = .ok (.iload_n 2, 1) := by decide +kernel
theorem dX9_step_102 : decode cX9_step 102 = .ok (.invokevirtual 191, 3) := by decide +kernel
theorem dX9_step_105 : decode cX9_step 105 = .ok (.ireturn, 1) := by decide +kernel
theorem dX9_step_106 : decode cX9_step 106 = .ok (.aload_n 0, 1) := by decide +kernel
theorem dX9_step_107 : decode cX9_step 107 = .ok (.getfield 12, 3) := by decide +kernel
theorem dX9_step_110 : decode cX9_step 110 = .ok (.getfield 48, 3) := by decide +kernel
theorem dX9_step_113 : decode cX9_step 113 = .ok (.aload 4, 2) := by decide +kernel
theorem dX9_step_115 : decode cX9_step 115 = .ok (.iload_n 2, 1) := by decide +kernel
theorem dX9_step_116 : decode cX9_step 116 = .ok (.invokevirtual 231, 3) := by decide +kernel
theorem dX9_step_119 : decode cX9_step 119 = .ok (.ireturn, 1) := by decide +kernel
theorem dX9_step_120 : decode cX9_step 120 = .ok (.sipush (-10000), 3) := by decide +kernel
theorem dX9_step_123 : decode cX9_step 123 = .ok (.ireturn, 1) := by decide +kernel
theorem dX9_rain_0 : decode cX9_rain 0 = .ok (.iload_n 1, 1) := by decide +kernel
theorem dX9_rain_1 : decode cX9_rain 1 = .ok (.iconst (-1), 1) := by decide +kernel
theorem dX9_rain_2 : decode cX9_rain 2 = .ok (.if_icmp .eq 17, 3) := by decide +kernel
theorem dX9_rain_5 : decode cX9_rain 5 = .ok (.aload_n 0, 1) := by decide +kernel
theorem dX9_rain_6 : decode cX9_rain 6 = .ok (.getfield 12, 3) := by decide +kernel
theorem dX9_rain_9 : decode cX9_rain 9 = .ok (.getfield 48, 3) := by decide +kernel
theorem dX9_rain_12 : decode cX9_rain 12 = .ok (.iload_n 1, 1) := by decide +kernel
theorem dX9_rain_13 : decode cX9_rain 13 = .ok (.invokevirtual 102, 3) := by decide +kernel
theorem dX9_rain_16 : decode cX9_rain 16 = .ok (.ifCond .eq 14, 3) := by decide +kernel
theorem dX9_rain_19 : decode cX9_rain 19 = .ok (.iload_n 2, 1) := by decide +kernel
theorem dX9_rain_20 : decode cX9_rain 20 = .ok (.iconst 0, 1) := by decide +kernel
theorem dX9_rain_21 : decode cX9_rain 21 = .ok (.sipush 300, 3) := by decide +kernel
theorem dX9_rain_24 : decode cX9_rain 24 = .ok (.invokestatic 44, 3) := by decide +kernel
theorem dX9_rain_27 : decode cX9_rain 27 = .ok (.ifCond .ne 5, 3) := by decide +kernel
theorem dX9_rain_30 : decode cX9_rain 30 = .ok (.iconst (-1), 1) := by decide +kernel
theorem dX9_rain_31 : decode cX9_rain 31 = .ok (.ireturn, 1) := by decide +kernel
theorem dX9_rain_32 : decode cX9_rain 32 = .ok (.iload_n 1, 1) := by decide +kernel
theorem dX9_rain_33 : decode cX9_rain 33 = .ok (.iconst (-1), 1) := by decide +kernel
theorem dX9_rain_34 : decode cX9_rain 34 = .ok (.if_icmp .ne 17, 3) := by decide +kernel
theorem dX9_rain_37 : decode cX9_rain 37 = .ok (.aload_n 0, 1) := by decide +kernel
theorem dX9_rain_38 : decode cX9_rain 38 = .ok (.getfield 12, 3) := by decide +kernel
theorem dX9_rain_41 : decode cX9_rain 41 = .ok (.getfield 81, 3) := by decide +kernel
theorem dX9_rain_44 : decode cX9_rain 44 = .ok (.iload_n 2, 1) := by decide +kernel
theorem dX9_rain_45 : decode cX9_rain 45 = .ok (.invokestatic 85, 3) := by decide +kernel
theorem dX9_rain_48 : decode cX9_rain 48 = .ok (.goto 13, 3) := by decide +kernel
theorem dX9_rain_51 : decode cX9_rain 51 = .ok (.aload_n 0, 1) := by decide +kernel
theorem dX9_rain_52 : decode cX9_rain 52 = .ok (.getfield 12, 3) := by decide +kernel
theorem dX9_rain_55 : decode cX9_rain 55 = .ok (.getfield 81, 3) := by decide +kernel
theorem dX9_rain_58 : decode cX9_rain 58 = .ok (.iload_n 1, 1) := by decide +kernel
theorem dX9_rain_59 : decode cX9_rain 59 = .ok (.iload_n 2, 1) := by decide +kernel
theorem dX9_rain_60 : decode cX9_rain 60 = .ok (.iastore, 1) := by decide +kernel
theorem dX9_rain_61 : decode cX9_rain 61 = .ok (.iconst 1, 1) := by decide +kernel
theorem dX9_rain_62 : decode cX9_rain 62 = .ok (.ireturn, 1) := by decide +kernel
theorem dX9_hours_0 : decode cX9_hours 0 = .ok (.iload_n 1, 1) := by decide +kernel
theorem dX9_hours_1 : decode cX9_hours 1 = .ok (.iconst 1, 1) := by decide +kernel
theorem dX9_hours_2 : decode cX9_hours 2 = .ok (.bipush 50, 2) := by decide +kernel
theorem dX9_hours_4 : decode cX9_hours 4 = .ok (.invokestatic 44, 3) := by decide +kernel
theorem dX9_hours_7 : decode cX9_hours 7 = .ok (.ifCond .ne 5, 3) := by decide +kernel
theorem dX9_hours_10 : decode cX9_hours 10 = .ok (.iconst (-1), 1) := by decide +kernel
theorem dX9_hours_11 : decode cX9_hours 11 = .ok (.ireturn, 1) := by decide +kernel
theorem dX9_hours_12 : decode cX9_hours 12 = .ok (.aload_n 0, 1) := by decide +kernel
theorem dX9_hours_13 : decode cX9_hours 13 = .ok (.getfield 12, 3) := by decide +kernel
theorem dX9_hours_16 : decode cX9_hours 16 = .ok (.getfield 77, 3) := by decide +kernel
theorem dX9_hours_19 : decode cX9_hours 19 = .ok (.getfield 235, 3) := by decide +kernel
theorem dX9_hours_22 : decode cX9_hours 22 = .ok (.invokestatic 238, 3) := by decide +kernel
theorem dX9_hours_25 : decode cX9_hours 25 = .ok (.istore_n 2, 1) := by decide +kernel
theorem dX9_hours_26 : decode cX9_hours 26 = .ok (.aload_n 0, 1) := by decide +kernel
theorem dX9_hours_27 : decode cX9_hours 27 = .ok (.getfield 29, 3) := by decide +kernel
theorem dX9_hours_30 : decode cX9_hours 30 = .ok (.aload_n 0, 1) := by decide +kernel
theorem dX9_hours_31 : decode cX9_hours 31 = .ok (.getfield 12, 3) := by decide +kernel
theorem dX9_hours_34 : decode cX9_hours 34 = .ok (.getfield 67, 3) := by decide +kernel
theorem dX9_hours_37 : decode cX9_hours 37 = .ok (.invokevirtual 242, 3) := by decide +kernel
theorem dX9_hours_40 : decode cX9_hours 40 = .ok (.iconst 0, 1) := by decide +kernel
theorem dX9_hours_41 : decode cX9_hours 41 = .ok (.istore_n 3, 1) := by decide +kernel
theorem dX9_hours_42 : decode cX9_hours 42 = .ok (.iload_n 3, 1) := by decide +kernel
theorem dX9_hours_43 : decode cX9_hours 43 = .ok (.iload_n 1, 1) := by decide +kernel
theorem dX9_hours_44 : decode cX9_hours 44 = .ok (.if_icmp .ge 27, 3) := by decide +kernel
theorem dX9_hours_47 : decode cX9_hours 47 = .ok (.aload_n 0, 1) := by decide +kernel
theorem dX9_hours_48 : decode cX9_hours 48 = .ok (.getfield 29, 3) := by decide +kernel
theorem dX9_hours_51 : decode cX9_hours 51 = .ok (.aload_n 0, 1) := by decide +kernel
theorem dX9_hours_52 : decode cX9_hours 52 = .ok (.getfield 12, 3) := by decide +kernel
theorem dX9_hours_55 : decode cX9_hours 55 = .ok (.aload_n 0, 1) := by decide +kernel
theorem dX9_hours_56 : decode cX9_hours 56 = .ok (.getfield 12, 3) := by decide +kernel
theorem dX9_hours_59 : decode cX9_hours 59 = .ok (.getfield 77, 3) := by decide +kernel
theorem dX9_hours_62 : decode cX9_hours 62 = .ok (.invokevirtual 246, 3) := by decide +kernel
theorem dX9_hours_65 : decode cX9_hours 65 = .ok (.iinc 3 1, 3) := by decide +kernel
theorem dX9_hours_68 : decode cX9_hours 68 = .ok (.goto (-26), 3) := by decide +kernel
theorem dX9_hours_71 : decode cX9_hours 71 = .ok (.aload_n 0, 1) := by decide +kernel
theorem dX9_hours_72 : decode cX9_hours 72 = .ok (.getfield 12, 3) := by decide +kernel
theorem dX9_hours_75 : decode cX9_hours 75 = .ok (.getfield 77, 3) := by decide +kernel
theorem dX9_hours_78 : decode cX9_hours 78 = .ok (.getfield 235, 3) := by decide +kernel
theorem dX9_hours_81 : decode cX9_hours 81 = .ok (.invokestatic 238, 3) := by decide +kernel
theorem dX9_hours_84 : decode cX9_hours 84 = .ok (.iload_n 2, 1) := by decide +kernel
theorem dX9_hours_85 : decode cX9_hours 85 = .ok (.isub, 1) := by decide +kernel
theorem dX9_hours_86 : decode cX9_hours 86 = .ok (.ireturn, 1) := by decide +kernel
theorem dX9_at_0 : decode cX9_at 0 = .ok (.aload_n 0, 1) := by decide +kernel
theorem dX9_at_1 : decode cX9_at 1 = .ok (.getfield 12, 3) := by decide +kernel
theorem dX9_at_4 : decode cX9_at 4 = .ok (.getfield 48, 3) := by decide +kernel
theorem dX9_at_7 : decode cX9_at 7 = .ok (.iload_n 1, 1) := by decide +kernel
theorem dX9_at_8 : decode cX9_at 8 = .ok (.invokevirtual 102, 3) := by decide +kernel
theorem dX9_at_11 : decode cX9_at 11 = .ok (.ifCond .ne 5, 3) := by decide +kernel
theorem dX9_at_14 : decode cX9_at 14 = .ok (.iconst (-1), 1) := by decide +kernel
theorem dX9_at_15 : decode cX9_at 15 = .ok (.ireturn, 1) := by decide +kernel
theorem dX9_at_16 : decode cX9_at 16 = .ok (.iload_n 2, 1) := by decide +kernel
theorem dX9_at_17 : decode cX9_at 17 = .ok (.tableswitch 118 0 5 #[39, 52, 65, 78, 91, 101], 39) := by decide +kernel
theorem dX9_at_56 : decode cX9_at 56 = .ok (.aload_n 0, 1) := by decide +kernel
theorem dX9_at_57 : decode cX9_at 57 = .ok (.getfield 12, 3) := by decide +kernel
theorem dX9_at_60 : decode cX9_at 60 = .ok (.getfield 48, 3) := by decide +kernel
theorem dX9_at_63 : decode cX9_at 63 = .ok (.getfield 106, 3) := by decide +kernel
theorem dX9_at_66 : decode cX9_at 66 = .ok (.iload_n 1, 1) := by decide +kernel
theorem dX9_at_67 : decode cX9_at 67 = .ok (.iaload, 1) := by decide +kernel
theorem dX9_at_68 : decode cX9_at 68 = .ok (.ireturn, 1) := by decide +kernel
theorem dX9_at_69 : decode cX9_at 69 = .ok (.aload_n 0, 1) := by decide +kernel
theorem dX9_at_70 : decode cX9_at 70 = .ok (.getfield 12, 3) := by decide +kernel
theorem dX9_at_73 : decode cX9_at 73 = .ok (.getfield 48, 3) := by decide +kernel
theorem dX9_at_76 : decode cX9_at 76 = .ok (.getfield 112, 3) := by decide +kernel
theorem dX9_at_79 : decode cX9_at 79 = .ok (.iload_n 1, 1) := by decide +kernel
theorem dX9_at_80 : decode cX9_at 80 = .ok (.iaload, 1) := by decide +kernel
theorem dX9_at_81 : decode cX9_at 81 = .ok (.ireturn, 1) := by decide +kernel
theorem dX9_at_82 : decode cX9_at 82 = .ok (.aload_n 0, 1) := by decide +kernel
theorem dX9_at_83 : decode cX9_at 83 = .ok (.getfield 12, 3) := by decide +kernel
theorem dX9_at_86 : decode cX9_at 86 = .ok (.getfield 77, 3) := by decide +kernel
theorem dX9_at_89 : decode cX9_at 89 = .ok (.getfield 250, 3) := by decide +kernel
theorem dX9_at_92 : decode cX9_at 92 = .ok (.iload_n 1, 1) := by decide +kernel
theorem dX9_at_93 : decode cX9_at 93 = .ok (.iaload, 1) := by decide +kernel
theorem dX9_at_94 : decode cX9_at 94 = .ok (.ireturn, 1) := by decide +kernel
theorem dX9_at_95 : decode cX9_at 95 = .ok (.aload_n 0, 1) := by decide +kernel
theorem dX9_at_96 : decode cX9_at 96 = .ok (.getfield 12, 3) := by decide +kernel
theorem dX9_at_99 : decode cX9_at 99 = .ok (.getfield 77, 3) := by decide +kernel
theorem dX9_at_102 : decode cX9_at 102 = .ok (.getfield 253, 3) := by decide +kernel
theorem dX9_at_105 : decode cX9_at 105 = .ok (.iload_n 1, 1) := by decide +kernel
theorem dX9_at_106 : decode cX9_at 106 = .ok (.iaload, 1) := by decide +kernel
theorem dX9_at_107 : decode cX9_at 107 = .ok (.ireturn, 1) := by decide +kernel
theorem dX9_at_108 : decode cX9_at 108 = .ok (.aload_n 0, 1) := by decide +kernel
theorem dX9_at_109 : decode cX9_at 109 = .ok (.getfield 12, 3) := by decide +kernel
theorem dX9_at_112 : decode cX9_at 112 = .ok (.getfield 81, 3) := by decide +kernel
theorem dX9_at_115 : decode cX9_at 115 = .ok (.iload_n 1, 1) := by decide +kernel
theorem dX9_at_116 : decode cX9_at 116 = .ok (.iaload, 1) := by decide +kernel
theorem dX9_at_117 : decode cX9_at 117 = .ok (.ireturn, 1) := by decide +kernel
theorem dX9_at_118 : decode cX9_at 118 = .ok (.aload_n 0, 1) := by decide +kernel
theorem dX9_at_119 : decode cX9_at 119 = .ok (.getfield 12, 3) := by decide +kernel
theorem dX9_at_122 : decode cX9_at 122 = .ok (.iload_n 1, 1) := by decide +kernel
theorem dX9_at_123 : decode cX9_at 123 = .ok (.invokevirtual 256, 3) := by decide +kernel
theorem dX9_at_126 : decode cX9_at 126 = .ok (.ifCond .eq 7, 3) := by decide +kernel
theorem dX9_at_129 : decode cX9_at 129 = .ok (.iconst 1, 1) := by decide +kernel
theorem dX9_at_130 : decode cX9_at 130 = .ok (.goto 4, 3) := by decide +kernel
theorem dX9_at_133 : decode cX9_at 133 = .ok (.iconst 0, 1) := by decide +kernel
theorem dX9_at_134 : decode cX9_at 134 = .ok (.ireturn, 1) := by decide +kernel
theorem dX9_at_135 : decode cX9_at 135 = .ok (.iconst (-1), 1) := by decide +kernel
theorem dX9_at_136 : decode cX9_at 136 = .ok (.ireturn, 1) := by decide +kernel
theorem dX9_all_0 : decode cX9_all 0 = .ok (.iload_n 1, 1) := by decide +kernel
theorem dX9_all_1 : decode cX9_all 1 = .ok (.tableswitch 115 0 7 #[47, 61, 75, 89, 89, 89, 89, 104], 47) := by decide +kernel
theorem dX9_all_48 : decode cX9_all 48 = .ok (.aload_n 0, 1) := by decide +kernel
theorem dX9_all_49 : decode cX9_all 49 = .ok (.getfield 12, 3) := by decide +kernel
theorem dX9_all_52 : decode cX9_all 52 = .ok (.getfield 77, 3) := by decide +kernel
theorem dX9_all_55 : decode cX9_all 55 = .ok (.getfield 250, 3) := by decide +kernel
theorem dX9_all_58 : decode cX9_all 58 = .ok (.invokestatic 238, 3) := by decide +kernel
theorem dX9_all_61 : decode cX9_all 61 = .ok (.ireturn, 1) := by decide +kernel
theorem dX9_all_62 : decode cX9_all 62 = .ok (.aload_n 0, 1) := by decide +kernel
theorem dX9_all_63 : decode cX9_all 63 = .ok (.getfield 12, 3) := by decide +kernel
theorem dX9_all_66 : decode cX9_all 66 = .ok (.getfield 77, 3) := by decide +kernel
theorem dX9_all_69 : decode cX9_all 69 = .ok (.getfield 253, 3) := by decide +kernel
theorem dX9_all_72 : decode cX9_all 72 = .ok (.invokestatic 238, 3) := by decide +kernel
theorem dX9_all_75 : decode cX9_all 75 = .ok (.ireturn, 1) := by decide +kernel
theorem dX9_all_76 : decode cX9_all 76 = .ok (.aload_n 0, 1) := by decide +kernel
theorem dX9_all_77 : decode cX9_all 77 = .ok (.getfield 12, 3) := by decide +kernel
theorem dX9_all_80 : decode cX9_all 80 = .ok (.getfield 77, 3) := by decide +kernel
theorem dX9_all_83 : decode cX9_all 83 = .ok (.getfield 222, 3) := by decide +kernel
theorem dX9_all_86 : decode cX9_all 86 = .ok (.invokestatic 238, 3) := by decide +kernel
theorem dX9_all_89 : decode cX9_all 89 = .ok (.ireturn, 1) := by decide +kernel
theorem dX9_all_90 : decode cX9_all 90 = .ok (.aload_n 0, 1) := by decide +kernel
theorem dX9_all_91 : decode cX9_all 91 = .ok (.getfield 12, 3) := by decide +kernel
theorem dX9_all_94 : decode cX9_all 94 = .ok (.getfield 77, 3) := by decide +kernel
theorem dX9_all_97 : decode cX9_all 97 = .ok (.getfield 235, 3) := by decide +kernel
theorem dX9_all_100 : decode cX9_all 100 = .ok (.iload_n 1, 1) := by decide +kernel
theorem dX9_all_101 : decode cX9_all 101 = .ok (.iconst 3, 1) := by decide +kernel
theorem dX9_all_102 : decode cX9_all 102 = .ok (.isub, 1) := by decide +kernel
theorem dX9_all_103 : decode cX9_all 103 = .ok (.iaload, 1) := by decide +kernel
theorem dX9_all_104 : decode cX9_all 104 = .ok (.ireturn, 1) := by decide +kernel
theorem dX9_all_105 : decode cX9_all 105 = .ok (.aload_n 0, 1) := by decide +kernel
theorem dX9_all_106 : decode cX9_all 106 = .ok (.getfield 12, 3) := by decide +kernel
theorem dX9_all_109 : decode cX9_all 109 = .ok (.getfield 77, 3) := by decide +kernel
theorem dX9_all_112 : decode cX9_all 112 = .ok (.getfield 259, 3) := by decide +kernel
theorem dX9_all_115 : decode cX9_all 115 = .ok (.ireturn, 1) := by decide +kernel
theorem dX9_all_116 : decode cX9_all 116 = .ok (.iconst (-1), 1) := by decide +kernel
theorem dX9_all_117 : decode cX9_all 117 = .ok (.ireturn, 1) := by decide +kernel
theorem dX9_many_0 : decode cX9_many 0 = .ok (.iload_n 1, 1) := by decide +kernel
theorem dX9_many_1 : decode cX9_many 1 = .ok (.tableswitch 120 0 6 #[43, 54, 65, 76, 84, 95, 106], 43) := by decide +kernel
theorem dX9_many_44 : decode cX9_many 44 = .ok (.aload_n 0, 1) := by decide +kernel
theorem dX9_many_45 : decode cX9_many 45 = .ok (.getfield 12, 3) := by decide +kernel
theorem dX9_many_48 : decode cX9_many 48 = .ok (.getfield 48, 3) := by decide +kernel
theorem dX9_many_51 : decode cX9_many 51 = .ok (.getfield 99, 3) := by decide +kernel
theorem dX9_many_54 : decode cX9_many 54 = .ok (.ireturn, 1) := by decide +kernel
theorem dX9_many_55 : decode cX9_many 55 = .ok (.aload_n 0, 1) := by decide +kernel
theorem dX9_many_56 : decode cX9_many 56 = .ok (.getfield 12, 3) := by decide +kernel
theorem dX9_many_59 : decode cX9_many 59 = .ok (.getfield 67, 3) := by decide +kernel
theorem dX9_many_62 : decode cX9_many 62 = .ok (.getfield 71, 3) := by decide +kernel
theorem dX9_many_65 : decode cX9_many 65 = .ok (.ireturn, 1) := by decide +kernel
theorem dX9_many_66 : decode cX9_many 66 = .ok (.aload_n 0, 1) := by decide +kernel
theorem dX9_many_67 : decode cX9_many 67 = .ok (.getfield 12, 3) := by decide +kernel
theorem dX9_many_70 : decode cX9_many 70 = .ok (.getfield 77, 3) := by decide +kernel
theorem dX9_many_73 : decode cX9_many 73 = .ok (.getfield 262, 3) := by decide +kernel
theorem dX9_many_76 : decode cX9_many 76 = .ok (.ireturn, 1) := by decide +kernel
theorem dX9_many_77 : decode cX9_many 77 = .ok (.aload_n 0, 1) := by decide +kernel
theorem dX9_many_78 : decode cX9_many 78 = .ok (.getfield 12, 3) := by decide +kernel
theorem dX9_many_81 : decode cX9_many 81 = .ok (.invokevirtual 265, 3) := by decide +kernel
theorem dX9_many_84 : decode cX9_many 84 = .ok (.ireturn, 1) := by decide +kernel
theorem dX9_many_85 : decode cX9_many 85 = .ok (.aload_n 0, 1) := by decide +kernel
theorem dX9_many_86 : decode cX9_many 86 = .ok (.getfield 12, 3) := by decide +kernel
theorem dX9_many_89 : decode cX9_many 89 = .ok (.getfield 89, 3) := by decide +kernel
theorem dX9_many_92 : decode cX9_many 92 = .ok (.invokevirtual 269, 3) := by decide +kernel
theorem dX9_many_95 : decode cX9_many 95 = .ok (.ireturn, 1) := by decide +kernel
theorem dX9_many_96 : decode cX9_many 96 = .ok (.aload_n 0, 1) := by decide +kernel
theorem dX9_many_97 : decode cX9_many 97 = .ok (.getfield 12, 3) := by decide +kernel
theorem dX9_many_100 : decode cX9_many 100 = .ok (.getfield 96, 3) := by decide +kernel
theorem dX9_many_103 : decode cX9_many 103 = .ok (.invokevirtual 269, 3) := by decide +kernel
theorem dX9_many_106 : decode cX9_many 106 = .ok (.ireturn, 1) := by decide +kernel
theorem dX9_many_107 : decode cX9_many 107 = .ok (.aload_n 0, 1) := by decide +kernel
theorem dX9_many_108 : decode cX9_many 108 = .ok (.getfield 12, 3) := by decide +kernel
theorem dX9_many_111 : decode cX9_many 111 = .ok (.getfield 77, 3) := by decide +kernel
theorem dX9_many_114 : decode cX9_many 114 = .ok (.getfield 203, 3) := by decide +kernel
theorem dX9_many_117 : decode cX9_many 117 = .ok (.invokevirtual 269, 3) := by decide +kernel
theorem dX9_many_120 : decode cX9_many 120 = .ok (.ireturn, 1) := by decide +kernel
theorem dX9_many_121 : decode cX9_many 121 = .ok (.iconst (-1), 1) := by decide +kernel
theorem dX9_many_122 : decode cX9_many 122 = .ok (.ireturn, 1) := by decide +kernel
theorem dX9_dry_0 : decode cX9_dry 0 = .ok (.iload_n 1, 1) := by decide +kernel
theorem dX9_dry_1 : decode cX9_dry 1 = .ok (.istore_n 2, 1) := by decide +kernel
theorem dX9_dry_2 : decode cX9_dry 2 = .ok (.iconst 0, 1) := by decide +kernel
theorem dX9_dry_3 : decode cX9_dry 3 = .ok (.istore_n 3, 1) := by decide +kernel
theorem dX9_dry_4 : decode cX9_dry 4 = .ok (.iload_n 3, 1) := by decide +kernel
theorem dX9_dry_5 : decode cX9_dry 5 = .ok (.aload_n 0, 1) := by decide +kernel
theorem dX9_dry_6 : decode cX9_dry 6 = .ok (.getfield 12, 3) := by decide +kernel
theorem dX9_dry_9 : decode cX9_dry 9 = .ok (.getfield 48, 3) := by decide +kernel
theorem dX9_dry_12 : decode cX9_dry 12 = .ok (.getfield 99, 3) := by decide +kernel
theorem dX9_dry_15 : decode cX9_dry 15 = .ok (.if_icmp .ge 29, 3) := by decide +kernel
theorem dX9_dry_18 : decode cX9_dry 18 = .ok (.aload_n 0, 1) := by decide +kernel
theorem dX9_dry_19 : decode cX9_dry 19 = .ok (.getfield 12, 3) := by decide +kernel
theorem dX9_dry_22 : decode cX9_dry 22 = .ok (.iload_n 3, 1) := by decide +kernel
theorem dX9_dry_23 : decode cX9_dry 23 = .ok (.invokevirtual 256, 3) := by decide +kernel
theorem dX9_dry_26 : decode cX9_dry 26 = .ok (.ifCond .ne 12, 3) := by decide +kernel
theorem dX9_dry_29 : decode cX9_dry 29 = .ok (.iload_n 2, 1) := by decide +kernel
theorem dX9_dry_30 : decode cX9_dry 30 = .ok (.ifCond .ne 5, 3) := by decide +kernel
theorem dX9_dry_33 : decode cX9_dry 33 = .ok (.iload_n 3, 1) := by decide +kernel
theorem dX9_dry_34 : decode cX9_dry 34 = .ok (.ireturn, 1) := by decide +kernel
theorem dX9_dry_35 : decode cX9_dry 35 = .ok (.iinc 2 (-1), 3) := by decide +kernel
theorem dX9_dry_38 : decode cX9_dry 38 = .ok (.iinc 3 1, 3) := by decide +kernel
theorem dX9_dry_41 : decode cX9_dry 41 = .ok (.goto (-37), 3) := by decide +kernel
theorem dX9_dry_44 : decode cX9_dry 44 = .ok (.bipush (-6), 2) := by decide +kernel
theorem dX9_dry_46 : decode cX9_dry 46 = .ok (.ireturn, 1) := by decide +kernel
theorem dX9_mark_0 : decode cX9_mark 0 = .ok (.aload_n 0, 1) := by decide +kernel
theorem dX9_mark_1 : decode cX9_mark 1 = .ok (.getfield 12, 3) := by decide +kernel
theorem dX9_mark_4 : decode cX9_mark 4 = .ok (.getfield 48, 3) := by decide +kernel
theorem dX9_mark_7 : decode cX9_mark 7 = .ok (.iload_n 1, 1) := by decide +kernel
theorem dX9_mark_8 : decode cX9_mark 8 = .ok (.invokevirtual 102, 3) := by decide +kernel
theorem dX9_mark_11 : decode cX9_mark 11 = .ok (.ifCond .eq 18, 3) := by decide +kernel
theorem dX9_mark_14 : decode cX9_mark 14 = .ok (.aload_n 0, 1) := by decide +kernel
theorem dX9_mark_15 : decode cX9_mark 15 = .ok (.getfield 12, 3) := by decide +kernel
theorem dX9_mark_18 : decode cX9_mark 18 = .ok (.getfield 89, 3) := by decide +kernel
theorem dX9_mark_21 : decode cX9_mark 21 = .ok (.iload_n 1, 1) := by decide +kernel
theorem dX9_mark_22 : decode cX9_mark 22 = .ok (.iload_n 2, 1) := by decide +kernel
theorem dX9_mark_23 : decode cX9_mark 23 = .ok (.invokevirtual 206, 3) := by decide +kernel
theorem dX9_mark_26 : decode cX9_mark 26 = .ok (.goto 4, 3) := by decide +kernel
theorem dX9_mark_29 : decode cX9_mark 29 = .ok (.iconst (-1), 1) := by decide +kernel
theorem dX9_mark_30 : decode cX9_mark 30 = .ok (.ireturn, 1) := by decide +kernel
theorem dX9_tree_0 : decode cX9_tree 0 = .ok (.aload_n 0, 1) := by decide +kernel
theorem dX9_tree_1 : decode cX9_tree 1 = .ok (.getfield 36, 3) := by decide +kernel
theorem dX9_tree_4 : decode cX9_tree 4 = .ok (.aload_n 0, 1) := by decide +kernel
theorem dX9_tree_5 : decode cX9_tree 5 = .ok (.getfield 12, 3) := by decide +kernel
theorem dX9_tree_8 : decode cX9_tree 8 = .ok (.getfield 48, 3) := by decide +kernel
theorem dX9_tree_11 : decode cX9_tree 11 = .ok (.aload_n 0, 1) := by decide +kernel
theorem dX9_tree_12 : decode cX9_tree 12 = .ok (.getfield 12, 3) := by decide +kernel
theorem dX9_tree_15 : decode cX9_tree 15 = .ok (.getfield 89, 3) := by decide +kernel
theorem dX9_tree_18 : decode cX9_tree 18 = .ok (.invokevirtual 272, 3) := by decide +kernel
theorem dX9_tree_21 : decode cX9_tree 21 = .ok (.aload_n 0, 1) := by decide +kernel
theorem dX9_tree_22 : decode cX9_tree 22 = .ok (.getfield 36, 3) := by decide +kernel
theorem dX9_tree_25 : decode cX9_tree 25 = .ok (.getfield 276, 3) := by decide +kernel
theorem dX9_tree_28 : decode cX9_tree 28 = .ok (.ireturn, 1) := by decide +kernel
theorem dX9_pair_0 : decode cX9_pair 0 = .ok (.aload_n 0, 1) := by decide +kernel
theorem dX9_pair_1 : decode cX9_pair 1 = .ok (.getfield 36, 3) := by decide +kernel
theorem dX9_pair_4 : decode cX9_pair 4 = .ok (.aload_n 0, 1) := by decide +kernel
theorem dX9_pair_5 : decode cX9_pair 5 = .ok (.getfield 12, 3) := by decide +kernel
theorem dX9_pair_8 : decode cX9_pair 8 = .ok (.getfield 48, 3) := by decide +kernel
theorem dX9_pair_11 : decode cX9_pair 11 = .ok (.aload_n 0, 1) := by decide +kernel
theorem dX9_pair_12 : decode cX9_pair 12 = .ok (.getfield 12, 3) := by decide +kernel
theorem dX9_pair_15 : decode cX9_pair 15 = .ok (.getfield 89, 3) := by decide +kernel
theorem dX9_pair_18 : decode cX9_pair 18 = .ok (.invokevirtual 272, 3) := by decide +kernel
theorem dX9_pair_21 : decode cX9_pair 21 = .ok (.iload_n 1, 1) := by decide +kernel
theorem dX9_pair_22 : decode cX9_pair 22 = .ok (.iconst 0, 1) := by decide +kernel
theorem dX9_pair_23 : decode cX9_pair 23 = .ok (.aload_n 0, 1) := by decide +kernel
theorem dX9_pair_24 : decode cX9_pair 24 = .ok (.getfield 36, 3) := by decide +kernel
theorem dX9_pair_27 : decode cX9_pair 27 = .ok (.getfield 279, 3) := by decide +kernel
theorem dX9_pair_30 : decode cX9_pair 30 = .ok (.iconst 1, 1) := by decide +kernel
theorem dX9_pair_31 : decode cX9_pair 31 = .ok (.isub, 1) := by decide +kernel
theorem dX9_pair_32 : decode cX9_pair 32 = .ok (.invokestatic 44, 3) := by decide +kernel
theorem dX9_pair_35 : decode cX9_pair 35 = .ok (.ifCond .eq 15, 3) := by decide +kernel
theorem dX9_pair_38 : decode cX9_pair 38 = .ok (.aload_n 0, 1) := by decide +kernel
theorem dX9_pair_39 : decode cX9_pair 39 = .ok (.getfield 36, 3) := by decide +kernel
theorem dX9_pair_42 : decode cX9_pair 42 = .ok (.getfield 280, 3) := by decide +kernel
theorem dX9_pair_45 : decode cX9_pair 45 = .ok (.iload_n 1, 1) := by decide +kernel
theorem dX9_pair_46 : decode cX9_pair 46 = .ok (.iaload, 1) := by decide +kernel
theorem dX9_pair_47 : decode cX9_pair 47 = .ok (.goto 5, 3) := by decide +kernel
theorem dX9_pair_50 : decode cX9_pair 50 = .ok (.bipush (-6), 2) := by decide +kernel
theorem dX9_pair_52 : decode cX9_pair 52 = .ok (.ireturn, 1) := by decide +kernel
theorem dX9_sight_0 : decode cX9_sight 0 = .ok (.aload_n 0, 1) := by decide +kernel
theorem dX9_sight_1 : decode cX9_sight 1 = .ok (.getfield 12, 3) := by decide +kernel
theorem dX9_sight_4 : decode cX9_sight 4 = .ok (.getfield 48, 3) := by decide +kernel
theorem dX9_sight_7 : decode cX9_sight 7 = .ok (.iload_n 1, 1) := by decide +kernel
theorem dX9_sight_8 : decode cX9_sight 8 = .ok (.invokevirtual 102, 3) := by decide +kernel
theorem dX9_sight_11 : decode cX9_sight 11 = .ok (.ifCond .eq 18, 3) := by decide +kernel
theorem dX9_sight_14 : decode cX9_sight 14 = .ok (.aload_n 0, 1) := by decide +kernel
theorem dX9_sight_15 : decode cX9_sight 15 = .ok (.getfield 12, 3) := by decide +kernel
theorem dX9_sight_18 : decode cX9_sight 18 = .ok (.getfield 96, 3) := by decide +kernel
theorem dX9_sight_21 : decode cX9_sight 21 = .ok (.iload_n 1, 1) := by decide +kernel
theorem dX9_sight_22 : decode cX9_sight 22 = .ok (.iload_n 2, 1) := by decide +kernel
theorem dX9_sight_23 : decode cX9_sight 23 = .ok (.invokevirtual 206, 3) := by decide +kernel
theorem dX9_sight_26 : decode cX9_sight 26 = .ok (.goto 4, 3) := by decide +kernel
theorem dX9_sight_29 : decode cX9_sight 29 = .ok (.iconst (-1), 1) := by decide +kernel
theorem dX9_sight_30 : decode cX9_sight 30 = .ok (.ireturn, 1) := by decide +kernel
theorem dX9_see_0 : decode cX9_see 0 = .ok (.aload_n 0, 1) := by decide +kernel
theorem dX9_see_1 : decode cX9_see 1 = .ok (.getfield 12, 3) := by decide +kernel
theorem dX9_see_4 : decode cX9_see 4 = .ok (.getfield 77, 3) := by decide +kernel
theorem dX9_see_7 : decode cX9_see 7 = .ok (.aload_n 0, 1) := by decide +kernel
theorem dX9_see_8 : decode cX9_see 8 = .ok (.getfield 12, 3) := by decide +kernel
theorem dX9_see_11 : decode cX9_see 11 = .ok (.getfield 96, 3) := by decide +kernel
theorem dX9_see_14 : decode cX9_see 14 = .ok (.invokevirtual 283, 3) := by decide +kernel
theorem dX9_see_17 : decode cX9_see 17 = .ok (.aload_n 0, 1) := by decide +kernel
theorem dX9_see_18 : decode cX9_see 18 = .ok (.getfield 12, 3) := by decide +kernel
theorem dX9_see_21 : decode cX9_see 21 = .ok (.getfield 96, 3) := by decide +kernel
theorem dX9_see_24 : decode cX9_see 24 = .ok (.invokevirtual 269, 3) := by decide +kernel
theorem dX9_see_27 : decode cX9_see 27 = .ok (.ireturn, 1) := by decide +kernel
theorem dX9_where_0 : decode cX9_where 0 = .ok (.iload_n 1, 1) := by decide +kernel
theorem dX9_where_1 : decode cX9_where 1 = .ok (.iconst 1, 1) := by decide +kernel
theorem dX9_where_2 : decode cX9_where 2 = .ok (.bipush 20, 2) := by decide +kernel
theorem dX9_where_4 : decode cX9_where 4 = .ok (.invokestatic 44, 3) := by decide +kernel
theorem dX9_where_7 : decode cX9_where 7 = .ok (.ifCond .eq 7, 3) := by decide +kernel
theorem dX9_where_10 : decode cX9_where 10 = .ok (.iload_n 2, 1) := by decide +kernel
theorem dX9_where_11 : decode cX9_where 11 = .ok (.ifCond .ge 5, 3) := by decide +kernel
theorem dX9_where_14 : decode cX9_where 14 = .ok (.iconst (-1), 1) := by decide +kernel
theorem dX9_where_15 : decode cX9_where 15 = .ok (.ireturn, 1) := by decide +kernel
theorem dX9_where_16 : decode cX9_where 16 = .ok (.aload_n 0, 1) := by decide +kernel
theorem dX9_where_17 : decode cX9_where 17 = .ok (.getfield 29, 3) := by decide +kernel
theorem dX9_where_20 : decode cX9_where 20 = .ok (.aload_n 0, 1) := by decide +kernel
theorem dX9_where_21 : decode cX9_where 21 = .ok (.getfield 12, 3) := by decide +kernel
theorem dX9_where_24 : decode cX9_where 24 = .ok (.getfield 67, 3) := by decide +kernel
theorem dX9_where_27 : decode cX9_where 27 = .ok (.invokevirtual 242, 3) := by decide +kernel
theorem dX9_where_30 : decode cX9_where 30 = .ok (.iload_n 2, 1) := by decide +kernel
theorem dX9_where_31 : decode cX9_where 31 = .ok (.istore_n 3, 1) := by decide +kernel
theorem dX9_where_32 : decode cX9_where 32 = .ok (.aload_n 0, 1) := by decide +kernel
theorem dX9_where_33 : decode cX9_where 33 = .ok (.iload_n 1, 1) := by decide +kernel
theorem dX9_where_34 : decode cX9_where 34 = .ok (.iconst (-1), 1) := by decide +kernel
theorem dX9_where_35 : decode cX9_where 35 = .ok (.iconst (-1), 1) := by decide +kernel
theorem dX9_where_36 : decode cX9_where 36 = .ok (.invokevirtual 287, 3) := by decide +kernel
theorem dX9_where_39 : decode cX9_where 39 = .ok (.ifCond .eq 14, 3) := by decide +kernel
theorem dX9_where_42 : decode cX9_where 42 = .ok (.iload_n 3, 1) := by decide +kernel
theorem dX9_where_43 : decode cX9_where 43 = .ok (.ifCond .ne 7, 3) := by decide +kernel
theorem dX9_where_46 : decode cX9_where 46 = .ok (.sipush 9999, 3) := by decide +kernel
theorem dX9_where_49 : decode cX9_where 49 = .ok (.ireturn, 1) := by decide +kernel
theorem dX9_where_50 : decode cX9_where 50 = .ok (.iinc 3 (-1), 3) := by decide +kernel
theorem dX9_where_53 : decode cX9_where 53 = .ok (.iconst 0, 1) := by decide +kernel
theorem dX9_where_54 : decode cX9_where 54 = .ok (.istore 4, 2) := by decide +kernel
theorem dX9_where_56 : decode cX9_where 56 = .ok (.iload 4, 2) := by decide +kernel
theorem dX9_where_58 : decode cX9_where 58 = .ok (.aload_n 0, 1) := by decide +kernel
theorem dX9_where_59 : decode cX9_where 59 = .ok (.getfield 12, 3) := by decide +kernel
theorem dX9_where_62 : decode cX9_where 62 = .ok (.getfield 67, 3) := by decide +kernel
theorem dX9_where_65 : decode cX9_where 65 = .ok (.getfield 71, 3) := by decide +kernel
theorem dX9_where_68 : decode cX9_where 68 = .ok (.if_icmp .ge 30, 3) := by decide +kernel
theorem dX9_where_71 : decode cX9_where 71 = .ok (.aload_n 0, 1) := by decide +kernel
theorem dX9_where_72 : decode cX9_where 72 = .ok (.iload_n 1, 1) := by decide +kernel
theorem dX9_where_73 : decode cX9_where 73 = .ok (.iload 4, 2) := by decide +kernel
theorem dX9_where_75 : decode cX9_where 75 = .ok (.iconst (-1), 1) := by decide +kernel
theorem dX9_where_76 : decode cX9_where 76 = .ok (.invokevirtual 287, 3) := by decide +kernel
theorem dX9_where_79 : decode cX9_where 79 = .ok (.ifCond .eq 13, 3) := by decide +kernel
theorem dX9_where_82 : decode cX9_where 82 = .ok (.iload_n 3, 1) := by decide +kernel
theorem dX9_where_83 : decode cX9_where 83 = .ok (.ifCond .ne 6, 3) := by decide +kernel
theorem dX9_where_86 : decode cX9_where 86 = .ok (.iload 4, 2) := by decide +kernel
theorem dX9_where_88 : decode cX9_where 88 = .ok (.ireturn, 1) := by decide +kernel
theorem dX9_where_89 : decode cX9_where 89 = .ok (.iinc 3 (-1), 3) := by decide +kernel
theorem dX9_where_92 : decode cX9_where 92 = .ok (.iinc 4 1, 3) := by decide +kernel
theorem dX9_where_95 : decode cX9_where 95 = .ok (.goto (-39), 3) := by decide +kernel
theorem dX9_where_98 : decode cX9_where 98 = .ok (.aload_n 0, 1) := by decide +kernel
theorem dX9_where_99 : decode cX9_where 99 = .ok (.iload_n 1, 1) := by decide +kernel
theorem dX9_where_100 : decode cX9_where 100 = .ok (.iload_n 3, 1) := by decide +kernel
theorem dX9_where_101 : decode cX9_where 101 = .ok (.invokevirtual 290, 3) := by decide +kernel
theorem dX9_where_104 : decode cX9_where 104 = .ok (.ireturn, 1) := by decide +kernel
theorem dX9_pairWhere_0 : decode cX9_pairWhere 0 = .ok (.iload_n 2, 1) := by decide +kernel
theorem dX9_pairWhere_1 : decode cX9_pairWhere 1 = .ok (.istore_n 3, 1) := by decide +kernel
theorem dX9_pairWhere_2 : decode cX9_pairWhere 2 = .ok (.iconst 0, 1) := by decide +kernel
theorem dX9_pairWhere_3 : decode cX9_pairWhere 3 = .ok (.istore 4, 2) := by decide +kernel
theorem dX9_pairWhere_5 : decode cX9_pairWhere 5 = .ok (.iload 4, 2) := by decide +kernel
theorem dX9_pairWhere_7 : decode cX9_pairWhere 7 = .ok (.aload_n 0, 1) := by decide +kernel
theorem dX9_pairWhere_8 : decode cX9_pairWhere 8 = .ok (.getfield 12, 3) := by decide +kernel
theorem dX9_pairWhere_11 : decode cX9_pairWhere 11 = .ok (.getfield 67, 3) := by decide +kernel
theorem dX9_pairWhere_14 : decode cX9_pairWhere 14 = .ok (.getfield 71, 3) := by decide +kernel
theorem dX9_pairWhere_17 : decode cX9_pairWhere 17 = .ok (.if_icmp .ge 66, 3) := by decide +kernel
theorem dX9_pairWhere_20 : decode cX9_pairWhere 20 = .ok (.iload 4, 2) := by decide +kernel
theorem dX9_pairWhere_22 : decode cX9_pairWhere 22 = .ok (.iconst 1, 1) := by decide +kernel
theorem dX9_pairWhere_23 : decode cX9_pairWhere 23 = .ok (.iadd, 1) := by decide +kernel
theorem dX9_pairWhere_24 : decode cX9_pairWhere 24 = .ok (.istore 5, 2) := by decide +kernel
theorem dX9_pairWhere_26 : decode cX9_pairWhere 26 = .ok (.iload 5, 2) := by decide +kernel
theorem dX9_pairWhere_28 : decode cX9_pairWhere 28 = .ok (.aload_n 0, 1) := by decide +kernel
theorem dX9_pairWhere_29 : decode cX9_pairWhere 29 = .ok (.getfield 12, 3) := by decide +kernel
theorem dX9_pairWhere_32 : decode cX9_pairWhere 32 = .ok (.getfield 67, 3) := by decide +kernel
theorem dX9_pairWhere_35 : decode cX9_pairWhere 35 = .ok (.getfield 71, 3) := by decide +kernel
theorem dX9_pairWhere_38 : decode cX9_pairWhere 38 = .ok (.if_icmp .ge 39, 3) := by decide +kernel
theorem dX9_pairWhere_41 : decode cX9_pairWhere 41 = .ok (.aload_n 0, 1) := by decide +kernel
theorem dX9_pairWhere_42 : decode cX9_pairWhere 42 = .ok (.iload_n 1, 1) := by decide +kernel
theorem dX9_pairWhere_43 : decode cX9_pairWhere 43 = .ok (.iload 4, 2) := by decide +kernel
theorem dX9_pairWhere_45 : decode cX9_pairWhere 45 = .ok (.iload 5, 2) := by decide +kernel
theorem dX9_pairWhere_47 : decode cX9_pairWhere 47 = .ok (.invokevirtual 287, 3) := by decide +kernel
theorem dX9_pairWhere_50 : decode cX9_pairWhere 50 = .ok (.ifCond .eq 21, 3) := by decide +kernel
theorem dX9_pairWhere_53 : decode cX9_pairWhere 53 = .ok (.iload_n 3, 1) := by decide +kernel
theorem dX9_pairWhere_54 : decode cX9_pairWhere 54 = .ok (.ifCond .ne 14, 3) := by decide +kernel
theorem dX9_pairWhere_57 : decode cX9_pairWhere 57 = .ok (.bipush 100, 2) := by decide +kernel
theorem dX9_pairWhere_59 : decode cX9_pairWhere 59 = .ok (.iload 4, 2) := by decide +kernel
theorem dX9_pairWhere_61 : decode cX9_pairWhere 61 = .ok (.iconst 1, 1) := by decide +kernel
theorem dX9_pairWhere_62 : decode cX9_pairWhere 62 = .ok (.iadd, 1) := by decide +kernel
theorem dX9_pairWhere_63 : decode cX9_pairWhere 63 = .ok (.imul, 1) := by decide +kernel
theorem dX9_pairWhere_64 : decode cX9_pairWhere 64 = .ok (.iload 5, 2) := by decide +kernel
theorem dX9_pairWhere_66 : decode cX9_pairWhere 66 = .ok (.iadd, 1) := by decide +kernel
theorem dX9_pairWhere_67 : decode cX9_pairWhere 67 = .ok (.ireturn, 1) := by decide +kernel
theorem dX9_pairWhere_68 : decode cX9_pairWhere 68 = .ok (.iinc 3 (-1), 3) := by decide +kernel
theorem dX9_pairWhere_71 : decode cX9_pairWhere 71 = .ok (.iinc 5 1, 3) := by decide +kernel
theorem dX9_pairWhere_74 : decode cX9_pairWhere 74 = .ok (.goto (-48), 3) := by decide +kernel
theorem dX9_pairWhere_77 : decode cX9_pairWhere 77 = .ok (.iinc 4 1, 3) := by decide +kernel
theorem dX9_pairWhere_80 : decode cX9_pairWhere 80 = .ok (.goto (-75), 3) := by decide +kernel
theorem dX9_pairWhere_83 : decode cX9_pairWhere 83 = .ok (.bipush (-6), 2) := by decide +kernel
theorem dX9_pairWhere_85 : decode cX9_pairWhere 85 = .ok (.ireturn, 1) := by decide +kernel
theorem dX9_fits_0 : decode cX9_fits 0 = .ok (.aload_n 0, 1) := by decide +kernel
theorem dX9_fits_1 : decode cX9_fits 1 = .ok (.getfield 22, 3) := by decide +kernel
theorem dX9_fits_4 : decode cX9_fits 4 = .ok (.aload_n 0, 1) := by decide +kernel
theorem dX9_fits_5 : decode cX9_fits 5 = .ok (.getfield 12, 3) := by decide +kernel
theorem dX9_fits_8 : decode cX9_fits 8 = .ok (.getfield 77, 3) := by decide +kernel
theorem dX9_fits_11 : decode cX9_fits 11 = .ok (.invokevirtual 293, 3) := by decide +kernel
theorem dX9_fits_14 : decode cX9_fits 14 = .ok (.aload_n 0, 1) := by decide +kernel
theorem dX9_fits_15 : decode cX9_fits 15 = .ok (.iload_n 2, 1) := by decide +kernel
theorem dX9_fits_16 : decode cX9_fits 16 = .ok (.invokevirtual 297, 3) := by decide +kernel
theorem dX9_fits_19 : decode cX9_fits 19 = .ok (.ifCond .eq 11, 3) := by decide +kernel
theorem dX9_fits_22 : decode cX9_fits 22 = .ok (.aload_n 0, 1) := by decide +kernel
theorem dX9_fits_23 : decode cX9_fits 23 = .ok (.iload_n 3, 1) := by decide +kernel
theorem dX9_fits_24 : decode cX9_fits 24 = .ok (.invokevirtual 297, 3) := by decide +kernel
theorem dX9_fits_27 : decode cX9_fits 27 = .ok (.ifCond .ne 5, 3) := by decide +kernel
theorem dX9_fits_30 : decode cX9_fits 30 = .ok (.iconst 0, 1) := by decide +kernel
theorem dX9_fits_31 : decode cX9_fits 31 = .ok (.ireturn, 1) := by decide +kernel
theorem dX9_fits_32 : decode cX9_fits 32 = .ok (.iconst 0, 1) := by decide +kernel
theorem dX9_fits_33 : decode cX9_fits 33 = .ok (.istore 4, 2) := by decide +kernel
theorem dX9_fits_35 : decode cX9_fits 35 = .ok (.iload 4, 2) := by decide +kernel
theorem dX9_fits_37 : decode cX9_fits 37 = .ok (.iload_n 1, 1) := by decide +kernel
theorem dX9_fits_38 : decode cX9_fits 38 = .ok (.if_icmp .ge 24, 3) := by decide +kernel
theorem dX9_fits_41 : decode cX9_fits 41 = .ok (.aload_n 0, 1) := by decide +kernel
theorem dX9_fits_42 : decode cX9_fits 42 = .ok (.getfield 29, 3) := by decide +kernel
theorem dX9_fits_45 : decode cX9_fits 45 = .ok (.aload_n 0, 1) := by decide +kernel
theorem dX9_fits_46 : decode cX9_fits 46 = .ok (.getfield 12, 3) := by decide +kernel
theorem dX9_fits_49 : decode cX9_fits 49 = .ok (.aload_n 0, 1) := by decide +kernel
theorem dX9_fits_50 : decode cX9_fits 50 = .ok (.getfield 22, 3) := by decide +kernel
theorem dX9_fits_53 : decode cX9_fits 53 = .ok (.invokevirtual 246, 3) := by decide +kernel
theorem dX9_fits_56 : decode cX9_fits 56 = .ok (.iinc 4 1, 3) := by decide +kernel
theorem dX9_fits_59 : decode cX9_fits 59 = .ok (.goto (-24), 3) := by decide +kernel
theorem dX9_fits_62 : decode cX9_fits 62 = .ok (.aload_n 0, 1) := by decide +kernel
theorem dX9_fits_63 : decode cX9_fits 63 = .ok (.getfield 22, 3) := by decide +kernel
theorem dX9_fits_66 : decode cX9_fits 66 = .ok (.aload_n 0, 1) := by decide +kernel
theorem dX9_fits_67 : decode cX9_fits 67 = .ok (.getfield 12, 3) := by decide +kernel
theorem dX9_fits_70 : decode cX9_fits 70 = .ok (.getfield 96, 3) := by decide +kernel
theorem dX9_fits_73 : decode cX9_fits 73 = .ok (.invokevirtual 300, 3) := by decide +kernel
theorem dX9_fits_76 : decode cX9_fits 76 = .ok (.ireturn, 1) := by decide +kernel
theorem dX9_blockTried_0 : decode cX9_blockTried 0 = .ok (.iload_n 1, 1) := by decide +kernel
theorem dX9_blockTried_1 : decode cX9_blockTried 1 = .ok (.iconst (-1), 1) := by decide +kernel
theorem dX9_blockTried_2 : decode cX9_blockTried 2 = .ok (.if_icmp .eq 19, 3) := by decide +kernel
theorem dX9_blockTried_5 : decode cX9_blockTried 5 = .ok (.aload_n 0, 1) := by decide +kernel
theorem dX9_blockTried_6 : decode cX9_blockTried 6 = .ok (.getfield 22, 3) := by decide +kernel
theorem dX9_blockTried_9 : decode cX9_blockTried 9 = .ok (.getfield 203, 3) := by decide +kernel
theorem dX9_blockTried_12 : decode cX9_blockTried 12 = .ok (.iload_n 1, 1) := by decide +kernel
theorem dX9_blockTried_13 : decode cX9_blockTried 13 = .ok (.iconst 1, 1) := by decide +kernel
theorem dX9_blockTried_14 : decode cX9_blockTried 14 = .ok (.invokevirtual 206, 3) := by decide +kernel
theorem dX9_blockTried_17 : decode cX9_blockTried 17 = .ok (.iconst 1, 1) := by decide +kernel
theorem dX9_blockTried_18 : decode cX9_blockTried 18 = .ok (.if_icmp .ne 7, 3) := by decide +kernel
theorem dX9_blockTried_21 : decode cX9_blockTried 21 = .ok (.iconst 1, 1) := by decide +kernel
theorem dX9_blockTried_22 : decode cX9_blockTried 22 = .ok (.goto 4, 3) := by decide +kernel
theorem dX9_blockTried_25 : decode cX9_blockTried 25 = .ok (.iconst 0, 1) := by decide +kernel
theorem dX9_blockTried_26 : decode cX9_blockTried 26 = .ok (.ireturn, 1) := by decide +kernel
theorem dX9_keep_0 : decode cX9_keep 0 = .ok (.aload_n 0, 1) := by decide +kernel
theorem dX9_keep_1 : decode cX9_keep 1 = .ok (.getfield 16, 3) := by decide +kernel
theorem dX9_keep_4 : decode cX9_keep 4 = .ok (.aload_n 0, 1) := by decide +kernel
theorem dX9_keep_5 : decode cX9_keep 5 = .ok (.getfield 12, 3) := by decide +kernel
theorem dX9_keep_8 : decode cX9_keep 8 = .ok (.invokevirtual 304, 3) := by decide +kernel
theorem dX9_keep_11 : decode cX9_keep 11 = .ok (.aload_n 0, 1) := by decide +kernel
theorem dX9_keep_12 : decode cX9_keep 12 = .ok (.iconst 1, 1) := by decide +kernel
theorem dX9_keep_13 : decode cX9_keep 13 = .ok (.putfield 40, 3) := by decide +kernel
theorem dX9_keep_16 : decode cX9_keep 16 = .ok (.iconst 1, 1) := by decide +kernel
theorem dX9_keep_17 : decode cX9_keep 17 = .ok (.ireturn, 1) := by decide +kernel
theorem dX9_back_0 : decode cX9_back 0 = .ok (.aload_n 0, 1) := by decide +kernel
theorem dX9_back_1 : decode cX9_back 1 = .ok (.getfield 40, 3) := by decide +kernel
theorem dX9_back_4 : decode cX9_back 4 = .ok (.ifCond .ne 6, 3) := by decide +kernel
theorem dX9_back_7 : decode cX9_back 7 = .ok (.bipush (-6), 2) := by decide +kernel
theorem dX9_back_9 : decode cX9_back 9 = .ok (.ireturn, 1) := by decide +kernel
theorem dX9_back_10 : decode cX9_back 10 = .ok (.aload_n 0, 1) := by decide +kernel
theorem dX9_back_11 : decode cX9_back 11 = .ok (.getfield 12, 3) := by decide +kernel
theorem dX9_back_14 : decode cX9_back 14 = .ok (.aload_n 0, 1) := by decide +kernel
theorem dX9_back_15 : decode cX9_back 15 = .ok (.getfield 16, 3) := by decide +kernel
theorem dX9_back_18 : decode cX9_back 18 = .ok (.invokevirtual 304, 3) := by decide +kernel
theorem dX9_back_21 : decode cX9_back 21 = .ok (.iconst 1, 1) := by decide +kernel
theorem dX9_back_22 : decode cX9_back 22 = .ok (.ireturn, 1) := by decide +kernel
theorem dX9_isWithin_0 : decode cX9_isWithin 0 = .ok (.iload_n 0, 1) := by decide +kernel
theorem dX9_isWithin_1 : decode cX9_isWithin 1 = .ok (.iload_n 1, 1) := by decide +kernel
theorem dX9_isWithin_2 : decode cX9_isWithin 2 = .ok (.if_icmp .lt 12, 3) := by decide +kernel
theorem dX9_isWithin_5 : decode cX9_isWithin 5 = .ok (.iload_n 0, 1) := by decide +kernel
theorem dX9_isWithin_6 : decode cX9_isWithin 6 = .ok (.iload_n 2, 1) := by decide +kernel
theorem dX9_isWithin_7 : decode cX9_isWithin 7 = .ok (.if_icmp .gt 7, 3) := by decide +kernel
theorem dX9_isWithin_10 : decode cX9_isWithin 10 = .ok (.iconst 1, 1) := by decide +kernel
theorem dX9_isWithin_11 : decode cX9_isWithin 11 = .ok (.goto 4, 3) := by decide +kernel
theorem dX9_isWithin_14 : decode cX9_isWithin 14 = .ok (.iconst 0, 1) := by decide +kernel
theorem dX9_isWithin_15 : decode cX9_isWithin 15 = .ok (.ireturn, 1) := by decide +kernel
theorem dX9_isSoil_0 : decode cX9_isSoil 0 = .ok (.iload_n 0, 1) := by decide +kernel
theorem dX9_isSoil_1 : decode cX9_isSoil 1 = .ok (.ifCond .lt 12, 3) := by decide +kernel
theorem dX9_isSoil_4 : decode cX9_isSoil 4 = .ok (.iload_n 0, 1) := by decide +kernel
theorem dX9_isSoil_5 : decode cX9_isSoil 5 = .ok (.iconst 4, 1) := by decide +kernel
theorem dX9_isSoil_6 : decode cX9_isSoil 6 = .ok (.if_icmp .ge 7, 3) := by decide +kernel
theorem dX9_isSoil_9 : decode cX9_isSoil 9 = .ok (.iconst 1, 1) := by decide +kernel
theorem dX9_isSoil_10 : decode cX9_isSoil 10 = .ok (.goto 4, 3) := by decide +kernel
theorem dX9_isSoil_13 : decode cX9_isSoil 13 = .ok (.iconst 0, 1) := by decide +kernel
theorem dX9_isSoil_14 : decode cX9_isSoil 14 = .ok (.ireturn, 1) := by decide +kernel
theorem dX9_isDitch_0 : decode cX9_isDitch 0 = .ok (.iload_n 0, 1) := by decide +kernel
theorem dX9_isDitch_1 : decode cX9_isDitch 1 = .ok (.ifCond .lt 12, 3) := by decide +kernel
theorem dX9_isDitch_4 : decode cX9_isDitch 4 = .ok (.iload_n 0, 1) := by decide +kernel
theorem dX9_isDitch_5 : decode cX9_isDitch 5 = .ok (.iconst 4, 1) := by decide +kernel
theorem dX9_isDitch_6 : decode cX9_isDitch 6 = .ok (.if_icmp .ge 7, 3) := by decide +kernel
theorem dX9_isDitch_9 : decode cX9_isDitch 9 = .ok (.iconst 1, 1) := by decide +kernel
theorem dX9_isDitch_10 : decode cX9_isDitch 10 = .ok (.goto 4, 3) := by decide +kernel
theorem dX9_isDitch_13 : decode cX9_isDitch 13 = .ok (.iconst 0, 1) := by decide +kernel
theorem dX9_isDitch_14 : decode cX9_isDitch 14 = .ok (.ireturn, 1) := by decide +kernel
theorem dX9_numberAt_0 : decode cX9_numberAt 0 = .ok (.iload_n 1, 1) := by decide +kernel
theorem dX9_numberAt_1 : decode cX9_numberAt 1 = .ok (.ifCond .lt 15, 3) := by decide +kernel
theorem dX9_numberAt_4 : decode cX9_numberAt 4 = .ok (.iload_n 1, 1) := by decide +kernel
theorem dX9_numberAt_5 : decode cX9_numberAt 5 = .ok (.aload_n 0, 1) := by decide +kernel
theorem dX9_numberAt_6 : decode cX9_numberAt 6 = .ok (.arraylength, 1) := by decide +kernel
theorem dX9_numberAt_7 : decode cX9_numberAt 7 = .ok (.if_icmp .ge 9, 3) := by decide +kernel
theorem dX9_numberAt_10 : decode cX9_numberAt 10 = .ok (.aload_n 0, 1) := by decide +kernel
theorem dX9_numberAt_11 : decode cX9_numberAt 11 = .ok (.iload_n 1, 1) := by decide +kernel
theorem dX9_numberAt_12 : decode cX9_numberAt 12 = .ok (.iaload, 1) := by decide +kernel
theorem dX9_numberAt_13 : decode cX9_numberAt 13 = .ok (.goto 4, 3) := by decide +kernel
theorem dX9_numberAt_16 : decode cX9_numberAt 16 = .ok (.iconst 0, 1) := by decide +kernel
theorem dX9_numberAt_17 : decode cX9_numberAt 17 = .ok (.ireturn, 1) := by decide +kernel
theorem dX9_sum_0 : decode cX9_sum 0 = .ok (.iconst 0, 1) := by decide +kernel
theorem dX9_sum_1 : decode cX9_sum 1 = .ok (.istore_n 1, 1) := by decide +kernel
theorem dX9_sum_2 : decode cX9_sum 2 = .ok (.iconst 0, 1) := by decide +kernel
theorem dX9_sum_3 : decode cX9_sum 3 = .ok (.istore_n 2, 1) := by decide +kernel
theorem dX9_sum_4 : decode cX9_sum 4 = .ok (.iload_n 2, 1) := by decide +kernel
theorem dX9_sum_5 : decode cX9_sum 5 = .ok (.aload_n 0, 1) := by decide +kernel
theorem dX9_sum_6 : decode cX9_sum 6 = .ok (.arraylength, 1) := by decide +kernel
theorem dX9_sum_7 : decode cX9_sum 7 = .ok (.if_icmp .ge 15, 3) := by decide +kernel
theorem dX9_sum_10 : decode cX9_sum 10 = .ok (.iload_n 1, 1) := by decide +kernel
theorem dX9_sum_11 : decode cX9_sum 11 = .ok (.aload_n 0, 1) := by decide +kernel
theorem dX9_sum_12 : decode cX9_sum 12 = .ok (.iload_n 2, 1) := by decide +kernel
theorem dX9_sum_13 : decode cX9_sum 13 = .ok (.iaload, 1) := by decide +kernel
theorem dX9_sum_14 : decode cX9_sum 14 = .ok (.iadd, 1) := by decide +kernel
theorem dX9_sum_15 : decode cX9_sum 15 = .ok (.istore_n 1, 1) := by decide +kernel
theorem dX9_sum_16 : decode cX9_sum 16 = .ok (.iinc 2 1, 3) := by decide +kernel
theorem dX9_sum_19 : decode cX9_sum 19 = .ok (.goto (-15), 3) := by decide +kernel
theorem dX9_sum_22 : decode cX9_sum 22 = .ok (.iload_n 1, 1) := by decide +kernel
theorem dX9_sum_23 : decode cX9_sum 23 = .ok (.ireturn, 1) := by decide +kernel
theorem dX9_fill_0 : decode cX9_fill 0 = .ok (.iconst 0, 1) := by decide +kernel
theorem dX9_fill_1 : decode cX9_fill 1 = .ok (.istore_n 2, 1) := by decide +kernel
theorem dX9_fill_2 : decode cX9_fill 2 = .ok (.iload_n 2, 1) := by decide +kernel
theorem dX9_fill_3 : decode cX9_fill 3 = .ok (.aload_n 0, 1) := by decide +kernel
theorem dX9_fill_4 : decode cX9_fill 4 = .ok (.arraylength, 1) := by decide +kernel
theorem dX9_fill_5 : decode cX9_fill 5 = .ok (.if_icmp .ge 13, 3) := by decide +kernel
theorem dX9_fill_8 : decode cX9_fill 8 = .ok (.aload_n 0, 1) := by decide +kernel
theorem dX9_fill_9 : decode cX9_fill 9 = .ok (.iload_n 2, 1) := by decide +kernel
theorem dX9_fill_10 : decode cX9_fill 10 = .ok (.iload_n 1, 1) := by decide +kernel
theorem dX9_fill_11 : decode cX9_fill 11 = .ok (.iastore, 1) := by decide +kernel
theorem dX9_fill_12 : decode cX9_fill 12 = .ok (.iinc 2 1, 3) := by decide +kernel
theorem dX9_fill_15 : decode cX9_fill 15 = .ok (.goto (-13), 3) := by decide +kernel
theorem dX9_fill_18 : decode cX9_fill 18 = .ok (.return_, 1) := by decide +kernel
theorem dX9_copy_0 : decode cX9_copy 0 = .ok (.aload_n 0, 1) := by decide +kernel
theorem dX9_copy_1 : decode cX9_copy 1 = .ok (.arraylength, 1) := by decide +kernel
theorem dX9_copy_2 : decode cX9_copy 2 = .ok (.aload_n 1, 1) := by decide +kernel
theorem dX9_copy_3 : decode cX9_copy 3 = .ok (.arraylength, 1) := by decide +kernel
theorem dX9_copy_4 : decode cX9_copy 4 = .ok (.invokestatic 307, 3) := by decide +kernel
theorem dX9_copy_7 : decode cX9_copy 7 = .ok (.istore_n 2, 1) := by decide +kernel
theorem dX9_copy_8 : decode cX9_copy 8 = .ok (.iconst 0, 1) := by decide +kernel
theorem dX9_copy_9 : decode cX9_copy 9 = .ok (.istore_n 3, 1) := by decide +kernel
theorem dX9_copy_10 : decode cX9_copy 10 = .ok (.iload_n 3, 1) := by decide +kernel
theorem dX9_copy_11 : decode cX9_copy 11 = .ok (.iload_n 2, 1) := by decide +kernel
theorem dX9_copy_12 : decode cX9_copy 12 = .ok (.if_icmp .ge 15, 3) := by decide +kernel
theorem dX9_copy_15 : decode cX9_copy 15 = .ok (.aload_n 1, 1) := by decide +kernel
theorem dX9_copy_16 : decode cX9_copy 16 = .ok (.iload_n 3, 1) := by decide +kernel
theorem dX9_copy_17 : decode cX9_copy 17 = .ok (.aload_n 0, 1) := by decide +kernel
theorem dX9_copy_18 : decode cX9_copy 18 = .ok (.iload_n 3, 1) := by decide +kernel
theorem dX9_copy_19 : decode cX9_copy 19 = .ok (.iaload, 1) := by decide +kernel
theorem dX9_copy_20 : decode cX9_copy 20 = .ok (.iastore, 1) := by decide +kernel
theorem dX9_copy_21 : decode cX9_copy 21 = .ok (.iinc 3 1, 3) := by decide +kernel
theorem dX9_copy_24 : decode cX9_copy 24 = .ok (.goto (-14), 3) := by decide +kernel
theorem dX9_copy_27 : decode cX9_copy 27 = .ok (.return_, 1) := by decide +kernel
theorem dX10_init_0 : decode cX10_init 0 = .ok (.aload_n 0, 1) := by decide +kernel
theorem dX10_init_1 : decode cX10_init 1 = .ok (.invokespecial 1, 3) := by decide +kernel
theorem dX10_init_4 : decode cX10_init 4 = .ok (.aload_n 0, 1) := by decide +kernel
theorem dX10_init_5 : decode cX10_init 5 = .ok (.sipush 800, 3) := by decide +kernel
theorem dX10_init_8 : decode cX10_init 8 = .ok (.newarray .int, 2) := by decide +kernel
theorem dX10_init_10 : decode cX10_init 10 = .ok (.putfield 7, 3) := by decide +kernel
theorem dX10_init_13 : decode cX10_init 13 = .ok (.aload_n 0, 1) := by decide +kernel
theorem dX10_init_14 : decode cX10_init 14 = .ok (.sipush 800, 3) := by decide +kernel
theorem dX10_init_17 : decode cX10_init 17 = .ok (.newarray .int, 2) := by decide +kernel
theorem dX10_init_19 : decode cX10_init 19 = .ok (.putfield 13, 3) := by decide +kernel
theorem dX10_init_22 : decode cX10_init 22 = .ok (.aload_n 0, 1) := by decide +kernel
theorem dX10_init_23 : decode cX10_init 23 = .ok (.sipush 800, 3) := by decide +kernel
theorem dX10_init_26 : decode cX10_init 26 = .ok (.newarray .int, 2) := by decide +kernel
theorem dX10_init_28 : decode cX10_init 28 = .ok (.putfield 16, 3) := by decide +kernel
theorem dX10_init_31 : decode cX10_init 31 = .ok (.aload_n 0, 1) := by decide +kernel
theorem dX10_init_32 : decode cX10_init 32 = .ok (.bipush 36, 2) := by decide +kernel
theorem dX10_init_34 : decode cX10_init 34 = .ok (.newarray .int, 2) := by decide +kernel
theorem dX10_init_36 : decode cX10_init 36 = .ok (.putfield 19, 3) := by decide +kernel
theorem dX10_init_39 : decode cX10_init 39 = .ok (.aload_n 0, 1) := by decide +kernel
theorem dX10_init_40 : decode cX10_init 40 = .ok (.bipush 36, 2) := by decide +kernel
theorem dX10_init_42 : decode cX10_init 42 = .ok (.newarray .int, 2) := by decide +kernel
theorem dX10_init_44 : decode cX10_init 44 = .ok (.putfield 22, 3) := by decide +kernel
theorem dX10_init_47 : decode cX10_init 47 = .ok (.aload_n 0, 1) := by decide +kernel
theorem dX10_init_48 : decode cX10_init 48 = .ok (.getfield 7, 3) := by decide +kernel
theorem dX10_init_51 : decode cX10_init 51 = .ok (.iconst 0, 1) := by decide +kernel
theorem dX10_init_52 : decode cX10_init 52 = .ok (.iconst 1, 1) := by decide +kernel
theorem dX10_init_53 : decode cX10_init 53 = .ok (.iastore, 1) := by decide +kernel
theorem dX10_init_54 : decode cX10_init 54 = .ok (.aload_n 0, 1) := by decide +kernel
theorem dX10_init_55 : decode cX10_init 55 = .ok (.getfield 7, 3) := by decide +kernel
theorem dX10_init_58 : decode cX10_init 58 = .ok (.iconst 1, 1) := by decide +kernel
theorem dX10_init_59 : decode cX10_init 59 = .ok (.iconst 1, 1) := by decide +kernel
theorem dX10_init_60 : decode cX10_init 60 = .ok (.iastore, 1) := by decide +kernel
theorem dX10_init_61 : decode cX10_init 61 = .ok (.return_, 1) := by decide +kernel
theorem dX10_in_0 : decode cX10_in 0 = .ok (.iload_n 0, 1) := by decide +kernel
theorem dX10_in_1 : decode cX10_in 1 = .ok (.iload_n 1, 1) := by decide +kernel
theorem dX10_in_2 : decode cX10_in 2 = .ok (.if_icmp .lt 12, 3) := by decide +kernel
theorem dX10_in_5 : decode cX10_in 5 = .ok (.iload_n 0, 1) := by decide +kernel
theorem dX10_in_6 : decode cX10_in 6 = .ok (.iload_n 2, 1) := by decide +kernel
theorem dX10_in_7 : decode cX10_in 7 = .ok (.if_icmp .gt 7, 3) := by decide +kernel
theorem dX10_in_10 : decode cX10_in 10 = .ok (.iconst 1, 1) := by decide +kernel
theorem dX10_in_11 : decode cX10_in 11 = .ok (.goto 4, 3) := by decide +kernel
theorem dX10_in_14 : decode cX10_in 14 = .ok (.iconst 0, 1) := by decide +kernel
theorem dX10_in_15 : decode cX10_in 15 = .ok (.ireturn, 1) := by decide +kernel
