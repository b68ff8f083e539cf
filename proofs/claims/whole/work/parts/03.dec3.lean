theorem dX10_places_0 : decode cX10_places 0 = .ok (.aload_n 0, 1) := by decide +kernel
theorem dX10_places_1 : decode cX10_places 1 = .ok (.getfield 7, 3) := by decide +kernel
theorem dX10_places_4 : decode cX10_places 4 = .ok (.iconst 0, 1) := by decide +kernel
theorem dX10_places_5 : decode cX10_places 5 = .ok (.iaload, 1) := by decide +kernel
theorem dX10_places_6 : decode cX10_places 6 = .ok (.aload_n 0, 1) := by decide +kernel
theorem dX10_places_7 : decode cX10_places 7 = .ok (.getfield 7, 3) := by decide +kernel
theorem dX10_places_10 : decode cX10_places 10 = .ok (.iconst 1, 1) := by decide +kernel
theorem dX10_places_11 : decode cX10_places 11 = .ok (.iaload, 1) := by decide +kernel
theorem dX10_places_12 : decode cX10_places 12 = .ok (.imul, 1) := by decide +kernel
theorem dX10_places_13 : decode cX10_places 13 = .ok (.ireturn, 1) := by decide +kernel
theorem dX10_isPlace_0 : decode cX10_isPlace 0 = .ok (.iload_n 1, 1) := by decide +kernel
theorem dX10_isPlace_1 : decode cX10_isPlace 1 = .ok (.iconst 0, 1) := by decide +kernel
theorem dX10_isPlace_2 : decode cX10_isPlace 2 = .ok (.aload_n 0, 1) := by decide +kernel
theorem dX10_isPlace_3 : decode cX10_isPlace 3 = .ok (.invokevirtual 25, 3) := by decide +kernel
theorem dX10_isPlace_6 : decode cX10_isPlace 6 = .ok (.iconst 1, 1) := by decide +kernel
theorem dX10_isPlace_7 : decode cX10_isPlace 7 = .ok (.isub, 1) := by decide +kernel
theorem dX10_isPlace_8 : decode cX10_isPlace 8 = .ok (.invokestatic 29, 3) := by decide +kernel
theorem dX10_isPlace_11 : decode cX10_isPlace 11 = .ok (.ireturn, 1) := by decide +kernel
theorem dX10_isPipe_0 : decode cX10_isPipe 0 = .ok (.iload_n 1, 1) := by decide +kernel
theorem dX10_isPipe_1 : decode cX10_isPipe 1 = .ok (.iconst 0, 1) := by decide +kernel
theorem dX10_isPipe_2 : decode cX10_isPipe 2 = .ok (.aload_n 0, 1) := by decide +kernel
theorem dX10_isPipe_3 : decode cX10_isPipe 3 = .ok (.getfield 7, 3) := by decide +kernel
theorem dX10_isPipe_6 : decode cX10_isPipe 6 = .ok (.bipush 13, 2) := by decide +kernel
theorem dX10_isPipe_8 : decode cX10_isPipe 8 = .ok (.iaload, 1) := by decide +kernel
theorem dX10_isPipe_9 : decode cX10_isPipe 9 = .ok (.iconst 1, 1) := by decide +kernel
theorem dX10_isPipe_10 : decode cX10_isPipe 10 = .ok (.isub, 1) := by decide +kernel
theorem dX10_isPipe_11 : decode cX10_isPipe 11 = .ok (.invokestatic 29, 3) := by decide +kernel
theorem dX10_isPipe_14 : decode cX10_isPipe 14 = .ok (.ireturn, 1) := by decide +kernel
theorem dX10_pipeOf_0 : decode cX10_pipeOf 0 = .ok (.aload_n 0, 1) := by decide +kernel
theorem dX10_pipeOf_1 : decode cX10_pipeOf 1 = .ok (.getfield 7, 3) := by decide +kernel
theorem dX10_pipeOf_4 : decode cX10_pipeOf 4 = .ok (.sipush 400, 3) := by decide +kernel
theorem dX10_pipeOf_7 : decode cX10_pipeOf 7 = .ok (.bipush 20, 2) := by decide +kernel
theorem dX10_pipeOf_9 : decode cX10_pipeOf 9 = .ok (.iload_n 1, 1) := by decide +kernel
theorem dX10_pipeOf_10 : decode cX10_pipeOf 10 = .ok (.imul, 1) := by decide +kernel
theorem dX10_pipeOf_11 : decode cX10_pipeOf 11 = .ok (.iadd, 1) := by decide +kernel
theorem dX10_pipeOf_12 : decode cX10_pipeOf 12 = .ok (.iload_n 2, 1) := by decide +kernel
theorem dX10_pipeOf_13 : decode cX10_pipeOf 13 = .ok (.iadd, 1) := by decide +kernel
theorem dX10_pipeOf_14 : decode cX10_pipeOf 14 = .ok (.iaload, 1) := by decide +kernel
theorem dX10_pipeOf_15 : decode cX10_pipeOf 15 = .ok (.ireturn, 1) := by decide +kernel
theorem dX10_setPipe_0 : decode cX10_setPipe 0 = .ok (.aload_n 0, 1) := by decide +kernel
theorem dX10_setPipe_1 : decode cX10_setPipe 1 = .ok (.getfield 7, 3) := by decide +kernel
theorem dX10_setPipe_4 : decode cX10_setPipe 4 = .ok (.sipush 400, 3) := by decide +kernel
theorem dX10_setPipe_7 : decode cX10_setPipe 7 = .ok (.bipush 20, 2) := by decide +kernel
theorem dX10_setPipe_9 : decode cX10_setPipe 9 = .ok (.iload_n 1, 1) := by decide +kernel
theorem dX10_setPipe_10 : decode cX10_setPipe 10 = .ok (.imul, 1) := by decide +kernel
theorem dX10_setPipe_11 : decode cX10_setPipe 11 = .ok (.iadd, 1) := by decide +kernel
theorem dX10_setPipe_12 : decode cX10_setPipe 12 = .ok (.iload_n 2, 1) := by decide +kernel
theorem dX10_setPipe_13 : decode cX10_setPipe 13 = .ok (.iadd, 1) := by decide +kernel
theorem dX10_setPipe_14 : decode cX10_setPipe 14 = .ok (.iload_n 3, 1) := by decide +kernel
theorem dX10_setPipe_15 : decode cX10_setPipe 15 = .ok (.iastore, 1) := by decide +kernel
theorem dX10_setPipe_16 : decode cX10_setPipe 16 = .ok (.return_, 1) := by decide +kernel
theorem dX10_rowOf_0 : decode cX10_rowOf 0 = .ok (.iload_n 1, 1) := by decide +kernel
theorem dX10_rowOf_1 : decode cX10_rowOf 1 = .ok (.aload_n 0, 1) := by decide +kernel
theorem dX10_rowOf_2 : decode cX10_rowOf 2 = .ok (.getfield 7, 3) := by decide +kernel
theorem dX10_rowOf_5 : decode cX10_rowOf 5 = .ok (.iconst 1, 1) := by decide +kernel
theorem dX10_rowOf_6 : decode cX10_rowOf 6 = .ok (.iaload, 1) := by decide +kernel
theorem dX10_rowOf_7 : decode cX10_rowOf 7 = .ok (.idiv, 1) := by decide +kernel
theorem dX10_rowOf_8 : decode cX10_rowOf 8 = .ok (.ireturn, 1) := by decide +kernel
theorem dX10_columnOf_0 : decode cX10_columnOf 0 = .ok (.iload_n 1, 1) := by decide +kernel
theorem dX10_columnOf_1 : decode cX10_columnOf 1 = .ok (.aload_n 0, 1) := by decide +kernel
theorem dX10_columnOf_2 : decode cX10_columnOf 2 = .ok (.getfield 7, 3) := by decide +kernel
theorem dX10_columnOf_5 : decode cX10_columnOf 5 = .ok (.iconst 1, 1) := by decide +kernel
theorem dX10_columnOf_6 : decode cX10_columnOf 6 = .ok (.iaload, 1) := by decide +kernel
theorem dX10_columnOf_7 : decode cX10_columnOf 7 = .ok (.irem, 1) := by decide +kernel
theorem dX10_columnOf_8 : decode cX10_columnOf 8 = .ok (.ireturn, 1) := by decide +kernel
theorem dX10_size_0 : decode cX10_size 0 = .ok (.iload_n 0, 1) := by decide +kernel
theorem dX10_size_1 : decode cX10_size 1 = .ok (.ifCond .ge 8, 3) := by decide +kernel
theorem dX10_size_4 : decode cX10_size 4 = .ok (.iload_n 0, 1) := by decide +kernel
theorem dX10_size_5 : decode cX10_size 5 = .ok (.ineg, 1) := by decide +kernel
theorem dX10_size_6 : decode cX10_size 6 = .ok (.goto 4, 3) := by decide +kernel
theorem dX10_size_9 : decode cX10_size 9 = .ok (.iload_n 0, 1) := by decide +kernel
theorem dX10_size_10 : decode cX10_size 10 = .ok (.ireturn, 1) := by decide +kernel
theorem dX10_lesser_0 : decode cX10_lesser 0 = .ok (.iload_n 0, 1) := by decide +kernel
theorem dX10_lesser_1 : decode cX10_lesser 1 = .ok (.iload_n 1, 1) := by decide +kernel
theorem dX10_lesser_2 : decode cX10_lesser 2 = .ok (.if_icmp .ge 7, 3) := by decide +kernel
theorem dX10_lesser_5 : decode cX10_lesser 5 = .ok (.iload_n 0, 1) := by decide +kernel
theorem dX10_lesser_6 : decode cX10_lesser 6 = .ok (.goto 4, 3) := by decide +kernel
theorem dX10_lesser_9 : decode cX10_lesser 9 = .ok (.iload_n 1, 1) := by decide +kernel
theorem dX10_lesser_10 : decode cX10_lesser 10 = .ok (.ireturn, 1) := by decide +kernel
theorem dX10_land_0 : decode cX10_land 0 = .ok (.iload_n 1, 1) := by decide +kernel
theorem dX10_land_1 : decode cX10_land 1 = .ok (.iconst 1, 1) := by decide +kernel
theorem dX10_land_2 : decode cX10_land 2 = .ok (.bipush 6, 2) := by decide +kernel
theorem dX10_land_4 : decode cX10_land 4 = .ok (.invokestatic 29, 3) := by decide +kernel
theorem dX10_land_7 : decode cX10_land 7 = .ok (.ifCond .eq 13, 3) := by decide +kernel
theorem dX10_land_10 : decode cX10_land 10 = .ok (.iload_n 2, 1) := by decide +kernel
theorem dX10_land_11 : decode cX10_land 11 = .ok (.iconst 1, 1) := by decide +kernel
theorem dX10_land_12 : decode cX10_land 12 = .ok (.bipush 6, 2) := by decide +kernel
theorem dX10_land_14 : decode cX10_land 14 = .ok (.invokestatic 29, 3) := by decide +kernel
theorem dX10_land_17 : decode cX10_land 17 = .ok (.ifCond .ne 5, 3) := by decide +kernel
theorem dX10_land_20 : decode cX10_land 20 = .ok (.iconst (-1), 1) := by decide +kernel
theorem dX10_land_21 : decode cX10_land 21 = .ok (.ireturn, 1) := by decide +kernel
theorem dX10_land_22 : decode cX10_land 22 = .ok (.iconst 0, 1) := by decide +kernel
theorem dX10_land_23 : decode cX10_land 23 = .ok (.istore_n 3, 1) := by decide +kernel
theorem dX10_land_24 : decode cX10_land 24 = .ok (.iload_n 3, 1) := by decide +kernel
theorem dX10_land_25 : decode cX10_land 25 = .ok (.sipush 800, 3) := by decide +kernel
theorem dX10_land_28 : decode cX10_land 28 = .ok (.if_icmp .ge 39, 3) := by decide +kernel
theorem dX10_land_31 : decode cX10_land 31 = .ok (.aload_n 0, 1) := by decide +kernel
theorem dX10_land_32 : decode cX10_land 32 = .ok (.getfield 7, 3) := by decide +kernel
theorem dX10_land_35 : decode cX10_land 35 = .ok (.iload_n 3, 1) := by decide +kernel
theorem dX10_land_36 : decode cX10_land 36 = .ok (.iload_n 3, 1) := by decide +kernel
theorem dX10_land_37 : decode cX10_land 37 = .ok (.sipush 300, 3) := by decide +kernel
theorem dX10_land_40 : decode cX10_land 40 = .ok (.if_icmp .lt 19, 3) := by decide +kernel
theorem dX10_land_43 : decode cX10_land 43 = .ok (.iload_n 3, 1) := by decide +kernel
theorem dX10_land_44 : decode cX10_land 44 = .ok (.sipush 400, 3) := by decide +kernel
theorem dX10_land_47 : decode cX10_land 47 = .ok (.if_icmp .ge 12, 3) := by decide +kernel
theorem dX10_land_50 : decode cX10_land 50 = .ok (.aload_n 0, 1) := by decide +kernel
theorem dX10_land_51 : decode cX10_land 51 = .ok (.getfield 7, 3) := by decide +kernel
theorem dX10_land_54 : decode cX10_land 54 = .ok (.iload_n 3, 1) := by decide +kernel
theorem dX10_land_55 : decode cX10_land 55 = .ok (.iaload, 1) := by decide +kernel
theorem dX10_land_56 : decode cX10_land 56 = .ok (.goto 4, 3) := by decide +kernel
theorem dX10_land_59 : decode cX10_land 59 = .ok (.iconst 0, 1) := by decide +kernel
theorem dX10_land_60 : decode cX10_land 60 = .ok (.iastore, 1) := by decide +kernel
theorem dX10_land_61 : decode cX10_land 61 = .ok (.iinc 3 1, 3) := by decide +kernel
theorem dX10_land_64 : decode cX10_land 64 = .ok (.goto (-40), 3) := by decide +kernel
theorem dX10_land_67 : decode cX10_land 67 = .ok (.aload_n 0, 1) := by decide +kernel
theorem dX10_land_68 : decode cX10_land 68 = .ok (.getfield 7, 3) := by decide +kernel
theorem dX10_land_71 : decode cX10_land 71 = .ok (.iconst 0, 1) := by decide +kernel
theorem dX10_land_72 : decode cX10_land 72 = .ok (.iload_n 1, 1) := by decide +kernel
theorem dX10_land_73 : decode cX10_land 73 = .ok (.iastore, 1) := by decide +kernel
theorem dX10_land_74 : decode cX10_land 74 = .ok (.aload_n 0, 1) := by decide +kernel
theorem dX10_land_75 : decode cX10_land 75 = .ok (.getfield 7, 3) := by decide +kernel
theorem dX10_land_78 : decode cX10_land 78 = .ok (.iconst 1, 1) := by decide +kernel
theorem dX10_land_79 : decode cX10_land 79 = .ok (.iload_n 2, 1) := by decide +kernel
theorem dX10_land_80 : decode cX10_land 80 = .ok (.iastore, 1) := by decide +kernel
theorem dX10_land_81 : decode cX10_land 81 = .ok (.iconst 0, 1) := by decide +kernel
theorem dX10_land_82 : decode cX10_land 82 = .ok (.istore_n 3, 1) := by decide +kernel
theorem dX10_land_83 : decode cX10_land 83 = .ok (.iload_n 3, 1) := by decide +kernel
theorem dX10_land_84 : decode cX10_land 84 = .ok (.bipush 36, 2) := by decide +kernel
theorem dX10_land_86 : decode cX10_land 86 = .ok (.if_icmp .ge 21, 3) := by decide +kernel
theorem dX10_land_89 : decode cX10_land 89 = .ok (.aload_n 0, 1) := by decide +kernel
theorem dX10_land_90 : decode cX10_land 90 = .ok (.getfield 7, 3) := by decide +kernel
theorem dX10_land_93 : decode cX10_land 93 = .ok (.bipush 20, 2) := by decide +kernel
theorem dX10_land_95 : decode cX10_land 95 = .ok (.iload_n 3, 1) := by decide +kernel
theorem dX10_land_96 : decode cX10_land 96 = .ok (.iadd, 1) := by decide +kernel
theorem dX10_land_97 : decode cX10_land 97 = .ok (.sipush 1000, 3) := by decide +kernel
theorem dX10_land_100 : decode cX10_land 100 = .ok (.iastore, 1) := by decide +kernel
theorem dX10_land_101 : decode cX10_land 101 = .ok (.iinc 3 1, 3) := by decide +kernel
theorem dX10_land_104 : decode cX10_land 104 = .ok (.goto (-21), 3) := by decide +kernel
theorem dX10_land_107 : decode cX10_land 107 = .ok (.iload_n 1, 1) := by decide +kernel
theorem dX10_land_108 : decode cX10_land 108 = .ok (.iload_n 2, 1) := by decide +kernel
theorem dX10_land_109 : decode cX10_land 109 = .ok (.imul, 1) := by decide +kernel
theorem dX10_land_110 : decode cX10_land 110 = .ok (.ireturn, 1) := by decide +kernel
theorem dX10_height_0 : decode cX10_height 0 = .ok (.aload_n 0, 1) := by decide +kernel
theorem dX10_height_1 : decode cX10_height 1 = .ok (.iload_n 1, 1) := by decide +kernel
theorem dX10_height_2 : decode cX10_height 2 = .ok (.invokevirtual 33, 3) := by decide +kernel
theorem dX10_height_5 : decode cX10_height 5 = .ok (.ifCond .eq 14, 3) := by decide +kernel
theorem dX10_height_8 : decode cX10_height 8 = .ok (.iload_n 2, 1) := by decide +kernel
theorem dX10_height_9 : decode cX10_height 9 = .ok (.iconst 0, 1) := by decide +kernel
theorem dX10_height_10 : decode cX10_height 10 = .ok (.sipush 2000, 3) := by decide +kernel
theorem dX10_height_13 : decode cX10_height 13 = .ok (.invokestatic 29, 3) := by decide +kernel
theorem dX10_height_16 : decode cX10_height 16 = .ok (.ifCond .ne 5, 3) := by decide +kernel
theorem dX10_height_19 : decode cX10_height 19 = .ok (.iconst (-1), 1) := by decide +kernel
theorem dX10_height_20 : decode cX10_height 20 = .ok (.ireturn, 1) := by decide +kernel
theorem dX10_height_21 : decode cX10_height 21 = .ok (.aload_n 0, 1) := by decide +kernel
theorem dX10_height_22 : decode cX10_height 22 = .ok (.getfield 7, 3) := by decide +kernel
theorem dX10_height_25 : decode cX10_height 25 = .ok (.bipush 20, 2) := by decide +kernel
theorem dX10_height_27 : decode cX10_height 27 = .ok (.iload_n 1, 1) := by decide +kernel
theorem dX10_height_28 : decode cX10_height 28 = .ok (.iadd, 1) := by decide +kernel
theorem dX10_height_29 : decode cX10_height 29 = .ok (.iload_n 2, 1) := by decide +kernel
theorem dX10_height_30 : decode cX10_height 30 = .ok (.iastore, 1) := by decide +kernel
theorem dX10_height_31 : decode cX10_height 31 = .ok (.iconst 1, 1) := by decide +kernel
theorem dX10_height_32 : decode cX10_height 32 = .ok (.ireturn, 1) := by decide +kernel
theorem dX10_soil_0 : decode cX10_soil 0 = .ok (.aload_n 0, 1) := by decide +kernel
theorem dX10_soil_1 : decode cX10_soil 1 = .ok (.iload_n 1, 1) := by decide +kernel
theorem dX10_soil_2 : decode cX10_soil 2 = .ok (.invokevirtual 33, 3) := by decide +kernel
theorem dX10_soil_5 : decode cX10_soil 5 = .ok (.ifCond .eq 12, 3) := by decide +kernel
theorem dX10_soil_8 : decode cX10_soil 8 = .ok (.iload_n 2, 1) := by decide +kernel
theorem dX10_soil_9 : decode cX10_soil 9 = .ok (.iconst 0, 1) := by decide +kernel
theorem dX10_soil_10 : decode cX10_soil 10 = .ok (.iconst 3, 1) := by decide +kernel
theorem dX10_soil_11 : decode cX10_soil 11 = .ok (.invokestatic 29, 3) := by decide +kernel
theorem dX10_soil_14 : decode cX10_soil 14 = .ok (.ifCond .ne 5, 3) := by decide +kernel
theorem dX10_soil_17 : decode cX10_soil 17 = .ok (.iconst (-1), 1) := by decide +kernel
theorem dX10_soil_18 : decode cX10_soil 18 = .ok (.ireturn, 1) := by decide +kernel
theorem dX10_soil_19 : decode cX10_soil 19 = .ok (.aload_n 0, 1) := by decide +kernel
theorem dX10_soil_20 : decode cX10_soil 20 = .ok (.getfield 7, 3) := by decide +kernel
theorem dX10_soil_23 : decode cX10_soil 23 = .ok (.bipush 60, 2) := by decide +kernel
theorem dX10_soil_25 : decode cX10_soil 25 = .ok (.iload_n 1, 1) := by decide +kernel
theorem dX10_soil_26 : decode cX10_soil 26 = .ok (.iadd, 1) := by decide +kernel
theorem dX10_soil_27 : decode cX10_soil 27 = .ok (.iload_n 2, 1) := by decide +kernel
theorem dX10_soil_28 : decode cX10_soil 28 = .ok (.iastore, 1) := by decide +kernel
theorem dX10_soil_29 : decode cX10_soil 29 = .ok (.iconst 1, 1) := by decide +kernel
theorem dX10_soil_30 : decode cX10_soil 30 = .ok (.ireturn, 1) := by decide +kernel
theorem dX10_soils_0 : decode cX10_soils 0 = .ok (.iload_n 1, 1) := by decide +kernel
theorem dX10_soils_1 : decode cX10_soils 1 = .ok (.iconst 0, 1) := by decide +kernel
theorem dX10_soils_2 : decode cX10_soils 2 = .ok (.iconst 3, 1) := by decide +kernel
theorem dX10_soils_3 : decode cX10_soils 3 = .ok (.invokestatic 29, 3) := by decide +kernel
theorem dX10_soils_6 : decode cX10_soils 6 = .ok (.ifCond .eq 47, 3) := by decide +kernel
theorem dX10_soils_9 : decode cX10_soils 9 = .ok (.iload_n 2, 1) := by decide +kernel
theorem dX10_soils_10 : decode cX10_soils 10 = .ok (.iconst 0, 1) := by decide +kernel
theorem dX10_soils_11 : decode cX10_soils 11 = .ok (.sipush 200, 3) := by decide +kernel
theorem dX10_soils_14 : decode cX10_soils 14 = .ok (.invokestatic 29, 3) := by decide +kernel
theorem dX10_soils_17 : decode cX10_soils 17 = .ok (.ifCond .eq 36, 3) := by decide +kernel
theorem dX10_soils_20 : decode cX10_soils 20 = .ok (.iload_n 3, 1) := by decide +kernel
theorem dX10_soils_21 : decode cX10_soils 21 = .ok (.iconst 0, 1) := by decide +kernel
theorem dX10_soils_22 : decode cX10_soils 22 = .ok (.bipush 100, 2) := by decide +kernel
theorem dX10_soils_24 : decode cX10_soils 24 = .ok (.invokestatic 29, 3) := by decide +kernel
theorem dX10_soils_27 : decode cX10_soils 27 = .ok (.ifCond .eq 26, 3) := by decide +kernel
theorem dX10_soils_30 : decode cX10_soils 30 = .ok (.iload 4, 2) := by decide +kernel
theorem dX10_soils_32 : decode cX10_soils 32 = .ok (.iconst 0, 1) := by decide +kernel
theorem dX10_soils_33 : decode cX10_soils 33 = .ok (.sipush 1000, 3) := by decide +kernel
theorem dX10_soils_36 : decode cX10_soils 36 = .ok (.invokestatic 29, 3) := by decide +kernel
theorem dX10_soils_39 : decode cX10_soils 39 = .ok (.ifCond .eq 14, 3) := by decide +kernel
theorem dX10_soils_42 : decode cX10_soils 42 = .ok (.iload 5, 2) := by decide +kernel
theorem dX10_soils_44 : decode cX10_soils 44 = .ok (.iconst 0, 1) := by decide +kernel
theorem dX10_soils_45 : decode cX10_soils 45 = .ok (.bipush 40, 2) := by decide +kernel
theorem dX10_soils_47 : decode cX10_soils 47 = .ok (.invokestatic 29, 3) := by decide +kernel
theorem dX10_soils_50 : decode cX10_soils 50 = .ok (.ifCond .ne 5, 3) := by decide +kernel
theorem dX10_soils_53 : decode cX10_soils 53 = .ok (.iconst (-1), 1) := by decide +kernel
theorem dX10_soils_54 : decode cX10_soils 54 = .ok (.ireturn, 1) := by decide +kernel
theorem dX10_soils_55 : decode cX10_soils 55 = .ok (.aload_n 0, 1) := by decide +kernel
theorem dX10_soils_56 : decode cX10_soils 56 = .ok (.getfield 7, 3) := by decide +kernel
theorem dX10_soils_59 : decode cX10_soils 59 = .ok (.sipush 300, 3) := by decide +kernel
theorem dX10_soils_62 : decode cX10_soils 62 = .ok (.iconst 4, 1) := by decide +kernel
theorem dX10_soils_63 : decode cX10_soils 63 = .ok (.iload_n 1, 1) := by decide +kernel
theorem dX10_soils_64 : decode cX10_soils 64 = .ok (.imul, 1) := by decide +kernel
theorem dX10_soils_65 : decode cX10_soils 65 = .ok (.iadd, 1) := by decide +kernel
theorem dX10_soils_66 : decode cX10_soils 66 = .ok (.iload_n 2, 1) := by decide +kernel
theorem dX10_soils_67 : decode cX10_soils 67 = .ok (.iastore, 1) := by decide +kernel
theorem dX10_soils_68 : decode cX10_soils 68 = .ok (.aload_n 0, 1) := by decide +kernel
theorem dX10_soils_69 : decode cX10_soils 69 = .ok (.getfield 7, 3) := by decide +kernel
theorem dX10_soils_72 : decode cX10_soils 72 = .ok (.sipush 300, 3) := by decide +kernel
theorem dX10_soils_75 : decode cX10_soils 75 = .ok (.iconst 4, 1) := by decide +kernel
theorem dX10_soils_76 : decode cX10_soils 76 = .ok (.iload_n 1, 1) := by decide +kernel
theorem dX10_soils_77 : decode cX10_soils 77 = .ok (.imul, 1) := by decide +kernel
theorem dX10_soils_78 : decode cX10_soils 78 = .ok (.iadd, 1) := by decide +kernel
theorem dX10_soils_79 : decode cX10_soils 79 = .ok (.iconst 1, 1) := by decide +kernel
theorem dX10_soils_80 : decode cX10_soils 80 = .ok (.iadd, 1) := by decide +kernel
theorem dX10_soils_81 : decode cX10_soils 81 = .ok (.iload_n 3, 1) := by decide +kernel
theorem dX10_soils_82 : decode cX10_soils 82 = .ok (.iastore, 1) := by decide +kernel
theorem dX10_soils_83 : decode cX10_soils 83 = .ok (.aload_n 0, 1) := by decide +kernel
theorem dX10_soils_84 : decode cX10_soils 84 = .ok (.getfield 7, 3) := by decide +kernel
theorem dX10_soils_87 : decode cX10_soils 87 = .ok (.sipush 300, 3) := by decide +kernel
theorem dX10_soils_90 : decode cX10_soils 90 = .ok (.iconst 4, 1) := by decide +kernel
theorem dX10_soils_91 : decode cX10_soils 91 = .ok (.iload_n 1, 1) := by decide +kernel
theorem dX10_soils_92 : decode cX10_soils 92 = .ok (.imul, 1) := by decide +kernel
theorem dX10_soils_93 : decode cX10_soils 93 = .ok (.iadd, 1) := by decide +kernel
theorem dX10_soils_94 : decode cX10_soils 94 = .ok (.iconst 2, 1) := by decide +kernel
theorem dX10_soils_95 : decode cX10_soils 95 = .ok (.iadd, 1) := by decide +kernel
theorem dX10_soils_96 : decode cX10_soils 96 = .ok (.iload 4, 2) := by decide +kernel
theorem dX10_soils_98 : decode cX10_soils 98 = .ok (.iastore, 1) := by decide +kernel
theorem dX10_soils_99 : decode cX10_soils 99 = .ok (.aload_n 0, 1) := by decide +kernel
theorem dX10_soils_100 : decode cX10_soils 100 = .ok (.getfield 7, 3) := by decide +kernel
theorem dX10_soils_103 : decode cX10_soils 103 = .ok (.sipush 300, 3) := by decide +kernel
theorem dX10_soils_106 : decode cX10_soils 106 = .ok (.iconst 4, 1) := by decide +kernel
theorem dX10_soils_107 : decode cX10_soils 107 = .ok (.iload_n 1, 1) := by decide +kernel
theorem dX10_soils_108 : decode cX10_soils 108 = .ok (.imul, 1) := by decide +kernel
theorem dX10_soils_109 : decode cX10_soils 109 = .ok (.iadd, 1) := by decide +kernel
theorem dX10_soils_110 : decode cX10_soils 110 = .ok (.iconst 3, 1) := by decide +kernel
theorem dX10_soils_111 : decode cX10_soils 111 = .ok (.iadd, 1) := by decide +kernel
theorem dX10_soils_112 : decode cX10_soils 112 = .ok (.iload 5, 2) := by decide +kernel
theorem dX10_soils_114 : decode cX10_soils 114 = .ok (.iastore, 1) := by decide +kernel
theorem dX10_soils_115 : decode cX10_soils 115 = .ok (.iconst 1, 1) := by decide +kernel
theorem dX10_soils_116 : decode cX10_soils 116 = .ok (.ireturn, 1) := by decide +kernel
theorem dX10_soilOf_0 : decode cX10_soilOf 0 = .ok (.aload_n 0, 1) := by decide +kernel
theorem dX10_soilOf_1 : decode cX10_soilOf 1 = .ok (.getfield 7, 3) := by decide +kernel
theorem dX10_soilOf_4 : decode cX10_soilOf 4 = .ok (.sipush 300, 3) := by decide +kernel
theorem dX10_soilOf_7 : decode cX10_soilOf 7 = .ok (.iconst 4, 1) := by decide +kernel
theorem dX10_soilOf_8 : decode cX10_soilOf 8 = .ok (.aload_n 0, 1) := by decide +kernel
theorem dX10_soilOf_9 : decode cX10_soilOf 9 = .ok (.getfield 7, 3) := by decide +kernel
theorem dX10_soilOf_12 : decode cX10_soilOf 12 = .ok (.bipush 60, 2) := by decide +kernel
theorem dX10_soilOf_14 : decode cX10_soilOf 14 = .ok (.iload_n 1, 1) := by decide +kernel
theorem dX10_soilOf_15 : decode cX10_soilOf 15 = .ok (.iadd, 1) := by decide +kernel
theorem dX10_soilOf_16 : decode cX10_soilOf 16 = .ok (.iaload, 1) := by decide +kernel
theorem dX10_soilOf_17 : decode cX10_soilOf 17 = .ok (.imul, 1) := by decide +kernel
theorem dX10_soilOf_18 : decode cX10_soilOf 18 = .ok (.iadd, 1) := by decide +kernel
theorem dX10_soilOf_19 : decode cX10_soilOf 19 = .ok (.iload_n 2, 1) := by decide +kernel
theorem dX10_soilOf_20 : decode cX10_soilOf 20 = .ok (.iadd, 1) := by decide +kernel
theorem dX10_soilOf_21 : decode cX10_soilOf 21 = .ok (.iaload, 1) := by decide +kernel
theorem dX10_soilOf_22 : decode cX10_soilOf 22 = .ok (.ireturn, 1) := by decide +kernel
theorem dX10_ditch_0 : decode cX10_ditch 0 = .ok (.iload_n 1, 1) := by decide +kernel
theorem dX10_ditch_1 : decode cX10_ditch 1 = .ok (.iconst 0, 1) := by decide +kernel
theorem dX10_ditch_2 : decode cX10_ditch 2 = .ok (.iconst 3, 1) := by decide +kernel
theorem dX10_ditch_3 : decode cX10_ditch 3 = .ok (.invokestatic 29, 3) := by decide +kernel
theorem dX10_ditch_6 : decode cX10_ditch 6 = .ok (.ifCond .eq 14, 3) := by decide +kernel
theorem dX10_ditch_9 : decode cX10_ditch 9 = .ok (.iload_n 2, 1) := by decide +kernel
theorem dX10_ditch_10 : decode cX10_ditch 10 = .ok (.iconst 0, 1) := by decide +kernel
theorem dX10_ditch_11 : decode cX10_ditch 11 = .ok (.sipush 2000, 3) := by decide +kernel
theorem dX10_ditch_14 : decode cX10_ditch 14 = .ok (.invokestatic 29, 3) := by decide +kernel
theorem dX10_ditch_17 : decode cX10_ditch 17 = .ok (.ifCond .ne 5, 3) := by decide +kernel
theorem dX10_ditch_20 : decode cX10_ditch 20 = .ok (.iconst (-1), 1) := by decide +kernel
theorem dX10_ditch_21 : decode cX10_ditch 21 = .ok (.ireturn, 1) := by decide +kernel
theorem dX10_ditch_22 : decode cX10_ditch 22 = .ok (.aload_n 0, 1) := by decide +kernel
theorem dX10_ditch_23 : decode cX10_ditch 23 = .ok (.getfield 7, 3) := by decide +kernel
theorem dX10_ditch_26 : decode cX10_ditch 26 = .ok (.sipush 320, 3) := by decide +kernel
theorem dX10_ditch_29 : decode cX10_ditch 29 = .ok (.iload_n 1, 1) := by decide +kernel
theorem dX10_ditch_30 : decode cX10_ditch 30 = .ok (.iadd, 1) := by decide +kernel
theorem dX10_ditch_31 : decode cX10_ditch 31 = .ok (.iload_n 2, 1) := by decide +kernel
theorem dX10_ditch_32 : decode cX10_ditch 32 = .ok (.iastore, 1) := by decide +kernel
theorem dX10_ditch_33 : decode cX10_ditch 33 = .ok (.iconst 1, 1) := by decide +kernel
theorem dX10_ditch_34 : decode cX10_ditch 34 = .ok (.ireturn, 1) := by decide +kernel
theorem dX10_trench_0 : decode cX10_trench 0 = .ok (.aload_n 0, 1) := by decide +kernel
theorem dX10_trench_1 : decode cX10_trench 1 = .ok (.iload_n 1, 1) := by decide +kernel
theorem dX10_trench_2 : decode cX10_trench 2 = .ok (.invokevirtual 33, 3) := by decide +kernel
theorem dX10_trench_5 : decode cX10_trench 5 = .ok (.ifCond .eq 64, 3) := by decide +kernel
theorem dX10_trench_8 : decode cX10_trench 8 = .ok (.aload_n 0, 1) := by decide +kernel
theorem dX10_trench_9 : decode cX10_trench 9 = .ok (.iload_n 2, 1) := by decide +kernel
theorem dX10_trench_10 : decode cX10_trench 10 = .ok (.invokevirtual 33, 3) := by decide +kernel
theorem dX10_trench_13 : decode cX10_trench 13 = .ok (.ifCond .eq 56, 3) := by decide +kernel
theorem dX10_trench_16 : decode cX10_trench 16 = .ok (.iload_n 1, 1) := by decide +kernel
theorem dX10_trench_17 : decode cX10_trench 17 = .ok (.iload_n 2, 1) := by decide +kernel
theorem dX10_trench_18 : decode cX10_trench 18 = .ok (.if_icmp .eq 51, 3) := by decide +kernel
theorem dX10_trench_21 : decode cX10_trench 21 = .ok (.aload_n 0, 1) := by decide +kernel
theorem dX10_trench_22 : decode cX10_trench 22 = .ok (.iload_n 1, 1) := by decide +kernel
theorem dX10_trench_23 : decode cX10_trench 23 = .ok (.invokevirtual 37, 3) := by decide +kernel
theorem dX10_trench_26 : decode cX10_trench 26 = .ok (.aload_n 0, 1) := by decide +kernel
theorem dX10_trench_27 : decode cX10_trench 27 = .ok (.iload_n 2, 1) := by decide +kernel
theorem dX10_trench_28 : decode cX10_trench 28 = .ok (.invokevirtual 37, 3) := by decide +kernel
theorem dX10_trench_31 : decode cX10_trench 31 = .ok (.if_icmp .eq 16, 3) := by decide +kernel
theorem dX10_trench_34 : decode cX10_trench 34 = .ok (.aload_n 0, 1) := by decide +kernel
theorem dX10_trench_35 : decode cX10_trench 35 = .ok (.iload_n 1, 1) := by decide +kernel
theorem dX10_trench_36 : decode cX10_trench 36 = .ok (.invokevirtual 41, 3) := by decide +kernel
theorem dX10_trench_39 : decode cX10_trench 39 = .ok (.aload_n 0, 1) := by decide +kernel
theorem dX10_trench_40 : decode cX10_trench 40 = .ok (.iload_n 2, 1) := by decide +kernel
theorem dX10_trench_41 : decode cX10_trench 41 = .ok (.invokevirtual 41, 3) := by decide +kernel
theorem dX10_trench_44 : decode cX10_trench 44 = .ok (.if_icmp .ne 25, 3) := by decide +kernel
theorem dX10_trench_47 : decode cX10_trench 47 = .ok (.iload_n 3, 1) := by decide +kernel
theorem dX10_trench_48 : decode cX10_trench 48 = .ok (.iconst 0, 1) := by decide +kernel
theorem dX10_trench_49 : decode cX10_trench 49 = .ok (.sipush 2000, 3) := by decide +kernel
theorem dX10_trench_52 : decode cX10_trench 52 = .ok (.invokestatic 29, 3) := by decide +kernel
theorem dX10_trench_55 : decode cX10_trench 55 = .ok (.ifCond .eq 14, 3) := by decide +kernel
theorem dX10_trench_58 : decode cX10_trench 58 = .ok (.iload 4, 2) := by decide +kernel
theorem dX10_trench_60 : decode cX10_trench 60 = .ok (.iconst 1, 1) := by decide +kernel
theorem dX10_trench_61 : decode cX10_trench 61 = .ok (.bipush 50, 2) := by decide +kernel
theorem dX10_trench_63 : decode cX10_trench 63 = .ok (.invokestatic 29, 3) := by decide +kernel
theorem dX10_trench_66 : decode cX10_trench 66 = .ok (.ifCond .ne 5, 3) := by decide +kernel
theorem dX10_trench_69 : decode cX10_trench 69 = .ok (.iconst (-1), 1) := by decide +kernel
theorem dX10_trench_70 : decode cX10_trench 70 = .ok (.ireturn, 1) := by decide +kernel
theorem dX10_trench_71 : decode cX10_trench 71 = .ok (.aload_n 0, 1) := by decide +kernel
theorem dX10_trench_72 : decode cX10_trench 72 = .ok (.iload_n 1, 1) := by decide +kernel
theorem dX10_trench_73 : decode cX10_trench 73 = .ok (.invokevirtual 37, 3) := by decide +kernel
theorem dX10_trench_76 : decode cX10_trench 76 = .ok (.aload_n 0, 1) := by decide +kernel
theorem dX10_trench_77 : decode cX10_trench 77 = .ok (.iload_n 2, 1) := by decide +kernel
theorem dX10_trench_78 : decode cX10_trench 78 = .ok (.invokevirtual 37, 3) := by decide +kernel
theorem dX10_trench_81 : decode cX10_trench 81 = .ok (.isub, 1) := by decide +kernel
theorem dX10_trench_82 : decode cX10_trench 82 = .ok (.invokestatic 44, 3) := by decide +kernel
theorem dX10_trench_85 : decode cX10_trench 85 = .ok (.aload_n 0, 1) := by decide +kernel
theorem dX10_trench_86 : decode cX10_trench 86 = .ok (.iload_n 1, 1) := by decide +kernel
theorem dX10_trench_87 : decode cX10_trench 87 = .ok (.invokevirtual 41, 3) := by decide +kernel
theorem dX10_trench_90 : decode cX10_trench 90 = .ok (.aload_n 0, 1) := by decide +kernel
theorem dX10_trench_91 : decode cX10_trench 91 = .ok (.iload_n 2, 1) := by decide +kernel
theorem dX10_trench_92 : decode cX10_trench 92 = .ok (.invokevirtual 41, 3) := by decide +kernel
theorem dX10_trench_95 : decode cX10_trench 95 = .ok (.isub, 1) := by decide +kernel
theorem dX10_trench_96 : decode cX10_trench 96 = .ok (.invokestatic 44, 3) := by decide +kernel
theorem dX10_trench_99 : decode cX10_trench 99 = .ok (.iadd, 1) := by decide +kernel
theorem dX10_trench_100 : decode cX10_trench 100 = .ok (.iconst 1, 1) := by decide +kernel
theorem dX10_trench_101 : decode cX10_trench 101 = .ok (.iadd, 1) := by decide +kernel
theorem dX10_trench_102 : decode cX10_trench 102 = .ok (.istore 5, 2) := by decide +kernel
theorem dX10_trench_104 : decode cX10_trench 104 = .ok (.aload_n 0, 1) := by decide +kernel
theorem dX10_trench_105 : decode cX10_trench 105 = .ok (.getfield 7, 3) := by decide +kernel
theorem dX10_trench_108 : decode cX10_trench 108 = .ok (.iconst 2, 1) := by decide +kernel
theorem dX10_trench_109 : decode cX10_trench 109 = .ok (.iload 5, 2) := by decide +kernel
theorem dX10_trench_111 : decode cX10_trench 111 = .ok (.iastore, 1) := by decide +kernel
theorem dX10_trench_112 : decode cX10_trench 112 = .ok (.aload_n 0, 1) := by decide +kernel
theorem dX10_trench_113 : decode cX10_trench 113 = .ok (.getfield 7, 3) := by decide +kernel
theorem dX10_trench_116 : decode cX10_trench 116 = .ok (.iconst 3, 1) := by decide +kernel
theorem dX10_trench_117 : decode cX10_trench 117 = .ok (.iload_n 1, 1) := by decide +kernel
theorem dX10_trench_118 : decode cX10_trench 118 = .ok (.iastore, 1) := by decide +kernel
theorem dX10_trench_119 : decode cX10_trench 119 = .ok (.aload_n 0, 1) := by decide +kernel
theorem dX10_trench_120 : decode cX10_trench 120 = .ok (.getfield 7, 3) := by decide +kernel
theorem dX10_trench_123 : decode cX10_trench 123 = .ok (.iconst 4, 1) := by decide +kernel
theorem dX10_trench_124 : decode cX10_trench 124 = .ok (.iload_n 2, 1) := by decide +kernel
theorem dX10_trench_125 : decode cX10_trench 125 = .ok (.iastore, 1) := by decide +kernel
theorem dX10_trench_126 : decode cX10_trench 126 = .ok (.aload_n 0, 1) := by decide +kernel
theorem dX10_trench_127 : decode cX10_trench 127 = .ok (.getfield 7, 3) := by decide +kernel
theorem dX10_trench_130 : decode cX10_trench 130 = .ok (.iconst 5, 1) := by decide +kernel
theorem dX10_trench_131 : decode cX10_trench 131 = .ok (.iload_n 3, 1) := by decide +kernel
theorem dX10_trench_132 : decode cX10_trench 132 = .ok (.iastore, 1) := by decide +kernel
theorem dX10_trench_133 : decode cX10_trench 133 = .ok (.aload_n 0, 1) := by decide +kernel
theorem dX10_trench_134 : decode cX10_trench 134 = .ok (.getfield 7, 3) := by decide +kernel
theorem dX10_trench_137 : decode cX10_trench 137 = .ok (.bipush 6, 2) := by decide +kernel
theorem dX10_trench_139 : decode cX10_trench 139 = .ok (.iload 4, 2) := by decide +kernel
theorem dX10_trench_141 : decode cX10_trench 141 = .ok (.iastore, 1) := by decide +kernel
theorem dX10_trench_142 : decode cX10_trench 142 = .ok (.iload 5, 2) := by decide +kernel
theorem dX10_trench_144 : decode cX10_trench 144 = .ok (.ireturn, 1) := by decide +kernel
theorem dX10_placeAt_0 : decode cX10_placeAt 0 = .ok (.aload_n 0, 1) := by decide +kernel
theorem dX10_placeAt_1 : decode cX10_placeAt 1 = .ok (.iload_n 1, 1) := by decide +kernel
theorem dX10_placeAt_2 : decode cX10_placeAt 2 = .ok (.invokevirtual 37, 3) := by decide +kernel
theorem dX10_placeAt_5 : decode cX10_placeAt 5 = .ok (.aload_n 0, 1) := by decide +kernel
theorem dX10_placeAt_6 : decode cX10_placeAt 6 = .ok (.iload_n 2, 1) := by decide +kernel
theorem dX10_placeAt_7 : decode cX10_placeAt 7 = .ok (.invokevirtual 37, 3) := by decide +kernel
theorem dX10_placeAt_10 : decode cX10_placeAt 10 = .ok (.if_icmp .ne 7, 3) := by decide +kernel
theorem dX10_placeAt_13 : decode cX10_placeAt 13 = .ok (.iconst 1, 1) := by decide +kernel
theorem dX10_placeAt_14 : decode cX10_placeAt 14 = .ok (.goto 9, 3) := by decide +kernel
theorem dX10_placeAt_17 : decode cX10_placeAt 17 = .ok (.aload_n 0, 1) := by decide +kernel
theorem dX10_placeAt_18 : decode cX10_placeAt 18 = .ok (.getfield 7, 3) := by decide +kernel
theorem dX10_placeAt_21 : decode cX10_placeAt 21 = .ok (.iconst 1, 1) := by decide +kernel
theorem dX10_placeAt_22 : decode cX10_placeAt 22 = .ok (.iaload, 1) := by decide +kernel
theorem dX10_placeAt_23 : decode cX10_placeAt 23 = .ok (.istore 4, 2) := by decide +kernel
theorem dX10_placeAt_25 : decode cX10_placeAt 25 = .ok (.iload_n 2, 1) := by decide +kernel
theorem dX10_placeAt_26 : decode cX10_placeAt 26 = .ok (.iload_n 1, 1) := by decide +kernel
theorem dX10_placeAt_27 : decode cX10_placeAt 27 = .ok (.if_icmp .le 12, 3) := by decide +kernel
theorem dX10_placeAt_30 : decode cX10_placeAt 30 = .ok (.iload_n 1, 1) := by decide +kernel
theorem dX10_placeAt_31 : decode cX10_placeAt 31 = .ok (.iload_n 3, 1) := by decide +kernel
theorem dX10_placeAt_32 : decode cX10_placeAt 32 = .ok (.iload 4, 2) := by decide +kernel
theorem dX10_placeAt_34 : decode cX10_placeAt 34 = .ok (.imul, 1) := by decide +kernel
theorem dX10_placeAt_35 : decode cX10_placeAt 35 = .ok (.iadd, 1) := by decide +kernel
theorem dX10_placeAt_36 : decode cX10_placeAt 36 = .ok (.goto 9, 3) := by decide +kernel
theorem dX10_placeAt_39 : decode cX10_placeAt 39 = .ok (.iload_n 1, 1) := by decide +kernel
theorem dX10_placeAt_40 : decode cX10_placeAt 40 = .ok (.iload_n 3, 1) := by decide +kernel
theorem dX10_placeAt_41 : decode cX10_placeAt 41 = .ok (.iload 4, 2) := by decide +kernel
theorem dX10_placeAt_43 : decode cX10_placeAt 43 = .ok (.imul, 1) := by decide +kernel
theorem dX10_placeAt_44 : decode cX10_placeAt 44 = .ok (.isub, 1) := by decide +kernel
theorem dX10_placeAt_45 : decode cX10_placeAt 45 = .ok (.ireturn, 1) := by decide +kernel
theorem dX10_pipe_0 : decode cX10_pipe 0 = .ok (.iload_n 1, 1) := by decide +kernel
theorem dX10_pipe_1 : decode cX10_pipe 1 = .ok (.iconst 0, 1) := by decide +kernel
theorem dX10_pipe_2 : decode cX10_pipe 2 = .ok (.iconst 3, 1) := by decide +kernel
theorem dX10_pipe_3 : decode cX10_pipe 3 = .ok (.invokestatic 29, 3) := by decide +kernel
theorem dX10_pipe_6 : decode cX10_pipe 6 = .ok (.ifCond .eq 27, 3) := by decide +kernel
theorem dX10_pipe_9 : decode cX10_pipe 9 = .ok (.iload_n 2, 1) := by decide +kernel
theorem dX10_pipe_10 : decode cX10_pipe 10 = .ok (.iconst 1, 1) := by decide +kernel
theorem dX10_pipe_11 : decode cX10_pipe 11 = .ok (.iconst 4, 1) := by decide +kernel
theorem dX10_pipe_12 : decode cX10_pipe 12 = .ok (.invokestatic 29, 3) := by decide +kernel
theorem dX10_pipe_15 : decode cX10_pipe 15 = .ok (.ifCond .eq 18, 3) := by decide +kernel
theorem dX10_pipe_18 : decode cX10_pipe 18 = .ok (.iload_n 1, 1) := by decide +kernel
theorem dX10_pipe_19 : decode cX10_pipe 19 = .ok (.iconst 2, 1) := by decide +kernel
theorem dX10_pipe_20 : decode cX10_pipe 20 = .ok (.if_icmp .ne 15, 3) := by decide +kernel
theorem dX10_pipe_23 : decode cX10_pipe 23 = .ok (.iload_n 3, 1) := by decide +kernel
theorem dX10_pipe_24 : decode cX10_pipe 24 = .ok (.iconst 1, 1) := by decide +kernel
theorem dX10_pipe_25 : decode cX10_pipe 25 = .ok (.bipush 100, 2) := by decide +kernel
theorem dX10_pipe_27 : decode cX10_pipe 27 = .ok (.invokestatic 29, 3) := by decide +kernel
theorem dX10_pipe_30 : decode cX10_pipe 30 = .ok (.ifCond .ne 5, 3) := by decide +kernel
theorem dX10_pipe_33 : decode cX10_pipe 33 = .ok (.iconst (-1), 1) := by decide +kernel
theorem dX10_pipe_34 : decode cX10_pipe 34 = .ok (.ireturn, 1) := by decide +kernel
theorem dX10_pipe_35 : decode cX10_pipe 35 = .ok (.aload_n 0, 1) := by decide +kernel
theorem dX10_pipe_36 : decode cX10_pipe 36 = .ok (.getfield 7, 3) := by decide +kernel
theorem dX10_pipe_39 : decode cX10_pipe 39 = .ok (.iconst 2, 1) := by decide +kernel
theorem dX10_pipe_40 : decode cX10_pipe 40 = .ok (.iaload, 1) := by decide +kernel
theorem dX10_pipe_41 : decode cX10_pipe 41 = .ok (.istore 4, 2) := by decide +kernel
theorem dX10_pipe_43 : decode cX10_pipe 43 = .ok (.iload 4, 2) := by decide +kernel
theorem dX10_pipe_45 : decode cX10_pipe 45 = .ok (.ifCond .ne 6, 3) := by decide +kernel
theorem dX10_pipe_48 : decode cX10_pipe 48 = .ok (.bipush (-6), 2) := by decide +kernel
theorem dX10_pipe_50 : decode cX10_pipe 50 = .ok (.ireturn, 1) := by decide +kernel
theorem dX10_pipe_51 : decode cX10_pipe 51 = .ok (.iconst 0, 1) := by decide +kernel
theorem dX10_pipe_52 : decode cX10_pipe 52 = .ok (.istore 5, 2) := by decide +kernel
theorem dX10_pipe_54 : decode cX10_pipe 54 = .ok (.iload 5, 2) := by decide +kernel
theorem dX10_pipe_56 : decode cX10_pipe 56 = .ok (.iload 4, 2) := by decide +kernel
theorem dX10_pipe_58 : decode cX10_pipe 58 = .ok (.if_icmp .ge 73, 3) := by decide +kernel
theorem dX10_pipe_61 : decode cX10_pipe 61 = .ok (.aload_n 0, 1) := by decide +kernel
theorem dX10_pipe_62 : decode cX10_pipe 62 = .ok (.getfield 7, 3) := by decide +kernel
theorem dX10_pipe_65 : decode cX10_pipe 65 = .ok (.iconst 5, 1) := by decide +kernel
theorem dX10_pipe_66 : decode cX10_pipe 66 = .ok (.iaload, 1) := by decide +kernel
theorem dX10_pipe_67 : decode cX10_pipe 67 = .ok (.iload 5, 2) := by decide +kernel
theorem dX10_pipe_69 : decode cX10_pipe 69 = .ok (.aload_n 0, 1) := by decide +kernel
theorem dX10_pipe_70 : decode cX10_pipe 70 = .ok (.getfield 7, 3) := by decide +kernel
theorem dX10_pipe_73 : decode cX10_pipe 73 = .ok (.bipush 6, 2) := by decide +kernel
theorem dX10_pipe_75 : decode cX10_pipe 75 = .ok (.iaload, 1) := by decide +kernel
theorem dX10_pipe_76 : decode cX10_pipe 76 = .ok (.imul, 1) := by decide +kernel
theorem dX10_pipe_77 : decode cX10_pipe 77 = .ok (.isub, 1) := by decide +kernel
theorem dX10_pipe_78 : decode cX10_pipe 78 = .ok (.istore 6, 2) := by decide +kernel
theorem dX10_pipe_80 : decode cX10_pipe 80 = .ok (.iload 6, 2) := by decide +kernel
theorem dX10_pipe_82 : decode cX10_pipe 82 = .ok (.ifCond .lt 37, 3) := by decide +kernel
theorem dX10_pipe_85 : decode cX10_pipe 85 = .ok (.aload_n 0, 1) := by decide +kernel
theorem dX10_pipe_86 : decode cX10_pipe 86 = .ok (.getfield 7, 3) := by decide +kernel
theorem dX10_pipe_89 : decode cX10_pipe 89 = .ok (.bipush 20, 2) := by decide +kernel
theorem dX10_pipe_91 : decode cX10_pipe 91 = .ok (.aload_n 0, 1) := by decide +kernel
theorem dX10_pipe_92 : decode cX10_pipe 92 = .ok (.aload_n 0, 1) := by decide +kernel
theorem dX10_pipe_93 : decode cX10_pipe 93 = .ok (.getfield 7, 3) := by decide +kernel
theorem dX10_pipe_96 : decode cX10_pipe 96 = .ok (.iconst 3, 1) := by decide +kernel
theorem dX10_pipe_97 : decode cX10_pipe 97 = .ok (.iaload, 1) := by decide +kernel
theorem dX10_pipe_98 : decode cX10_pipe 98 = .ok (.aload_n 0, 1) := by decide +kernel
theorem dX10_pipe_99 : decode cX10_pipe 99 = .ok (.getfield 7, 3) := by decide +kernel
theorem dX10_pipe_102 : decode cX10_pipe 102 = .ok (.iconst 4, 1) := by decide +kernel
theorem dX10_pipe_103 : decode cX10_pipe 103 = .ok (.iaload, 1) := by decide +kernel
theorem dX10_pipe_104 : decode cX10_pipe 104 = .ok (.iload 5, 2) := by decide +kernel
theorem dX10_pipe_106 : decode cX10_pipe 106 = .ok (.invokevirtual 47, 3) := by decide +kernel
theorem dX10_pipe_109 : decode cX10_pipe 109 = .ok (.iadd, 1) := by decide +kernel
theorem dX10_pipe_110 : decode cX10_pipe 110 = .ok (.iaload, 1) := by decide +kernel
theorem dX10_pipe_111 : decode cX10_pipe 111 = .ok (.iload 6, 2) := by decide +kernel
theorem dX10_pipe_113 : decode cX10_pipe 113 = .ok (.isub, 1) := by decide +kernel
theorem dX10_pipe_114 : decode cX10_pipe 114 = .ok (.bipush 60, 2) := by decide +kernel
theorem dX10_pipe_116 : decode cX10_pipe 116 = .ok (.if_icmp .ge 9, 3) := by decide +kernel
theorem dX10_pipe_119 : decode cX10_pipe 119 = .ok (.bipush (-100), 2) := by decide +kernel
theorem dX10_pipe_121 : decode cX10_pipe 121 = .ok (.iload 5, 2) := by decide +kernel
theorem dX10_pipe_123 : decode cX10_pipe 123 = .ok (.isub, 1) := by decide +kernel
theorem dX10_pipe_124 : decode cX10_pipe 124 = .ok (.ireturn, 1) := by decide +kernel
theorem dX10_pipe_125 : decode cX10_pipe 125 = .ok (.iinc 5 1, 3) := by decide +kernel
theorem dX10_pipe_128 : decode cX10_pipe 128 = .ok (.goto (-74), 3) := by decide +kernel
theorem dX10_pipe_131 : decode cX10_pipe 131 = .ok (.aload_n 0, 1) := by decide +kernel
theorem dX10_pipe_132 : decode cX10_pipe 132 = .ok (.getfield 7, 3) := by decide +kernel
theorem dX10_pipe_135 : decode cX10_pipe 135 = .ok (.bipush 13, 2) := by decide +kernel
theorem dX10_pipe_137 : decode cX10_pipe 137 = .ok (.iaload, 1) := by decide +kernel
theorem dX10_pipe_138 : decode cX10_pipe 138 = .ok (.bipush 20, 2) := by decide +kernel
theorem dX10_pipe_140 : decode cX10_pipe 140 = .ok (.if_icmp .ne 6, 3) := by decide +kernel
theorem dX10_pipe_143 : decode cX10_pipe 143 = .ok (.bipush (-2), 2) := by decide +kernel
theorem dX10_pipe_145 : decode cX10_pipe 145 = .ok (.ireturn, 1) := by decide +kernel
theorem dX10_pipe_146 : decode cX10_pipe 146 = .ok (.aload_n 0, 1) := by decide +kernel
theorem dX10_pipe_147 : decode cX10_pipe 147 = .ok (.getfield 7, 3) := by decide +kernel
theorem dX10_pipe_150 : decode cX10_pipe 150 = .ok (.bipush 13, 2) := by decide +kernel
theorem dX10_pipe_152 : decode cX10_pipe 152 = .ok (.iaload, 1) := by decide +kernel
theorem dX10_pipe_153 : decode cX10_pipe 153 = .ok (.istore 5, 2) := by decide +kernel
theorem dX10_pipe_155 : decode cX10_pipe 155 = .ok (.aload_n 0, 1) := by decide +kernel
theorem dX10_pipe_156 : decode cX10_pipe 156 = .ok (.getfield 7, 3) := by decide +kernel
theorem dX10_pipe_159 : decode cX10_pipe 159 = .ok (.bipush 13, 2) := by decide +kernel
theorem dX10_pipe_161 : decode cX10_pipe 161 = .ok (.dup2, 1) := by decide +kernel
theorem dX10_pipe_162 : decode cX10_pipe 162 = .ok (.iaload, 1) := by decide +kernel
theorem dX10_pipe_163 : decode cX10_pipe 163 = .ok (.iconst 1, 1) := by decide +kernel
theorem dX10_pipe_164 : decode cX10_pipe 164 = .ok (.iadd, 1) := by decide +kernel
theorem dX10_pipe_165 : decode cX10_pipe 165 = .ok (.iastore, 1) := by decide +kernel
theorem dX10_pipe_166 : decode cX10_pipe 166 = .ok (.aload_n 0, 1) := by decide +kernel
theorem dX10_pipe_167 : decode cX10_pipe 167 = .ok (.iload 5, 2) := by decide +kernel
theorem dX10_pipe_169 : decode cX10_pipe 169 = .ok (.iconst 0, 1) := by decide +kernel
theorem dX10_pipe_170 : decode cX10_pipe 170 = .ok (.iload_n 1, 1) := by decide +kernel
theorem dX10_pipe_171 : decode cX10_pipe 171 = .ok (.invokevirtual 51, 3) := by decide +kernel
theorem dX10_pipe_174 : decode cX10_pipe 174 = .ok (.aload_n 0, 1) := by decide +kernel
theorem dX10_pipe_175 : decode cX10_pipe 175 = .ok (.iload 5, 2) := by decide +kernel
theorem dX10_pipe_177 : decode cX10_pipe 177 = .ok (.iconst 1, 1) := by decide +kernel
theorem dX10_pipe_178 : decode cX10_pipe 178 = .ok (.aload_n 0, 1) := by decide +kernel
theorem dX10_pipe_179 : decode cX10_pipe 179 = .ok (.getfield 7, 3) := by decide +kernel
theorem dX10_pipe_182 : decode cX10_pipe 182 = .ok (.iconst 3, 1) := by decide +kernel
theorem dX10_pipe_183 : decode cX10_pipe 183 = .ok (.iaload, 1) := by decide +kernel
theorem dX10_pipe_184 : decode cX10_pipe 184 = .ok (.invokevirtual 51, 3) := by decide +kernel
theorem dX10_pipe_187 : decode cX10_pipe 187 = .ok (.aload_n 0, 1) := by decide +kernel
theorem dX10_pipe_188 : decode cX10_pipe 188 = .ok (.iload 5, 2) := by decide +kernel
theorem dX10_pipe_190 : decode cX10_pipe 190 = .ok (.iconst 2, 1) := by decide +kernel
theorem dX10_pipe_191 : decode cX10_pipe 191 = .ok (.aload_n 0, 1) := by decide +kernel
theorem dX10_pipe_192 : decode cX10_pipe 192 = .ok (.getfield 7, 3) := by decide +kernel
theorem dX10_pipe_195 : decode cX10_pipe 195 = .ok (.iconst 4, 1) := by decide +kernel
theorem dX10_pipe_196 : decode cX10_pipe 196 = .ok (.iaload, 1) := by decide +kernel
theorem dX10_pipe_197 : decode cX10_pipe 197 = .ok (.invokevirtual 51, 3) := by decide +kernel
theorem dX10_pipe_200 : decode cX10_pipe 200 = .ok (.aload_n 0, 1) := by decide +kernel
theorem dX10_pipe_201 : decode cX10_pipe 201 = .ok (.iload 5, 2) := by decide +kernel
theorem dX10_pipe_203 : decode cX10_pipe 203 = .ok (.iconst 3, 1) := by decide +kernel
theorem dX10_pipe_204 : decode cX10_pipe 204 = .ok (.aload_n 0, 1) := by decide +kernel
theorem dX10_pipe_205 : decode cX10_pipe 205 = .ok (.getfield 7, 3) := by decide +kernel
theorem dX10_pipe_208 : decode cX10_pipe 208 = .ok (.iconst 5, 1) := by decide +kernel
theorem dX10_pipe_209 : decode cX10_pipe 209 = .ok (.iaload, 1) := by decide +kernel
theorem dX10_pipe_210 : decode cX10_pipe 210 = .ok (.invokevirtual 51, 3) := by decide +kernel
theorem dX10_pipe_213 : decode cX10_pipe 213 = .ok (.aload_n 0, 1) := by decide +kernel
theorem dX10_pipe_214 : decode cX10_pipe 214 = .ok (.iload 5, 2) := by decide +kernel
theorem dX10_pipe_216 : decode cX10_pipe 216 = .ok (.iconst 4, 1) := by decide +kernel
theorem dX10_pipe_217 : decode cX10_pipe 217 = .ok (.aload_n 0, 1) := by decide +kernel
theorem dX10_pipe_218 : decode cX10_pipe 218 = .ok (.getfield 7, 3) := by decide +kernel
theorem dX10_pipe_221 : decode cX10_pipe 221 = .ok (.bipush 6, 2) := by decide +kernel
theorem dX10_pipe_223 : decode cX10_pipe 223 = .ok (.iaload, 1) := by decide +kernel
theorem dX10_pipe_224 : decode cX10_pipe 224 = .ok (.invokevirtual 51, 3) := by decide +kernel
theorem dX10_pipe_227 : decode cX10_pipe 227 = .ok (.aload_n 0, 1) := by decide +kernel
theorem dX10_pipe_228 : decode cX10_pipe 228 = .ok (.iload 5, 2) := by decide +kernel
theorem dX10_pipe_230 : decode cX10_pipe 230 = .ok (.iconst 5, 1) := by decide +kernel
theorem dX10_pipe_231 : decode cX10_pipe 231 = .ok (.iload_n 2, 1) := by decide +kernel
theorem dX10_pipe_232 : decode cX10_pipe 232 = .ok (.invokevirtual 51, 3) := by decide +kernel
theorem dX10_pipe_235 : decode cX10_pipe 235 = .ok (.aload_n 0, 1) := by decide +kernel
theorem dX10_pipe_236 : decode cX10_pipe 236 = .ok (.iload 5, 2) := by decide +kernel
theorem dX10_pipe_238 : decode cX10_pipe 238 = .ok (.bipush 6, 2) := by decide +kernel
theorem dX10_pipe_240 : decode cX10_pipe 240 = .ok (.iload_n 1, 1) := by decide +kernel
theorem dX10_pipe_241 : decode cX10_pipe 241 = .ok (.iconst 2, 1) := by decide +kernel
theorem dX10_pipe_242 : decode cX10_pipe 242 = .ok (.if_icmp .ne 7, 3) := by decide +kernel
theorem dX10_pipe_245 : decode cX10_pipe 245 = .ok (.iload_n 3, 1) := by decide +kernel
theorem dX10_pipe_246 : decode cX10_pipe 246 = .ok (.goto 4, 3) := by decide +kernel
theorem dX10_pipe_249 : decode cX10_pipe 249 = .ok (.iconst 0, 1) := by decide +kernel
theorem dX10_pipe_250 : decode cX10_pipe 250 = .ok (.invokevirtual 51, 3) := by decide +kernel
theorem dX10_pipe_253 : decode cX10_pipe 253 = .ok (.aload_n 0, 1) := by decide +kernel
theorem dX10_pipe_254 : decode cX10_pipe 254 = .ok (.iload 5, 2) := by decide +kernel
theorem dX10_pipe_256 : decode cX10_pipe 256 = .ok (.bipush 7, 2) := by decide +kernel
theorem dX10_pipe_258 : decode cX10_pipe 258 = .ok (.iconst (-1), 1) := by decide +kernel
theorem dX10_pipe_259 : decode cX10_pipe 259 = .ok (.invokevirtual 51, 3) := by decide +kernel
theorem dX10_pipe_262 : decode cX10_pipe 262 = .ok (.aload_n 0, 1) := by decide +kernel
theorem dX10_pipe_263 : decode cX10_pipe 263 = .ok (.iload 5, 2) := by decide +kernel
theorem dX10_pipe_265 : decode cX10_pipe 265 = .ok (.bipush 8, 2) := by decide +kernel
theorem dX10_pipe_267 : decode cX10_pipe 267 = .ok (.iconst 0, 1) := by decide +kernel
theorem dX10_pipe_268 : decode cX10_pipe 268 = .ok (.invokevirtual 51, 3) := by decide +kernel
theorem dX10_pipe_271 : decode cX10_pipe 271 = .ok (.aload_n 0, 1) := by decide +kernel
theorem dX10_pipe_272 : decode cX10_pipe 272 = .ok (.iload 5, 2) := by decide +kernel
theorem dX10_pipe_274 : decode cX10_pipe 274 = .ok (.bipush 9, 2) := by decide +kernel
theorem dX10_pipe_276 : decode cX10_pipe 276 = .ok (.iconst 0, 1) := by decide +kernel
theorem dX10_pipe_277 : decode cX10_pipe 277 = .ok (.invokevirtual 51, 3) := by decide +kernel
theorem dX10_pipe_280 : decode cX10_pipe 280 = .ok (.aload_n 0, 1) := by decide +kernel
theorem dX10_pipe_281 : decode cX10_pipe 281 = .ok (.iload 5, 2) := by decide +kernel
theorem dX10_pipe_283 : decode cX10_pipe 283 = .ok (.bipush 10, 2) := by decide +kernel
theorem dX10_pipe_285 : decode cX10_pipe 285 = .ok (.iconst 0, 1) := by decide +kernel
theorem dX10_pipe_286 : decode cX10_pipe 286 = .ok (.invokevirtual 51, 3) := by decide +kernel
theorem dX10_pipe_289 : decode cX10_pipe 289 = .ok (.aload_n 0, 1) := by decide +kernel
theorem dX10_pipe_290 : decode cX10_pipe 290 = .ok (.iload 5, 2) := by decide +kernel
theorem dX10_pipe_292 : decode cX10_pipe 292 = .ok (.bipush 11, 2) := by decide +kernel
theorem dX10_pipe_294 : decode cX10_pipe 294 = .ok (.iload 4, 2) := by decide +kernel
theorem dX10_pipe_296 : decode cX10_pipe 296 = .ok (.invokevirtual 51, 3) := by decide +kernel
theorem dX10_pipe_299 : decode cX10_pipe 299 = .ok (.iload 5, 2) := by decide +kernel
theorem dX10_pipe_301 : decode cX10_pipe 301 = .ok (.ireturn, 1) := by decide +kernel
theorem dX10_stepPlace_0 : decode cX10_stepPlace 0 = .ok (.aload_n 0, 1) := by decide +kernel
theorem dX10_stepPlace_1 : decode cX10_stepPlace 1 = .ok (.aload_n 0, 1) := by decide +kernel
theorem dX10_stepPlace_2 : decode cX10_stepPlace 2 = .ok (.iload_n 1, 1) := by decide +kernel
theorem dX10_stepPlace_3 : decode cX10_stepPlace 3 = .ok (.iconst 1, 1) := by decide +kernel
theorem dX10_stepPlace_4 : decode cX10_stepPlace 4 = .ok (.invokevirtual 55, 3) := by decide +kernel
theorem dX10_stepPlace_7 : decode cX10_stepPlace 7 = .ok (.aload_n 0, 1) := by decide +kernel
theorem dX10_stepPlace_8 : decode cX10_stepPlace 8 = .ok (.iload_n 1, 1) := by decide +kernel
theorem dX10_stepPlace_9 : decode cX10_stepPlace 9 = .ok (.iconst 2, 1) := by decide +kernel
theorem dX10_stepPlace_10 : decode cX10_stepPlace 10 = .ok (.invokevirtual 55, 3) := by decide +kernel
theorem dX10_stepPlace_13 : decode cX10_stepPlace 13 = .ok (.iload_n 2, 1) := by decide +kernel
theorem dX10_stepPlace_14 : decode cX10_stepPlace 14 = .ok (.invokevirtual 47, 3) := by decide +kernel
theorem dX10_stepPlace_17 : decode cX10_stepPlace 17 = .ok (.ireturn, 1) := by decide +kernel
theorem dX10_levelAt_0 : decode cX10_levelAt 0 = .ok (.aload_n 0, 1) := by decide +kernel
theorem dX10_levelAt_1 : decode cX10_levelAt 1 = .ok (.iload_n 1, 1) := by decide +kernel
theorem dX10_levelAt_2 : decode cX10_levelAt 2 = .ok (.iconst 3, 1) := by decide +kernel
theorem dX10_levelAt_3 : decode cX10_levelAt 3 = .ok (.invokevirtual 55, 3) := by decide +kernel
theorem dX10_levelAt_6 : decode cX10_levelAt 6 = .ok (.iload_n 2, 1) := by decide +kernel
theorem dX10_levelAt_7 : decode cX10_levelAt 7 = .ok (.aload_n 0, 1) := by decide +kernel
theorem dX10_levelAt_8 : decode cX10_levelAt 8 = .ok (.iload_n 1, 1) := by decide +kernel
theorem dX10_levelAt_9 : decode cX10_levelAt 9 = .ok (.iconst 4, 1) := by decide +kernel
theorem dX10_levelAt_10 : decode cX10_levelAt 10 = .ok (.invokevirtual 55, 3) := by decide +kernel
theorem dX10_levelAt_13 : decode cX10_levelAt 13 = .ok (.imul, 1) := by decide +kernel
theorem dX10_levelAt_14 : decode cX10_levelAt 14 = .ok (.isub, 1) := by decide +kernel
theorem dX10_levelAt_15 : decode cX10_levelAt 15 = .ok (.ireturn, 1) := by decide +kernel
theorem dX10_stepOf_0 : decode cX10_stepOf 0 = .ok (.iconst (-1), 1) := by decide +kernel
theorem dX10_stepOf_1 : decode cX10_stepOf 1 = .ok (.istore_n 3, 1) := by decide +kernel
theorem dX10_stepOf_2 : decode cX10_stepOf 2 = .ok (.iconst 0, 1) := by decide +kernel
theorem dX10_stepOf_3 : decode cX10_stepOf 3 = .ok (.istore 4, 2) := by decide +kernel
theorem dX10_stepOf_5 : decode cX10_stepOf 5 = .ok (.iload 4, 2) := by decide +kernel
theorem dX10_stepOf_7 : decode cX10_stepOf 7 = .ok (.aload_n 0, 1) := by decide +kernel
theorem dX10_stepOf_8 : decode cX10_stepOf 8 = .ok (.iload_n 1, 1) := by decide +kernel
theorem dX10_stepOf_9 : decode cX10_stepOf 9 = .ok (.bipush 11, 2) := by decide +kernel
theorem dX10_stepOf_11 : decode cX10_stepOf 11 = .ok (.invokevirtual 55, 3) := by decide +kernel
theorem dX10_stepOf_14 : decode cX10_stepOf 14 = .ok (.if_icmp .ge 27, 3) := by decide +kernel
theorem dX10_stepOf_17 : decode cX10_stepOf 17 = .ok (.aload_n 0, 1) := by decide +kernel
theorem dX10_stepOf_18 : decode cX10_stepOf 18 = .ok (.iload_n 1, 1) := by decide +kernel
theorem dX10_stepOf_19 : decode cX10_stepOf 19 = .ok (.iload 4, 2) := by decide +kernel
theorem dX10_stepOf_21 : decode cX10_stepOf 21 = .ok (.invokevirtual 59, 3) := by decide +kernel
theorem dX10_stepOf_24 : decode cX10_stepOf 24 = .ok (.iload_n 2, 1) := by decide +kernel
theorem dX10_stepOf_25 : decode cX10_stepOf 25 = .ok (.if_icmp .ne 8, 3) := by decide +kernel
theorem dX10_stepOf_28 : decode cX10_stepOf 28 = .ok (.iload 4, 2) := by decide +kernel
theorem dX10_stepOf_30 : decode cX10_stepOf 30 = .ok (.goto 4, 3) := by decide +kernel
theorem dX10_stepOf_33 : decode cX10_stepOf 33 = .ok (.iload_n 3, 1) := by decide +kernel
theorem dX10_stepOf_34 : decode cX10_stepOf 34 = .ok (.istore_n 3, 1) := by decide +kernel
theorem dX10_stepOf_35 : decode cX10_stepOf 35 = .ok (.iinc 4 1, 3) := by decide +kernel
theorem dX10_stepOf_38 : decode cX10_stepOf 38 = .ok (.goto (-33), 3) := by decide +kernel
theorem dX10_stepOf_41 : decode cX10_stepOf 41 = .ok (.iload_n 3, 1) := by decide +kernel
theorem dX10_stepOf_42 : decode cX10_stepOf 42 = .ok (.ireturn, 1) := by decide +kernel
theorem dX10_rank_0 : decode cX10_rank 0 = .ok (.iconst 0, 1) := by decide +kernel
theorem dX10_rank_1 : decode cX10_rank 1 = .ok (.istore_n 2, 1) := by decide +kernel
theorem dX10_rank_2 : decode cX10_rank 2 = .ok (.aload_n 0, 1) := by decide +kernel
theorem dX10_rank_3 : decode cX10_rank 3 = .ok (.iload_n 1, 1) := by decide +kernel
theorem dX10_rank_4 : decode cX10_rank 4 = .ok (.bipush 7, 2) := by decide +kernel
theorem dX10_rank_6 : decode cX10_rank 6 = .ok (.invokevirtual 55, 3) := by decide +kernel
theorem dX10_rank_9 : decode cX10_rank 9 = .ok (.istore_n 3, 1) := by decide +kernel
theorem dX10_rank_10 : decode cX10_rank 10 = .ok (.iload_n 3, 1) := by decide +kernel
theorem dX10_rank_11 : decode cX10_rank 11 = .ok (.ifCond .lt 23, 3) := by decide +kernel
theorem dX10_rank_14 : decode cX10_rank 14 = .ok (.iload_n 3, 1) := by decide +kernel
theorem dX10_rank_15 : decode cX10_rank 15 = .ok (.bipush 100, 2) := by decide +kernel
theorem dX10_rank_17 : decode cX10_rank 17 = .ok (.if_icmp .ge 17, 3) := by decide +kernel
theorem dX10_rank_20 : decode cX10_rank 20 = .ok (.iinc 2 1, 3) := by decide +kernel
theorem dX10_rank_23 : decode cX10_rank 23 = .ok (.aload_n 0, 1) := by decide +kernel
theorem dX10_rank_24 : decode cX10_rank 24 = .ok (.iload_n 3, 1) := by decide +kernel
theorem dX10_rank_25 : decode cX10_rank 25 = .ok (.bipush 7, 2) := by decide +kernel
theorem dX10_rank_27 : decode cX10_rank 27 = .ok (.invokevirtual 55, 3) := by decide +kernel
theorem dX10_rank_30 : decode cX10_rank 30 = .ok (.istore_n 3, 1) := by decide +kernel
theorem dX10_rank_31 : decode cX10_rank 31 = .ok (.goto (-21), 3) := by decide +kernel
theorem dX10_rank_34 : decode cX10_rank 34 = .ok (.iload_n 2, 1) := by decide +kernel
theorem dX10_rank_35 : decode cX10_rank 35 = .ok (.ireturn, 1) := by decide +kernel
theorem dX10_join_0 : decode cX10_join 0 = .ok (.aload_n 0, 1) := by decide +kernel
theorem dX10_join_1 : decode cX10_join 1 = .ok (.iload_n 1, 1) := by decide +kernel
theorem dX10_join_2 : decode cX10_join 2 = .ok (.invokevirtual 62, 3) := by decide +kernel
theorem dX10_join_5 : decode cX10_join 5 = .ok (.ifCond .eq 11, 3) := by decide +kernel
theorem dX10_join_8 : decode cX10_join 8 = .ok (.aload_n 0, 1) := by decide +kernel
theorem dX10_join_9 : decode cX10_join 9 = .ok (.iload_n 2, 1) := by decide +kernel
theorem dX10_join_10 : decode cX10_join 10 = .ok (.invokevirtual 62, 3) := by decide +kernel
theorem dX10_join_13 : decode cX10_join 13 = .ok (.ifCond .ne 5, 3) := by decide +kernel
theorem dX10_join_16 : decode cX10_join 16 = .ok (.iconst (-1), 1) := by decide +kernel
theorem dX10_join_17 : decode cX10_join 17 = .ok (.ireturn, 1) := by decide +kernel
theorem dX10_join_18 : decode cX10_join 18 = .ok (.aload_n 0, 1) := by decide +kernel
theorem dX10_join_19 : decode cX10_join 19 = .ok (.iload_n 1, 1) := by decide +kernel
theorem dX10_join_20 : decode cX10_join 20 = .ok (.bipush 11, 2) := by decide +kernel
theorem dX10_join_22 : decode cX10_join 22 = .ok (.invokevirtual 55, 3) := by decide +kernel
theorem dX10_join_25 : decode cX10_join 25 = .ok (.iconst 1, 1) := by decide +kernel
theorem dX10_join_26 : decode cX10_join 26 = .ok (.isub, 1) := by decide +kernel
theorem dX10_join_27 : decode cX10_join 27 = .ok (.istore_n 3, 1) := by decide +kernel
theorem dX10_join_28 : decode cX10_join 28 = .ok (.aload_n 0, 1) := by decide +kernel
theorem dX10_join_29 : decode cX10_join 29 = .ok (.iload_n 2, 1) := by decide +kernel
theorem dX10_join_30 : decode cX10_join 30 = .ok (.aload_n 0, 1) := by decide +kernel
theorem dX10_join_31 : decode cX10_join 31 = .ok (.iload_n 1, 1) := by decide +kernel
theorem dX10_join_32 : decode cX10_join 32 = .ok (.iload_n 3, 1) := by decide +kernel
theorem dX10_join_33 : decode cX10_join 33 = .ok (.invokevirtual 59, 3) := by decide +kernel
theorem dX10_join_36 : decode cX10_join 36 = .ok (.invokevirtual 65, 3) := by decide +kernel
theorem dX10_join_39 : decode cX10_join 39 = .ok (.istore 4, 2) := by decide +kernel
theorem dX10_join_41 : decode cX10_join 41 = .ok (.aload_n 0, 1) := by decide +kernel
theorem dX10_join_42 : decode cX10_join 42 = .ok (.iload_n 1, 1) := by decide +kernel
theorem dX10_join_43 : decode cX10_join 43 = .ok (.iconst 0, 1) := by decide +kernel
theorem dX10_join_44 : decode cX10_join 44 = .ok (.invokevirtual 55, 3) := by decide +kernel
theorem dX10_join_47 : decode cX10_join 47 = .ok (.iconst 3, 1) := by decide +kernel
theorem dX10_join_48 : decode cX10_join 48 = .ok (.if_icmp .eq 19, 3) := by decide +kernel
theorem dX10_join_51 : decode cX10_join 51 = .ok (.aload_n 0, 1) := by decide +kernel
theorem dX10_join_52 : decode cX10_join 52 = .ok (.iload_n 2, 1) := by decide +kernel
theorem dX10_join_53 : decode cX10_join 53 = .ok (.iconst 0, 1) := by decide +kernel
theorem dX10_join_54 : decode cX10_join 54 = .ok (.invokevirtual 55, 3) := by decide +kernel
theorem dX10_join_57 : decode cX10_join 57 = .ok (.iconst 2, 1) := by decide +kernel
theorem dX10_join_58 : decode cX10_join 58 = .ok (.irem, 1) := by decide +kernel
theorem dX10_join_59 : decode cX10_join 59 = .ok (.ifCond .eq 8, 3) := by decide +kernel
theorem dX10_join_62 : decode cX10_join 62 = .ok (.iload 4, 2) := by decide +kernel
theorem dX10_join_64 : decode cX10_join 64 = .ok (.ifCond .ge 6, 3) := by decide +kernel
theorem dX10_join_67 : decode cX10_join 67 = .ok (.bipush (-3), 2) := by decide +kernel
theorem dX10_join_69 : decode cX10_join 69 = .ok (.ireturn, 1) := by decide +kernel
theorem dX10_join_70 : decode cX10_join 70 = .ok (.aload_n 0, 1) := by decide +kernel
theorem dX10_join_71 : decode cX10_join 71 = .ok (.iload_n 1, 1) := by decide +kernel
theorem dX10_join_72 : decode cX10_join 72 = .ok (.iload_n 3, 1) := by decide +kernel
theorem dX10_join_73 : decode cX10_join 73 = .ok (.invokevirtual 68, 3) := by decide +kernel
theorem dX10_join_76 : decode cX10_join 76 = .ok (.aload_n 0, 1) := by decide +kernel
theorem dX10_join_77 : decode cX10_join 77 = .ok (.iload_n 2, 1) := by decide +kernel
theorem dX10_join_78 : decode cX10_join 78 = .ok (.iload 4, 2) := by decide +kernel
theorem dX10_join_80 : decode cX10_join 80 = .ok (.invokevirtual 68, 3) := by decide +kernel
theorem dX10_join_83 : decode cX10_join 83 = .ok (.if_icmp .ge 6, 3) := by decide +kernel
theorem dX10_join_86 : decode cX10_join 86 = .ok (.bipush (-4), 2) := by decide +kernel
theorem dX10_join_88 : decode cX10_join 88 = .ok (.ireturn, 1) := by decide +kernel
theorem dX10_join_89 : decode cX10_join 89 = .ok (.iload_n 2, 1) := by decide +kernel
theorem dX10_join_90 : decode cX10_join 90 = .ok (.istore 5, 2) := by decide +kernel
theorem dX10_join_92 : decode cX10_join 92 = .ok (.iload 5, 2) := by decide +kernel
theorem dX10_join_94 : decode cX10_join 94 = .ok (.ifCond .lt 32, 3) := by decide +kernel
theorem dX10_join_97 : decode cX10_join 97 = .ok (.iload 5, 2) := by decide +kernel
theorem dX10_join_99 : decode cX10_join 99 = .ok (.bipush 100, 2) := by decide +kernel
theorem dX10_join_101 : decode cX10_join 101 = .ok (.if_icmp .ge 25, 3) := by decide +kernel
theorem dX10_join_104 : decode cX10_join 104 = .ok (.iload 5, 2) := by decide +kernel
theorem dX10_join_106 : decode cX10_join 106 = .ok (.iload_n 1, 1) := by decide +kernel
theorem dX10_join_107 : decode cX10_join 107 = .ok (.if_icmp .ne 6, 3) := by decide +kernel
theorem dX10_join_110 : decode cX10_join 110 = .ok (.bipush (-5), 2) := by decide +kernel
theorem dX10_join_112 : decode cX10_join 112 = .ok (.ireturn, 1) := by decide +kernel
theorem dX10_join_113 : decode cX10_join 113 = .ok (.aload_n 0, 1) := by decide +kernel
theorem dX10_join_114 : decode cX10_join 114 = .ok (.iload 5, 2) := by decide +kernel
theorem dX10_join_116 : decode cX10_join 116 = .ok (.bipush 7, 2) := by decide +kernel
theorem dX10_join_118 : decode cX10_join 118 = .ok (.invokevirtual 55, 3) := by decide +kernel
theorem dX10_join_121 : decode cX10_join 121 = .ok (.istore 5, 2) := by decide +kernel
theorem dX10_join_123 : decode cX10_join 123 = .ok (.goto (-31), 3) := by decide +kernel
theorem dX10_join_126 : decode cX10_join 126 = .ok (.aload_n 0, 1) := by decide +kernel
theorem dX10_join_127 : decode cX10_join 127 = .ok (.iload_n 1, 1) := by decide +kernel
theorem dX10_join_128 : decode cX10_join 128 = .ok (.bipush 7, 2) := by decide +kernel
theorem dX10_join_130 : decode cX10_join 130 = .ok (.iload_n 2, 1) := by decide +kernel
theorem dX10_join_131 : decode cX10_join 131 = .ok (.invokevirtual 51, 3) := by decide +kernel
theorem dX10_join_134 : decode cX10_join 134 = .ok (.aload_n 0, 1) := by decide +kernel
theorem dX10_join_135 : decode cX10_join 135 = .ok (.iload_n 1, 1) := by decide +kernel
theorem dX10_join_136 : decode cX10_join 136 = .ok (.invokevirtual 71, 3) := by decide +kernel
theorem dX10_join_139 : decode cX10_join 139 = .ok (.ireturn, 1) := by decide +kernel
theorem dX10_open_0 : decode cX10_open 0 = .ok (.aload_n 0, 1) := by decide +kernel
theorem dX10_open_1 : decode cX10_open 1 = .ok (.iload_n 1, 1) := by decide +kernel
theorem dX10_open_2 : decode cX10_open 2 = .ok (.invokevirtual 62, 3) := by decide +kernel
theorem dX10_open_5 : decode cX10_open 5 = .ok (.ifCond .eq 12, 3) := by decide +kernel
theorem dX10_open_8 : decode cX10_open 8 = .ok (.iload_n 2, 1) := by decide +kernel
theorem dX10_open_9 : decode cX10_open 9 = .ok (.iconst 0, 1) := by decide +kernel
theorem dX10_open_10 : decode cX10_open 10 = .ok (.iconst 3, 1) := by decide +kernel
theorem dX10_open_11 : decode cX10_open 11 = .ok (.invokestatic 29, 3) := by decide +kernel
theorem dX10_open_14 : decode cX10_open 14 = .ok (.ifCond .ne 5, 3) := by decide +kernel
theorem dX10_open_17 : decode cX10_open 17 = .ok (.iconst (-1), 1) := by decide +kernel
theorem dX10_open_18 : decode cX10_open 18 = .ok (.ireturn, 1) := by decide +kernel
theorem dX10_open_19 : decode cX10_open 19 = .ok (.aload_n 0, 1) := by decide +kernel
theorem dX10_open_20 : decode cX10_open 20 = .ok (.iload_n 1, 1) := by decide +kernel
theorem dX10_open_21 : decode cX10_open 21 = .ok (.iconst 0, 1) := by decide +kernel
theorem dX10_open_22 : decode cX10_open 22 = .ok (.invokevirtual 55, 3) := by decide +kernel
theorem dX10_open_25 : decode cX10_open 25 = .ok (.iconst 3, 1) := by decide +kernel
theorem dX10_open_26 : decode cX10_open 26 = .ok (.if_icmp .eq 6, 3) := by decide +kernel
theorem dX10_open_29 : decode cX10_open 29 = .ok (.bipush (-3), 2) := by decide +kernel
theorem dX10_open_31 : decode cX10_open 31 = .ok (.ireturn, 1) := by decide +kernel
theorem dX10_open_32 : decode cX10_open 32 = .ok (.aload_n 0, 1) := by decide +kernel
theorem dX10_open_33 : decode cX10_open 33 = .ok (.iload_n 1, 1) := by decide +kernel
theorem dX10_open_34 : decode cX10_open 34 = .ok (.bipush 7, 2) := by decide +kernel
theorem dX10_open_36 : decode cX10_open 36 = .ok (.bipush 100, 2) := by decide +kernel
theorem dX10_open_38 : decode cX10_open 38 = .ok (.iload_n 2, 1) := by decide +kernel
theorem dX10_open_39 : decode cX10_open 39 = .ok (.iadd, 1) := by decide +kernel
theorem dX10_open_40 : decode cX10_open 40 = .ok (.invokevirtual 51, 3) := by decide +kernel
theorem dX10_open_43 : decode cX10_open 43 = .ok (.iconst 1, 1) := by decide +kernel
theorem dX10_open_44 : decode cX10_open 44 = .ok (.ireturn, 1) := by decide +kernel
theorem dX10_part_0 : decode cX10_part 0 = .ok (.aload_n 0, 1) := by decide +kernel
theorem dX10_part_1 : decode cX10_part 1 = .ok (.iload_n 1, 1) := by decide +kernel
theorem dX10_part_2 : decode cX10_part 2 = .ok (.invokevirtual 62, 3) := by decide +kernel
theorem dX10_part_5 : decode cX10_part 5 = .ok (.ifCond .ne 5, 3) := by decide +kernel
theorem dX10_part_8 : decode cX10_part 8 = .ok (.iconst (-1), 1) := by decide +kernel
theorem dX10_part_9 : decode cX10_part 9 = .ok (.ireturn, 1) := by decide +kernel
theorem dX10_part_10 : decode cX10_part 10 = .ok (.aload_n 0, 1) := by decide +kernel
theorem dX10_part_11 : decode cX10_part 11 = .ok (.iload_n 1, 1) := by decide +kernel
theorem dX10_part_12 : decode cX10_part 12 = .ok (.bipush 7, 2) := by decide +kernel
theorem dX10_part_14 : decode cX10_part 14 = .ok (.invokevirtual 55, 3) := by decide +kernel
theorem dX10_part_17 : decode cX10_part 17 = .ok (.iconst (-1), 1) := by decide +kernel
theorem dX10_part_18 : decode cX10_part 18 = .ok (.if_icmp .ne 7, 3) := by decide +kernel
theorem dX10_part_21 : decode cX10_part 21 = .ok (.iconst 0, 1) := by decide +kernel
theorem dX10_part_22 : decode cX10_part 22 = .ok (.goto 4, 3) := by decide +kernel
theorem dX10_part_25 : decode cX10_part 25 = .ok (.iconst 1, 1) := by decide +kernel
theorem dX10_part_26 : decode cX10_part 26 = .ok (.istore_n 2, 1) := by decide +kernel
theorem dX10_part_27 : decode cX10_part 27 = .ok (.aload_n 0, 1) := by decide +kernel
theorem dX10_part_28 : decode cX10_part 28 = .ok (.iload_n 1, 1) := by decide +kernel
theorem dX10_part_29 : decode cX10_part 29 = .ok (.bipush 7, 2) := by decide +kernel
theorem dX10_part_31 : decode cX10_part 31 = .ok (.iconst (-1), 1) := by decide +kernel
theorem dX10_part_32 : decode cX10_part 32 = .ok (.invokevirtual 51, 3) := by decide +kernel
theorem dX10_part_35 : decode cX10_part 35 = .ok (.iload_n 2, 1) := by decide +kernel
theorem dX10_part_36 : decode cX10_part 36 = .ok (.ireturn, 1) := by decide +kernel
theorem dX10_block_0 : decode cX10_block 0 = .ok (.aload_n 0, 1) := by decide +kernel
theorem dX10_block_1 : decode cX10_block 1 = .ok (.iload_n 1, 1) := by decide +kernel
theorem dX10_block_2 : decode cX10_block 2 = .ok (.invokevirtual 62, 3) := by decide +kernel
theorem dX10_block_5 : decode cX10_block 5 = .ok (.ifCond .ne 5, 3) := by decide +kernel
theorem dX10_block_8 : decode cX10_block 8 = .ok (.iconst (-1), 1) := by decide +kernel
theorem dX10_block_9 : decode cX10_block 9 = .ok (.ireturn, 1) := by decide +kernel
theorem dX10_block_10 : decode cX10_block 10 = .ok (.aload_n 0, 1) := by decide +kernel
theorem dX10_block_11 : decode cX10_block 11 = .ok (.iload_n 1, 1) := by decide +kernel
theorem dX10_block_12 : decode cX10_block 12 = .ok (.bipush 8, 2) := by decide +kernel
theorem dX10_block_14 : decode cX10_block 14 = .ok (.invokevirtual 55, 3) := by decide +kernel
theorem dX10_block_17 : decode cX10_block 17 = .ok (.iconst 1, 1) := by decide +kernel
theorem dX10_block_18 : decode cX10_block 18 = .ok (.if_icmp .ne 7, 3) := by decide +kernel
theorem dX10_block_21 : decode cX10_block 21 = .ok (.iconst 1, 1) := by decide +kernel
theorem dX10_block_22 : decode cX10_block 22 = .ok (.goto 4, 3) := by decide +kernel
theorem dX10_block_25 : decode cX10_block 25 = .ok (.iconst 0, 1) := by decide +kernel
theorem dX10_block_26 : decode cX10_block 26 = .ok (.iload_n 2, 1) := by decide +kernel
theorem dX10_block_27 : decode cX10_block 27 = .ok (.if_icmp .ne 7, 3) := by decide +kernel
theorem dX10_block_30 : decode cX10_block 30 = .ok (.iconst 0, 1) := by decide +kernel
theorem dX10_block_31 : decode cX10_block 31 = .ok (.goto 4, 3) := by decide +kernel
theorem dX10_block_34 : decode cX10_block 34 = .ok (.iconst 1, 1) := by decide +kernel
theorem dX10_block_35 : decode cX10_block 35 = .ok (.istore_n 3, 1) := by decide +kernel
theorem dX10_block_36 : decode cX10_block 36 = .ok (.aload_n 0, 1) := by decide +kernel
theorem dX10_block_37 : decode cX10_block 37 = .ok (.iload_n 1, 1) := by decide +kernel
theorem dX10_block_38 : decode cX10_block 38 = .ok (.bipush 8, 2) := by decide +kernel
theorem dX10_block_40 : decode cX10_block 40 = .ok (.iload_n 2, 1) := by decide +kernel
theorem dX10_block_41 : decode cX10_block 41 = .ok (.ifCond .eq 7, 3) := by decide +kernel
theorem dX10_block_44 : decode cX10_block 44 = .ok (.iconst 1, 1) := by decide +kernel
theorem dX10_block_45 : decode cX10_block 45 = .ok (.goto 4, 3) := by decide +kernel
theorem dX10_block_48 : decode cX10_block 48 = .ok (.iconst 0, 1) := by decide +kernel
theorem dX10_block_49 : decode cX10_block 49 = .ok (.invokevirtual 51, 3) := by decide +kernel
theorem dX10_block_52 : decode cX10_block 52 = .ok (.iload_n 3, 1) := by decide +kernel
theorem dX10_block_53 : decode cX10_block 53 = .ok (.ireturn, 1) := by decide +kernel
theorem dX10_bears_0 : decode cX10_bears 0 = .ok (.aload_n 0, 1) := by decide +kernel
theorem dX10_bears_1 : decode cX10_bears 1 = .ok (.iload_n 1, 1) := by decide +kernel
theorem dX10_bears_2 : decode cX10_bears 2 = .ok (.iconst 5, 1) := by decide +kernel
theorem dX10_bears_3 : decode cX10_bears 3 = .ok (.invokevirtual 55, 3) := by decide +kernel
theorem dX10_bears_6 : decode cX10_bears 6 = .ok (.aload_n 0, 1) := by decide +kernel
theorem dX10_bears_7 : decode cX10_bears 7 = .ok (.iload_n 1, 1) := by decide +kernel
theorem dX10_bears_8 : decode cX10_bears 8 = .ok (.iconst 5, 1) := by decide +kernel
theorem dX10_bears_9 : decode cX10_bears 9 = .ok (.invokevirtual 55, 3) := by decide +kernel
theorem dX10_bears_12 : decode cX10_bears 12 = .ok (.imul, 1) := by decide +kernel
theorem dX10_bears_13 : decode cX10_bears 13 = .ok (.aload_n 0, 1) := by decide +kernel
theorem dX10_bears_14 : decode cX10_bears 14 = .ok (.iload_n 1, 1) := by decide +kernel
theorem dX10_bears_15 : decode cX10_bears 15 = .ok (.iconst 4, 1) := by decide +kernel
theorem dX10_bears_16 : decode cX10_bears 16 = .ok (.invokevirtual 55, 3) := by decide +kernel
theorem dX10_bears_19 : decode cX10_bears 19 = .ok (.iconst 5, 1) := by decide +kernel
theorem dX10_bears_20 : decode cX10_bears 20 = .ok (.iadd, 1) := by decide +kernel
theorem dX10_bears_21 : decode cX10_bears 21 = .ok (.imul, 1) := by decide +kernel
theorem dX10_bears_22 : decode cX10_bears 22 = .ok (.ireturn, 1) := by decide +kernel
theorem dX10_holds_0 : decode cX10_holds 0 = .ok (.bipush 40, 2) := by decide +kernel
theorem dX10_holds_2 : decode cX10_holds 2 = .ok (.aload_n 0, 1) := by decide +kernel
theorem dX10_holds_3 : decode cX10_holds 3 = .ok (.iload_n 1, 1) := by decide +kernel
theorem dX10_holds_4 : decode cX10_holds 4 = .ok (.iconst 5, 1) := by decide +kernel
theorem dX10_holds_5 : decode cX10_holds 5 = .ok (.invokevirtual 55, 3) := by decide +kernel
theorem dX10_holds_8 : decode cX10_holds 8 = .ok (.imul, 1) := by decide +kernel
theorem dX10_holds_9 : decode cX10_holds 9 = .ok (.aload_n 0, 1) := by decide +kernel
theorem dX10_holds_10 : decode cX10_holds 10 = .ok (.iload_n 1, 1) := by decide +kernel
theorem dX10_holds_11 : decode cX10_holds 11 = .ok (.bipush 11, 2) := by decide +kernel
theorem dX10_holds_13 : decode cX10_holds 13 = .ok (.invokevirtual 55, 3) := by decide +kernel
theorem dX10_holds_16 : decode cX10_holds 16 = .ok (.imul, 1) := by decide +kernel
theorem dX10_holds_17 : decode cX10_holds 17 = .ok (.ireturn, 1) := by decide +kernel
theorem dX10_peak_0 : decode cX10_peak 0 = .ok (.iconst 0, 1) := by decide +kernel
theorem dX10_peak_1 : decode cX10_peak 1 = .ok (.istore_n 2, 1) := by decide +kernel
theorem dX10_peak_2 : decode cX10_peak 2 = .ok (.iconst 0, 1) := by decide +kernel
theorem dX10_peak_3 : decode cX10_peak 3 = .ok (.istore_n 3, 1) := by decide +kernel
theorem dX10_peak_4 : decode cX10_peak 4 = .ok (.iload_n 3, 1) := by decide +kernel
theorem dX10_peak_5 : decode cX10_peak 5 = .ok (.aload_n 0, 1) := by decide +kernel
theorem dX10_peak_6 : decode cX10_peak 6 = .ok (.getfield 7, 3) := by decide +kernel
theorem dX10_peak_9 : decode cX10_peak 9 = .ok (.bipush 13, 2) := by decide +kernel
theorem dX10_peak_11 : decode cX10_peak 11 = .ok (.iaload, 1) := by decide +kernel
theorem dX10_peak_12 : decode cX10_peak 12 = .ok (.if_icmp .ge 32, 3) := by decide +kernel
theorem dX10_peak_15 : decode cX10_peak 15 = .ok (.iload_n 2, 1) := by decide +kernel
theorem dX10_peak_16 : decode cX10_peak 16 = .ok (.aload_n 0, 1) := by decide +kernel
theorem dX10_peak_17 : decode cX10_peak 17 = .ok (.iload_n 3, 1) := by decide +kernel
theorem dX10_peak_18 : decode cX10_peak 18 = .ok (.bipush 7, 2) := by decide +kernel
theorem dX10_peak_20 : decode cX10_peak 20 = .ok (.invokevirtual 55, 3) := by decide +kernel
theorem dX10_peak_23 : decode cX10_peak 23 = .ok (.iload_n 1, 1) := by decide +kernel
theorem dX10_peak_24 : decode cX10_peak 24 = .ok (.if_icmp .ne 11, 3) := by decide +kernel
theorem dX10_peak_27 : decode cX10_peak 27 = .ok (.aload_n 0, 1) := by decide +kernel
theorem dX10_peak_28 : decode cX10_peak 28 = .ok (.iload_n 3, 1) := by decide +kernel
theorem dX10_peak_29 : decode cX10_peak 29 = .ok (.invokevirtual 74, 3) := by decide +kernel
theorem dX10_peak_32 : decode cX10_peak 32 = .ok (.goto 4, 3) := by decide +kernel
theorem dX10_peak_35 : decode cX10_peak 35 = .ok (.iconst 0, 1) := by decide +kernel
theorem dX10_peak_36 : decode cX10_peak 36 = .ok (.iadd, 1) := by decide +kernel
theorem dX10_peak_37 : decode cX10_peak 37 = .ok (.istore_n 2, 1) := by decide +kernel
theorem dX10_peak_38 : decode cX10_peak 38 = .ok (.iinc 3 1, 3) := by decide +kernel
theorem dX10_peak_41 : decode cX10_peak 41 = .ok (.goto (-37), 3) := by decide +kernel
theorem dX10_peak_44 : decode cX10_peak 44 = .ok (.iload_n 2, 1) := by decide +kernel
theorem dX10_peak_45 : decode cX10_peak 45 = .ok (.aload_n 0, 1) := by decide +kernel
theorem dX10_peak_46 : decode cX10_peak 46 = .ok (.iload_n 1, 1) := by decide +kernel
theorem dX10_peak_47 : decode cX10_peak 47 = .ok (.invokevirtual 74, 3) := by decide +kernel
theorem dX10_peak_50 : decode cX10_peak 50 = .ok (.invokestatic 77, 3) := by decide +kernel
theorem dX10_peak_53 : decode cX10_peak 53 = .ok (.ireturn, 1) := by decide +kernel
theorem dX10_of_0 : decode cX10_of 0 = .ok (.aload_n 0, 1) := by decide +kernel
theorem dX10_of_1 : decode cX10_of 1 = .ok (.iload_n 1, 1) := by decide +kernel
theorem dX10_of_2 : decode cX10_of 2 = .ok (.invokevirtual 62, 3) := by decide +kernel
theorem dX10_of_5 : decode cX10_of 5 = .ok (.ifCond .ne 5, 3) := by decide +kernel
theorem dX10_of_8 : decode cX10_of 8 = .ok (.iconst (-1), 1) := by decide +kernel
theorem dX10_of_9 : decode cX10_of 9 = .ok (.ireturn, 1) := by decide +kernel
theorem dX10_of_10 : decode cX10_of 10 = .ok (.iload_n 2, 1) := by decide +kernel
theorem dX10_of_11 : decode cX10_of 11 = .ok (.tableswitch 147 0 11 #[61, 68, 76, 83, 89, 95, 101, 109, 117, 125, 133, 139], 61) := by decide +kernel
theorem dX10_of_72 : decode cX10_of 72 = .ok (.aload_n 0, 1) := by decide +kernel
theorem dX10_of_73 : decode cX10_of 73 = .ok (.iload_n 1, 1) := by decide +kernel
theorem dX10_of_74 : decode cX10_of 74 = .ok (.iconst 0, 1) := by decide +kernel
theorem dX10_of_75 : decode cX10_of 75 = .ok (.invokevirtual 55, 3) := by decide +kernel
theorem dX10_of_78 : decode cX10_of 78 = .ok (.ireturn, 1) := by decide +kernel
theorem dX10_of_79 : decode cX10_of 79 = .ok (.aload_n 0, 1) := by decide +kernel
theorem dX10_of_80 : decode cX10_of 80 = .ok (.iload_n 1, 1) := by decide +kernel
theorem dX10_of_81 : decode cX10_of 81 = .ok (.bipush 11, 2) := by decide +kernel
theorem dX10_of_83 : decode cX10_of 83 = .ok (.invokevirtual 55, 3) := by decide +kernel
theorem dX10_of_86 : decode cX10_of 86 = .ok (.ireturn, 1) := by decide +kernel
theorem dX10_of_87 : decode cX10_of 87 = .ok (.aload_n 0, 1) := by decide +kernel
theorem dX10_of_88 : decode cX10_of 88 = .ok (.iload_n 1, 1) := by decide +kernel
theorem dX10_of_89 : decode cX10_of 89 = .ok (.iconst 5, 1) := by decide +kernel
theorem dX10_of_90 : decode cX10_of 90 = .ok (.invokevirtual 55, 3) := by decide +kernel
theorem dX10_of_93 : decode cX10_of 93 = .ok (.ireturn, 1) := by decide +kernel
theorem dX10_of_94 : decode cX10_of 94 = .ok (.aload_n 0, 1) := by decide +kernel
theorem dX10_of_95 : decode cX10_of 95 = .ok (.iload_n 1, 1) := by decide +kernel
theorem dX10_of_96 : decode cX10_of 96 = .ok (.invokevirtual 74, 3) := by decide +kernel
theorem dX10_of_99 : decode cX10_of 99 = .ok (.ireturn, 1) := by decide +kernel
theorem dX10_of_100 : decode cX10_of 100 = .ok (.aload_n 0, 1) := by decide +kernel
theorem dX10_of_101 : decode cX10_of 101 = .ok (.iload_n 1, 1) := by decide +kernel
theorem dX10_of_102 : decode cX10_of 102 = .ok (.invokevirtual 80, 3) := by decide +kernel
theorem dX10_of_105 : decode cX10_of 105 = .ok (.ireturn, 1) := by decide +kernel
theorem dX10_of_106 : decode cX10_of 106 = .ok (.aload_n 0, 1) := by decide +kernel
theorem dX10_of_107 : decode cX10_of 107 = .ok (.iload_n 1, 1) := by decide +kernel
theorem dX10_of_108 : decode cX10_of 108 = .ok (.invokevirtual 71, 3) := by decide +kernel
theorem dX10_of_111 : decode cX10_of 111 = .ok (.ireturn, 1) := by decide +kernel
theorem dX10_of_112 : decode cX10_of 112 = .ok (.aload_n 0, 1) := by decide +kernel
theorem dX10_of_113 : decode cX10_of 113 = .ok (.iload_n 1, 1) := by decide +kernel
theorem dX10_of_114 : decode cX10_of 114 = .ok (.bipush 7, 2) := by decide +kernel
theorem dX10_of_116 : decode cX10_of 116 = .ok (.invokevirtual 55, 3) := by decide +kernel
theorem dX10_of_119 : decode cX10_of 119 = .ok (.ireturn, 1) := by decide +kernel
theorem dX10_of_120 : decode cX10_of 120 = .ok (.aload_n 0, 1) := by decide +kernel
theorem dX10_of_121 : decode cX10_of 121 = .ok (.iload_n 1, 1) := by decide +kernel
theorem dX10_of_122 : decode cX10_of 122 = .ok (.bipush 8, 2) := by decide +kernel
theorem dX10_of_124 : decode cX10_of 124 = .ok (.invokevirtual 55, 3) := by decide +kernel
theorem dX10_of_127 : decode cX10_of 127 = .ok (.ireturn, 1) := by decide +kernel
theorem dX10_of_128 : decode cX10_of 128 = .ok (.aload_n 0, 1) := by decide +kernel
theorem dX10_of_129 : decode cX10_of 129 = .ok (.iload_n 1, 1) := by decide +kernel
theorem dX10_of_130 : decode cX10_of 130 = .ok (.bipush 9, 2) := by decide +kernel
theorem dX10_of_132 : decode cX10_of 132 = .ok (.invokevirtual 55, 3) := by decide +kernel
theorem dX10_of_135 : decode cX10_of 135 = .ok (.ireturn, 1) := by decide +kernel
theorem dX10_of_136 : decode cX10_of 136 = .ok (.aload_n 0, 1) := by decide +kernel
theorem dX10_of_137 : decode cX10_of 137 = .ok (.iload_n 1, 1) := by decide +kernel
theorem dX10_of_138 : decode cX10_of 138 = .ok (.bipush 6, 2) := by decide +kernel
theorem dX10_of_140 : decode cX10_of 140 = .ok (.invokevirtual 55, 3) := by decide +kernel
theorem dX10_of_143 : decode cX10_of 143 = .ok (.ireturn, 1) := by decide +kernel
theorem dX10_of_144 : decode cX10_of 144 = .ok (.aload_n 0, 1) := by decide +kernel
theorem dX10_of_145 : decode cX10_of 145 = .ok (.iload_n 1, 1) := by decide +kernel
theorem dX10_of_146 : decode cX10_of 146 = .ok (.invokevirtual 83, 3) := by decide +kernel
theorem dX10_of_149 : decode cX10_of 149 = .ok (.ireturn, 1) := by decide +kernel
theorem dX10_of_150 : decode cX10_of 150 = .ok (.aload_n 0, 1) := by decide +kernel
theorem dX10_of_151 : decode cX10_of 151 = .ok (.iload_n 1, 1) := by decide +kernel
theorem dX10_of_152 : decode cX10_of 152 = .ok (.bipush 10, 2) := by decide +kernel
theorem dX10_of_154 : decode cX10_of 154 = .ok (.invokevirtual 55, 3) := by decide +kernel
theorem dX10_of_157 : decode cX10_of 157 = .ok (.ireturn, 1) := by decide +kernel
theorem dX10_of_158 : decode cX10_of 158 = .ok (.iconst (-1), 1) := by decide +kernel
theorem dX10_of_159 : decode cX10_of 159 = .ok (.ireturn, 1) := by decide +kernel
