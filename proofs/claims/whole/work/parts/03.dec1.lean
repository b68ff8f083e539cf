theorem dX4_rankOf_0 : decode cX4_rankOf 0 = .ok (.iconst (-1), 1) := by decide +kernel
theorem dX4_rankOf_1 : decode cX4_rankOf 1 = .ok (.istore_n 2, 1) := by decide +kernel
theorem dX4_rankOf_2 : decode cX4_rankOf 2 = .ok (.iload_n 1, 1) := by decide +kernel
theorem dX4_rankOf_3 : decode cX4_rankOf 3 = .ok (.istore_n 3, 1) := by decide +kernel
theorem dX4_rankOf_4 : decode cX4_rankOf 4 = .ok (.aload_n 0, 1) := by decide +kernel
theorem dX4_rankOf_5 : decode cX4_rankOf 5 = .ok (.iload_n 3, 1) := by decide +kernel
theorem dX4_rankOf_6 : decode cX4_rankOf 6 = .ok (.invokevirtual 26, 3) := by decide +kernel
theorem dX4_rankOf_9 : decode cX4_rankOf 9 = .ok (.ifCond .eq 25, 3) := by decide +kernel
theorem dX4_rankOf_12 : decode cX4_rankOf 12 = .ok (.iload_n 2, 1) := by decide +kernel
theorem dX4_rankOf_13 : decode cX4_rankOf 13 = .ok (.bipush 20, 2) := by decide +kernel
theorem dX4_rankOf_15 : decode cX4_rankOf 15 = .ok (.if_icmp .ge 19, 3) := by decide +kernel
theorem dX4_rankOf_18 : decode cX4_rankOf 18 = .ok (.iinc 2 1, 3) := by decide +kernel
theorem dX4_rankOf_21 : decode cX4_rankOf 21 = .ok (.aload_n 0, 1) := by decide +kernel
theorem dX4_rankOf_22 : decode cX4_rankOf 22 = .ok (.getfield 11, 3) := by decide +kernel
theorem dX4_rankOf_25 : decode cX4_rankOf 25 = .ok (.iload_n 3, 1) := by decide +kernel
theorem dX4_rankOf_26 : decode cX4_rankOf 26 = .ok (.aaload, 1) := by decide +kernel
theorem dX4_rankOf_27 : decode cX4_rankOf 27 = .ok (.getfield 30, 3) := by decide +kernel
theorem dX4_rankOf_30 : decode cX4_rankOf 30 = .ok (.istore_n 3, 1) := by decide +kernel
theorem dX4_rankOf_31 : decode cX4_rankOf 31 = .ok (.goto (-27), 3) := by decide +kernel
theorem dX4_rankOf_34 : decode cX4_rankOf 34 = .ok (.iload_n 2, 1) := by decide +kernel
theorem dX4_rankOf_35 : decode cX4_rankOf 35 = .ok (.ireturn, 1) := by decide +kernel
theorem dX4_leadsTo_0 : decode cX4_leadsTo 0 = .ok (.iload_n 1, 1) := by decide +kernel
theorem dX4_leadsTo_1 : decode cX4_leadsTo 1 = .ok (.istore_n 3, 1) := by decide +kernel
theorem dX4_leadsTo_2 : decode cX4_leadsTo 2 = .ok (.iconst 0, 1) := by decide +kernel
theorem dX4_leadsTo_3 : decode cX4_leadsTo 3 = .ok (.istore 4, 2) := by decide +kernel
theorem dX4_leadsTo_5 : decode cX4_leadsTo 5 = .ok (.iload 4, 2) := by decide +kernel
theorem dX4_leadsTo_7 : decode cX4_leadsTo 7 = .ok (.bipush 20, 2) := by decide +kernel
theorem dX4_leadsTo_9 : decode cX4_leadsTo 9 = .ok (.if_icmp .ge 32, 3) := by decide +kernel
theorem dX4_leadsTo_12 : decode cX4_leadsTo 12 = .ok (.aload_n 0, 1) := by decide +kernel
theorem dX4_leadsTo_13 : decode cX4_leadsTo 13 = .ok (.iload_n 3, 1) := by decide +kernel
theorem dX4_leadsTo_14 : decode cX4_leadsTo 14 = .ok (.invokevirtual 26, 3) := by decide +kernel
theorem dX4_leadsTo_17 : decode cX4_leadsTo 17 = .ok (.ifCond .eq 24, 3) := by decide +kernel
theorem dX4_leadsTo_20 : decode cX4_leadsTo 20 = .ok (.iload_n 3, 1) := by decide +kernel
theorem dX4_leadsTo_21 : decode cX4_leadsTo 21 = .ok (.iload_n 2, 1) := by decide +kernel
theorem dX4_leadsTo_22 : decode cX4_leadsTo 22 = .ok (.if_icmp .eq 19, 3) := by decide +kernel
theorem dX4_leadsTo_25 : decode cX4_leadsTo 25 = .ok (.aload_n 0, 1) := by decide +kernel
theorem dX4_leadsTo_26 : decode cX4_leadsTo 26 = .ok (.getfield 11, 3) := by decide +kernel
theorem dX4_leadsTo_29 : decode cX4_leadsTo 29 = .ok (.iload_n 3, 1) := by decide +kernel
theorem dX4_leadsTo_30 : decode cX4_leadsTo 30 = .ok (.aaload, 1) := by decide +kernel
theorem dX4_leadsTo_31 : decode cX4_leadsTo 31 = .ok (.getfield 30, 3) := by decide +kernel
theorem dX4_leadsTo_34 : decode cX4_leadsTo 34 = .ok (.istore_n 3, 1) := by decide +kernel
theorem dX4_leadsTo_35 : decode cX4_leadsTo 35 = .ok (.iinc 4 1, 3) := by decide +kernel
theorem dX4_leadsTo_38 : decode cX4_leadsTo 38 = .ok (.goto (-33), 3) := by decide +kernel
theorem dX4_leadsTo_41 : decode cX4_leadsTo 41 = .ok (.iload_n 3, 1) := by decide +kernel
theorem dX4_leadsTo_42 : decode cX4_leadsTo 42 = .ok (.iload_n 2, 1) := by decide +kernel
theorem dX4_leadsTo_43 : decode cX4_leadsTo 43 = .ok (.if_icmp .ne 7, 3) := by decide +kernel
theorem dX4_leadsTo_46 : decode cX4_leadsTo 46 = .ok (.iconst 1, 1) := by decide +kernel
theorem dX4_leadsTo_47 : decode cX4_leadsTo 47 = .ok (.goto 4, 3) := by decide +kernel
theorem dX4_leadsTo_50 : decode cX4_leadsTo 50 = .ok (.iconst 0, 1) := by decide +kernel
theorem dX4_leadsTo_51 : decode cX4_leadsTo 51 = .ok (.ireturn, 1) := by decide +kernel
theorem dX4_peakOf_0 : decode cX4_peakOf 0 = .ok (.iconst 0, 1) := by decide +kernel
theorem dX4_peakOf_1 : decode cX4_peakOf 1 = .ok (.istore_n 2, 1) := by decide +kernel
theorem dX4_peakOf_2 : decode cX4_peakOf 2 = .ok (.iconst 0, 1) := by decide +kernel
theorem dX4_peakOf_3 : decode cX4_peakOf 3 = .ok (.istore_n 3, 1) := by decide +kernel
theorem dX4_peakOf_4 : decode cX4_peakOf 4 = .ok (.iload_n 3, 1) := by decide +kernel
theorem dX4_peakOf_5 : decode cX4_peakOf 5 = .ok (.aload_n 0, 1) := by decide +kernel
theorem dX4_peakOf_6 : decode cX4_peakOf 6 = .ok (.getfield 18, 3) := by decide +kernel
theorem dX4_peakOf_9 : decode cX4_peakOf 9 = .ok (.if_icmp .ge 34, 3) := by decide +kernel
theorem dX4_peakOf_12 : decode cX4_peakOf 12 = .ok (.aload_n 0, 1) := by decide +kernel
theorem dX4_peakOf_13 : decode cX4_peakOf 13 = .ok (.getfield 11, 3) := by decide +kernel
theorem dX4_peakOf_16 : decode cX4_peakOf 16 = .ok (.iload_n 3, 1) := by decide +kernel
theorem dX4_peakOf_17 : decode cX4_peakOf 17 = .ok (.aaload, 1) := by decide +kernel
theorem dX4_peakOf_18 : decode cX4_peakOf 18 = .ok (.getfield 30, 3) := by decide +kernel
theorem dX4_peakOf_21 : decode cX4_peakOf 21 = .ok (.iload_n 1, 1) := by decide +kernel
theorem dX4_peakOf_22 : decode cX4_peakOf 22 = .ok (.if_icmp .ne 15, 3) := by decide +kernel
theorem dX4_peakOf_25 : decode cX4_peakOf 25 = .ok (.iload_n 2, 1) := by decide +kernel
theorem dX4_peakOf_26 : decode cX4_peakOf 26 = .ok (.aload_n 0, 1) := by decide +kernel
theorem dX4_peakOf_27 : decode cX4_peakOf 27 = .ok (.getfield 11, 3) := by decide +kernel
theorem dX4_peakOf_30 : decode cX4_peakOf 30 = .ok (.iload_n 3, 1) := by decide +kernel
theorem dX4_peakOf_31 : decode cX4_peakOf 31 = .ok (.aaload, 1) := by decide +kernel
theorem dX4_peakOf_32 : decode cX4_peakOf 32 = .ok (.getfield 33, 3) := by decide +kernel
theorem dX4_peakOf_35 : decode cX4_peakOf 35 = .ok (.iadd, 1) := by decide +kernel
theorem dX4_peakOf_36 : decode cX4_peakOf 36 = .ok (.istore_n 2, 1) := by decide +kernel
theorem dX4_peakOf_37 : decode cX4_peakOf 37 = .ok (.iinc 3 1, 3) := by decide +kernel
theorem dX4_peakOf_40 : decode cX4_peakOf 40 = .ok (.goto (-36), 3) := by decide +kernel
theorem dX4_peakOf_43 : decode cX4_peakOf 43 = .ok (.iload_n 2, 1) := by decide +kernel
theorem dX4_peakOf_44 : decode cX4_peakOf 44 = .ok (.aload_n 0, 1) := by decide +kernel
theorem dX4_peakOf_45 : decode cX4_peakOf 45 = .ok (.getfield 11, 3) := by decide +kernel
theorem dX4_peakOf_48 : decode cX4_peakOf 48 = .ok (.iload_n 1, 1) := by decide +kernel
theorem dX4_peakOf_49 : decode cX4_peakOf 49 = .ok (.aaload, 1) := by decide +kernel
theorem dX4_peakOf_50 : decode cX4_peakOf 50 = .ok (.getfield 33, 3) := by decide +kernel
theorem dX4_peakOf_53 : decode cX4_peakOf 53 = .ok (.invokestatic 36, 3) := by decide +kernel
theorem dX4_peakOf_56 : decode cX4_peakOf 56 = .ok (.ireturn, 1) := by decide +kernel
theorem dX5_init_0 : decode cX5_init 0 = .ok (.aload_n 0, 1) := by decide +kernel
theorem dX5_init_1 : decode cX5_init 1 = .ok (.invokespecial 3, 3) := by decide +kernel
theorem dX5_init_4 : decode cX5_init 4 = .ok (.aload_n 0, 1) := by decide +kernel
theorem dX5_init_5 : decode cX5_init 5 = .ok (.new 9, 3) := by decide +kernel
theorem dX5_init_8 : decode cX5_init 8 = .ok (.dup, 1) := by decide +kernel
theorem dX5_init_9 : decode cX5_init 9 = .ok (.invokespecial 11, 3) := by decide +kernel
theorem dX5_init_12 : decode cX5_init 12 = .ok (.putfield 12, 3) := by decide +kernel
theorem dX5_init_15 : decode cX5_init 15 = .ok (.return_, 1) := by decide +kernel
theorem dX5_lay_0 : decode cX5_lay 0 = .ok (.aload_n 0, 1) := by decide +kernel
theorem dX5_lay_1 : decode cX5_lay 1 = .ok (.getfield 12, 3) := by decide +kernel
theorem dX5_lay_4 : decode cX5_lay 4 = .ok (.aload_n 1, 1) := by decide +kernel
theorem dX5_lay_5 : decode cX5_lay 5 = .ok (.invokevirtual 18, 3) := by decide +kernel
theorem dX5_lay_8 : decode cX5_lay 8 = .ok (.aload_n 0, 1) := by decide +kernel
theorem dX5_lay_9 : decode cX5_lay 9 = .ok (.iload_n 2, 1) := by decide +kernel
theorem dX5_lay_10 : decode cX5_lay 10 = .ok (.putfield 22, 3) := by decide +kernel
theorem dX5_lay_13 : decode cX5_lay 13 = .ok (.aload_n 0, 1) := by decide +kernel
theorem dX5_lay_14 : decode cX5_lay 14 = .ok (.iload_n 3, 1) := by decide +kernel
theorem dX5_lay_15 : decode cX5_lay 15 = .ok (.putfield 26, 3) := by decide +kernel
theorem dX5_lay_18 : decode cX5_lay 18 = .ok (.aload_n 0, 1) := by decide +kernel
theorem dX5_lay_19 : decode cX5_lay 19 = .ok (.aload_n 0, 1) := by decide +kernel
theorem dX5_lay_20 : decode cX5_lay 20 = .ok (.getfield 26, 3) := by decide +kernel
theorem dX5_lay_23 : decode cX5_lay 23 = .ok (.aload_n 0, 1) := by decide +kernel
theorem dX5_lay_24 : decode cX5_lay 24 = .ok (.getfield 26, 3) := by decide +kernel
theorem dX5_lay_27 : decode cX5_lay 27 = .ok (.imul, 1) := by decide +kernel
theorem dX5_lay_28 : decode cX5_lay 28 = .ok (.aload_n 0, 1) := by decide +kernel
theorem dX5_lay_29 : decode cX5_lay 29 = .ok (.getfield 12, 3) := by decide +kernel
theorem dX5_lay_32 : decode cX5_lay 32 = .ok (.getfield 29, 3) := by decide +kernel
theorem dX5_lay_35 : decode cX5_lay 35 = .ok (.iconst 5, 1) := by decide +kernel
theorem dX5_lay_36 : decode cX5_lay 36 = .ok (.iadd, 1) := by decide +kernel
theorem dX5_lay_37 : decode cX5_lay 37 = .ok (.imul, 1) := by decide +kernel
theorem dX5_lay_38 : decode cX5_lay 38 = .ok (.putfield 32, 3) := by decide +kernel
theorem dX5_lay_41 : decode cX5_lay 41 = .ok (.aload_n 0, 1) := by decide +kernel
theorem dX5_lay_42 : decode cX5_lay 42 = .ok (.bipush 40, 2) := by decide +kernel
theorem dX5_lay_44 : decode cX5_lay 44 = .ok (.aload_n 0, 1) := by decide +kernel
theorem dX5_lay_45 : decode cX5_lay 45 = .ok (.getfield 26, 3) := by decide +kernel
theorem dX5_lay_48 : decode cX5_lay 48 = .ok (.imul, 1) := by decide +kernel
theorem dX5_lay_49 : decode cX5_lay 49 = .ok (.aload_n 0, 1) := by decide +kernel
theorem dX5_lay_50 : decode cX5_lay 50 = .ok (.getfield 12, 3) := by decide +kernel
theorem dX5_lay_53 : decode cX5_lay 53 = .ok (.getfield 35, 3) := by decide +kernel
theorem dX5_lay_56 : decode cX5_lay 56 = .ok (.imul, 1) := by decide +kernel
theorem dX5_lay_57 : decode cX5_lay 57 = .ok (.putfield 38, 3) := by decide +kernel
theorem dX5_lay_60 : decode cX5_lay 60 = .ok (.aload_n 0, 1) := by decide +kernel
theorem dX5_lay_61 : decode cX5_lay 61 = .ok (.iconst (-1), 1) := by decide +kernel
theorem dX5_lay_62 : decode cX5_lay 62 = .ok (.putfield 41, 3) := by decide +kernel
theorem dX5_lay_65 : decode cX5_lay 65 = .ok (.return_, 1) := by decide +kernel
theorem dX5_copyFrom_0 : decode cX5_copyFrom 0 = .ok (.aload_n 0, 1) := by decide +kernel
theorem dX5_copyFrom_1 : decode cX5_copyFrom 1 = .ok (.getfield 12, 3) := by decide +kernel
theorem dX5_copyFrom_4 : decode cX5_copyFrom 4 = .ok (.aload_n 1, 1) := by decide +kernel
theorem dX5_copyFrom_5 : decode cX5_copyFrom 5 = .ok (.getfield 12, 3) := by decide +kernel
theorem dX5_copyFrom_8 : decode cX5_copyFrom 8 = .ok (.invokevirtual 18, 3) := by decide +kernel
theorem dX5_copyFrom_11 : decode cX5_copyFrom 11 = .ok (.aload_n 0, 1) := by decide +kernel
theorem dX5_copyFrom_12 : decode cX5_copyFrom 12 = .ok (.aload_n 1, 1) := by decide +kernel
theorem dX5_copyFrom_13 : decode cX5_copyFrom 13 = .ok (.getfield 22, 3) := by decide +kernel
theorem dX5_copyFrom_16 : decode cX5_copyFrom 16 = .ok (.putfield 22, 3) := by decide +kernel
theorem dX5_copyFrom_19 : decode cX5_copyFrom 19 = .ok (.aload_n 0, 1) := by decide +kernel
theorem dX5_copyFrom_20 : decode cX5_copyFrom 20 = .ok (.aload_n 1, 1) := by decide +kernel
theorem dX5_copyFrom_21 : decode cX5_copyFrom 21 = .ok (.getfield 26, 3) := by decide +kernel
theorem dX5_copyFrom_24 : decode cX5_copyFrom 24 = .ok (.putfield 26, 3) := by decide +kernel
theorem dX5_copyFrom_27 : decode cX5_copyFrom 27 = .ok (.aload_n 0, 1) := by decide +kernel
theorem dX5_copyFrom_28 : decode cX5_copyFrom 28 = .ok (.aload_n 1, 1) := by decide +kernel
theorem dX5_copyFrom_29 : decode cX5_copyFrom 29 = .ok (.getfield 32, 3) := by decide +kernel
theorem dX5_copyFrom_32 : decode cX5_copyFrom 32 = .ok (.putfield 32, 3) := by decide +kernel
theorem dX5_copyFrom_35 : decode cX5_copyFrom 35 = .ok (.aload_n 0, 1) := by decide +kernel
theorem dX5_copyFrom_36 : decode cX5_copyFrom 36 = .ok (.aload_n 1, 1) := by decide +kernel
theorem dX5_copyFrom_37 : decode cX5_copyFrom 37 = .ok (.getfield 38, 3) := by decide +kernel
theorem dX5_copyFrom_40 : decode cX5_copyFrom 40 = .ok (.putfield 38, 3) := by decide +kernel
theorem dX5_copyFrom_43 : decode cX5_copyFrom 43 = .ok (.aload_n 0, 1) := by decide +kernel
theorem dX5_copyFrom_44 : decode cX5_copyFrom 44 = .ok (.aload_n 1, 1) := by decide +kernel
theorem dX5_copyFrom_45 : decode cX5_copyFrom 45 = .ok (.getfield 41, 3) := by decide +kernel
theorem dX5_copyFrom_48 : decode cX5_copyFrom 48 = .ok (.putfield 41, 3) := by decide +kernel
theorem dX5_copyFrom_51 : decode cX5_copyFrom 51 = .ok (.return_, 1) := by decide +kernel
theorem dX5_isLateral_0 : decode cX5_isLateral 0 = .ok (.aload_n 0, 1) := by decide +kernel
theorem dX5_isLateral_1 : decode cX5_isLateral 1 = .ok (.getfield 22, 3) := by decide +kernel
theorem dX5_isLateral_4 : decode cX5_isLateral 4 = .ok (.ifCond .eq 11, 3) := by decide +kernel
theorem dX5_isLateral_7 : decode cX5_isLateral 7 = .ok (.aload_n 0, 1) := by decide +kernel
theorem dX5_isLateral_8 : decode cX5_isLateral 8 = .ok (.getfield 22, 3) := by decide +kernel
theorem dX5_isLateral_11 : decode cX5_isLateral 11 = .ok (.iconst 2, 1) := by decide +kernel
theorem dX5_isLateral_12 : decode cX5_isLateral 12 = .ok (.if_icmp .ne 7, 3) := by decide +kernel
theorem dX5_isLateral_15 : decode cX5_isLateral 15 = .ok (.iconst 1, 1) := by decide +kernel
theorem dX5_isLateral_16 : decode cX5_isLateral 16 = .ok (.goto 4, 3) := by decide +kernel
theorem dX5_isLateral_19 : decode cX5_isLateral 19 = .ok (.iconst 0, 1) := by decide +kernel
theorem dX5_isLateral_20 : decode cX5_isLateral 20 = .ok (.ireturn, 1) := by decide +kernel
theorem dX5_isMain_0 : decode cX5_isMain 0 = .ok (.aload_n 0, 1) := by decide +kernel
theorem dX5_isMain_1 : decode cX5_isMain 1 = .ok (.getfield 22, 3) := by decide +kernel
theorem dX5_isMain_4 : decode cX5_isMain 4 = .ok (.iconst 1, 1) := by decide +kernel
theorem dX5_isMain_5 : decode cX5_isMain 5 = .ok (.if_icmp .eq 11, 3) := by decide +kernel
theorem dX5_isMain_8 : decode cX5_isMain 8 = .ok (.aload_n 0, 1) := by decide +kernel
theorem dX5_isMain_9 : decode cX5_isMain 9 = .ok (.getfield 22, 3) := by decide +kernel
theorem dX5_isMain_12 : decode cX5_isMain 12 = .ok (.iconst 3, 1) := by decide +kernel
theorem dX5_isMain_13 : decode cX5_isMain 13 = .ok (.if_icmp .ne 7, 3) := by decide +kernel
theorem dX5_isMain_16 : decode cX5_isMain 16 = .ok (.iconst 1, 1) := by decide +kernel
theorem dX5_isMain_17 : decode cX5_isMain 17 = .ok (.goto 4, 3) := by decide +kernel
theorem dX5_isMain_20 : decode cX5_isMain 20 = .ok (.iconst 0, 1) := by decide +kernel
theorem dX5_isMain_21 : decode cX5_isMain 21 = .ok (.ireturn, 1) := by decide +kernel
theorem dX6_init_0 : decode cX6_init 0 = .ok (.aload_n 0, 1) := by decide +kernel
theorem dX6_init_1 : decode cX6_init 1 = .ok (.invokespecial 3, 3) := by decide +kernel
theorem dX6_init_4 : decode cX6_init 4 = .ok (.aload_n 0, 1) := by decide +kernel
theorem dX6_init_5 : decode cX6_init 5 = .ok (.new 9, 3) := by decide +kernel
theorem dX6_init_8 : decode cX6_init 8 = .ok (.dup, 1) := by decide +kernel
theorem dX6_init_9 : decode cX6_init 9 = .ok (.invokespecial 11, 3) := by decide +kernel
theorem dX6_init_12 : decode cX6_init 12 = .ok (.putfield 12, 3) := by decide +kernel
theorem dX6_init_15 : decode cX6_init 15 = .ok (.aload_n 0, 1) := by decide +kernel
theorem dX6_init_16 : decode cX6_init 16 = .ok (.new 18, 3) := by decide +kernel
theorem dX6_init_19 : decode cX6_init 19 = .ok (.dup, 1) := by decide +kernel
theorem dX6_init_20 : decode cX6_init 20 = .ok (.invokespecial 20, 3) := by decide +kernel
theorem dX6_init_23 : decode cX6_init 23 = .ok (.putfield 21, 3) := by decide +kernel
theorem dX6_init_26 : decode cX6_init 26 = .ok (.aload_n 0, 1) := by decide +kernel
theorem dX6_init_27 : decode cX6_init 27 = .ok (.new 25, 3) := by decide +kernel
theorem dX6_init_30 : decode cX6_init 30 = .ok (.dup, 1) := by decide +kernel
theorem dX6_init_31 : decode cX6_init 31 = .ok (.invokespecial 27, 3) := by decide +kernel
theorem dX6_init_34 : decode cX6_init 34 = .ok (.putfield 28, 3) := by decide +kernel
theorem dX6_init_37 : decode cX6_init 37 = .ok (.aload_n 0, 1) := by decide +kernel
theorem dX6_init_38 : decode cX6_init 38 = .ok (.new 32, 3) := by decide +kernel
theorem dX6_init_41 : decode cX6_init 41 = .ok (.dup, 1) := by decide +kernel
theorem dX6_init_42 : decode cX6_init 42 = .ok (.invokespecial 34, 3) := by decide +kernel
theorem dX6_init_45 : decode cX6_init 45 = .ok (.putfield 35, 3) := by decide +kernel
theorem dX6_init_48 : decode cX6_init 48 = .ok (.aload_n 0, 1) := by decide +kernel
theorem dX6_init_49 : decode cX6_init 49 = .ok (.bipush 36, 2) := by decide +kernel
theorem dX6_init_51 : decode cX6_init 51 = .ok (.newarray .int, 2) := by decide +kernel
theorem dX6_init_53 : decode cX6_init 53 = .ok (.putfield 39, 3) := by decide +kernel
theorem dX6_init_56 : decode cX6_init 56 = .ok (.aload_n 0, 1) := by decide +kernel
theorem dX6_init_57 : decode cX6_init 57 = .ok (.new 43, 3) := by decide +kernel
theorem dX6_init_60 : decode cX6_init 60 = .ok (.dup, 1) := by decide +kernel
theorem dX6_init_61 : decode cX6_init 61 = .ok (.invokespecial 45, 3) := by decide +kernel
theorem dX6_init_64 : decode cX6_init 64 = .ok (.putfield 46, 3) := by decide +kernel
theorem dX6_init_67 : decode cX6_init 67 = .ok (.aload_n 0, 1) := by decide +kernel
theorem dX6_init_68 : decode cX6_init 68 = .ok (.new 43, 3) := by decide +kernel
theorem dX6_init_71 : decode cX6_init 71 = .ok (.dup, 1) := by decide +kernel
theorem dX6_init_72 : decode cX6_init 72 = .ok (.invokespecial 45, 3) := by decide +kernel
theorem dX6_init_75 : decode cX6_init 75 = .ok (.putfield 50, 3) := by decide +kernel
theorem dX6_init_78 : decode cX6_init 78 = .ok (.return_, 1) := by decide +kernel
theorem dX6_copyFrom_0 : decode cX6_copyFrom 0 = .ok (.aload_n 0, 1) := by decide +kernel
theorem dX6_copyFrom_1 : decode cX6_copyFrom 1 = .ok (.getfield 12, 3) := by decide +kernel
theorem dX6_copyFrom_4 : decode cX6_copyFrom 4 = .ok (.aload_n 1, 1) := by decide +kernel
theorem dX6_copyFrom_5 : decode cX6_copyFrom 5 = .ok (.getfield 12, 3) := by decide +kernel
theorem dX6_copyFrom_8 : decode cX6_copyFrom 8 = .ok (.invokevirtual 53, 3) := by decide +kernel
theorem dX6_copyFrom_11 : decode cX6_copyFrom 11 = .ok (.aload_n 0, 1) := by decide +kernel
theorem dX6_copyFrom_12 : decode cX6_copyFrom 12 = .ok (.getfield 21, 3) := by decide +kernel
theorem dX6_copyFrom_15 : decode cX6_copyFrom 15 = .ok (.aload_n 1, 1) := by decide +kernel
theorem dX6_copyFrom_16 : decode cX6_copyFrom 16 = .ok (.getfield 21, 3) := by decide +kernel
theorem dX6_copyFrom_19 : decode cX6_copyFrom 19 = .ok (.invokevirtual 57, 3) := by decide +kernel
theorem dX6_copyFrom_22 : decode cX6_copyFrom 22 = .ok (.aload_n 0, 1) := by decide +kernel
theorem dX6_copyFrom_23 : decode cX6_copyFrom 23 = .ok (.getfield 28, 3) := by decide +kernel
theorem dX6_copyFrom_26 : decode cX6_copyFrom 26 = .ok (.aload_n 1, 1) := by decide +kernel
theorem dX6_copyFrom_27 : decode cX6_copyFrom 27 = .ok (.getfield 28, 3) := by decide +kernel
theorem dX6_copyFrom_30 : decode cX6_copyFrom 30 = .ok (.invokevirtual 60, 3) := by decide +kernel
theorem dX6_copyFrom_33 : decode cX6_copyFrom 33 = .ok (.aload_n 0, 1) := by decide +kernel
theorem dX6_copyFrom_34 : decode cX6_copyFrom 34 = .ok (.getfield 35, 3) := by decide +kernel
theorem dX6_copyFrom_37 : decode cX6_copyFrom 37 = .ok (.aload_n 1, 1) := by decide +kernel
theorem dX6_copyFrom_38 : decode cX6_copyFrom 38 = .ok (.getfield 35, 3) := by decide +kernel
theorem dX6_copyFrom_41 : decode cX6_copyFrom 41 = .ok (.invokevirtual 63, 3) := by decide +kernel
theorem dX6_copyFrom_44 : decode cX6_copyFrom 44 = .ok (.aload_n 1, 1) := by decide +kernel
theorem dX6_copyFrom_45 : decode cX6_copyFrom 45 = .ok (.getfield 39, 3) := by decide +kernel
theorem dX6_copyFrom_48 : decode cX6_copyFrom 48 = .ok (.aload_n 0, 1) := by decide +kernel
theorem dX6_copyFrom_49 : decode cX6_copyFrom 49 = .ok (.getfield 39, 3) := by decide +kernel
theorem dX6_copyFrom_52 : decode cX6_copyFrom 52 = .ok (.invokestatic 66, 3) := by decide +kernel
theorem dX6_copyFrom_55 : decode cX6_copyFrom 55 = .ok (.aload_n 0, 1) := by decide +kernel
theorem dX6_copyFrom_56 : decode cX6_copyFrom 56 = .ok (.getfield 46, 3) := by decide +kernel
theorem dX6_copyFrom_59 : decode cX6_copyFrom 59 = .ok (.aload_n 1, 1) := by decide +kernel
theorem dX6_copyFrom_60 : decode cX6_copyFrom 60 = .ok (.getfield 46, 3) := by decide +kernel
theorem dX6_copyFrom_63 : decode cX6_copyFrom 63 = .ok (.invokevirtual 70, 3) := by decide +kernel
theorem dX6_copyFrom_66 : decode cX6_copyFrom 66 = .ok (.aload_n 0, 1) := by decide +kernel
theorem dX6_copyFrom_67 : decode cX6_copyFrom 67 = .ok (.getfield 50, 3) := by decide +kernel
theorem dX6_copyFrom_70 : decode cX6_copyFrom 70 = .ok (.aload_n 1, 1) := by decide +kernel
theorem dX6_copyFrom_71 : decode cX6_copyFrom 71 = .ok (.getfield 50, 3) := by decide +kernel
theorem dX6_copyFrom_74 : decode cX6_copyFrom 74 = .ok (.invokevirtual 70, 3) := by decide +kernel
theorem dX6_copyFrom_77 : decode cX6_copyFrom 77 = .ok (.return_, 1) := by decide +kernel
theorem dX6_isReached_0 : decode cX6_isReached 0 = .ok (.iconst 0, 1) := by decide +kernel
theorem dX6_isReached_1 : decode cX6_isReached 1 = .ok (.istore_n 2, 1) := by decide +kernel
theorem dX6_isReached_2 : decode cX6_isReached 2 = .ok (.iload_n 2, 1) := by decide +kernel
theorem dX6_isReached_3 : decode cX6_isReached 3 = .ok (.aload_n 0, 1) := by decide +kernel
theorem dX6_isReached_4 : decode cX6_isReached 4 = .ok (.getfield 28, 3) := by decide +kernel
theorem dX6_isReached_7 : decode cX6_isReached 7 = .ok (.getfield 73, 3) := by decide +kernel
theorem dX6_isReached_10 : decode cX6_isReached 10 = .ok (.if_icmp .ge 49, 3) := by decide +kernel
theorem dX6_isReached_13 : decode cX6_isReached 13 = .ok (.aload_n 0, 1) := by decide +kernel
theorem dX6_isReached_14 : decode cX6_isReached 14 = .ok (.getfield 28, 3) := by decide +kernel
theorem dX6_isReached_17 : decode cX6_isReached 17 = .ok (.getfield 77, 3) := by decide +kernel
theorem dX6_isReached_20 : decode cX6_isReached 20 = .ok (.iload_n 2, 1) := by decide +kernel
theorem dX6_isReached_21 : decode cX6_isReached 21 = .ok (.aaload, 1) := by decide +kernel
theorem dX6_isReached_22 : decode cX6_isReached 22 = .ok (.invokevirtual 81, 3) := by decide +kernel
theorem dX6_isReached_25 : decode cX6_isReached 25 = .ok (.ifCond .eq 28, 3) := by decide +kernel
theorem dX6_isReached_28 : decode cX6_isReached 28 = .ok (.aload_n 0, 1) := by decide +kernel
theorem dX6_isReached_29 : decode cX6_isReached 29 = .ok (.getfield 12, 3) := by decide +kernel
theorem dX6_isReached_32 : decode cX6_isReached 32 = .ok (.iload_n 1, 1) := by decide +kernel
theorem dX6_isReached_33 : decode cX6_isReached 33 = .ok (.aload_n 0, 1) := by decide +kernel
theorem dX6_isReached_34 : decode cX6_isReached 34 = .ok (.getfield 28, 3) := by decide +kernel
theorem dX6_isReached_37 : decode cX6_isReached 37 = .ok (.getfield 77, 3) := by decide +kernel
theorem dX6_isReached_40 : decode cX6_isReached 40 = .ok (.iload_n 2, 1) := by decide +kernel
theorem dX6_isReached_41 : decode cX6_isReached 41 = .ok (.aaload, 1) := by decide +kernel
theorem dX6_isReached_42 : decode cX6_isReached 42 = .ok (.getfield 87, 3) := by decide +kernel
theorem dX6_isReached_45 : decode cX6_isReached 45 = .ok (.invokevirtual 90, 3) := by decide +kernel
theorem dX6_isReached_48 : decode cX6_isReached 48 = .ok (.ifCond .eq 5, 3) := by decide +kernel
theorem dX6_isReached_51 : decode cX6_isReached 51 = .ok (.iconst 1, 1) := by decide +kernel
theorem dX6_isReached_52 : decode cX6_isReached 52 = .ok (.ireturn, 1) := by decide +kernel
theorem dX6_isReached_53 : decode cX6_isReached 53 = .ok (.iinc 2 1, 3) := by decide +kernel
theorem dX6_isReached_56 : decode cX6_isReached 56 = .ok (.goto (-54), 3) := by decide +kernel
theorem dX6_isReached_59 : decode cX6_isReached 59 = .ok (.iconst 0, 1) := by decide +kernel
theorem dX6_isReached_60 : decode cX6_isReached 60 = .ok (.ireturn, 1) := by decide +kernel
theorem dX6_countUnreached_0 : decode cX6_countUnreached 0 = .ok (.iconst 0, 1) := by decide +kernel
theorem dX6_countUnreached_1 : decode cX6_countUnreached 1 = .ok (.istore_n 1, 1) := by decide +kernel
theorem dX6_countUnreached_2 : decode cX6_countUnreached 2 = .ok (.iconst 0, 1) := by decide +kernel
theorem dX6_countUnreached_3 : decode cX6_countUnreached 3 = .ok (.istore_n 2, 1) := by decide +kernel
theorem dX6_countUnreached_4 : decode cX6_countUnreached 4 = .ok (.iload_n 2, 1) := by decide +kernel
theorem dX6_countUnreached_5 : decode cX6_countUnreached 5 = .ok (.aload_n 0, 1) := by decide +kernel
theorem dX6_countUnreached_6 : decode cX6_countUnreached 6 = .ok (.getfield 12, 3) := by decide +kernel
theorem dX6_countUnreached_9 : decode cX6_countUnreached 9 = .ok (.getfield 94, 3) := by decide +kernel
theorem dX6_countUnreached_12 : decode cX6_countUnreached 12 = .ok (.if_icmp .ge 20, 3) := by decide +kernel
theorem dX6_countUnreached_15 : decode cX6_countUnreached 15 = .ok (.aload_n 0, 1) := by decide +kernel
theorem dX6_countUnreached_16 : decode cX6_countUnreached 16 = .ok (.iload_n 2, 1) := by decide +kernel
theorem dX6_countUnreached_17 : decode cX6_countUnreached 17 = .ok (.invokevirtual 97, 3) := by decide +kernel
theorem dX6_countUnreached_20 : decode cX6_countUnreached 20 = .ok (.ifCond .ne 6, 3) := by decide +kernel
theorem dX6_countUnreached_23 : decode cX6_countUnreached 23 = .ok (.iinc 1 1, 3) := by decide +kernel
theorem dX6_countUnreached_26 : decode cX6_countUnreached 26 = .ok (.iinc 2 1, 3) := by decide +kernel
theorem dX6_countUnreached_29 : decode cX6_countUnreached 29 = .ok (.goto (-25), 3) := by decide +kernel
theorem dX6_countUnreached_32 : decode cX6_countUnreached 32 = .ok (.iload_n 1, 1) := by decide +kernel
theorem dX6_countUnreached_33 : decode cX6_countUnreached 33 = .ok (.ireturn, 1) := by decide +kernel
theorem dX7_init_0 : decode cX7_init 0 = .ok (.aload_n 0, 1) := by decide +kernel
theorem dX7_init_1 : decode cX7_init 1 = .ok (.invokespecial 3, 3) := by decide +kernel
theorem dX7_init_4 : decode cX7_init 4 = .ok (.aload_n 0, 1) := by decide +kernel
theorem dX7_init_5 : decode cX7_init 5 = .ok (.bipush 36, 2) := by decide +kernel
theorem dX7_init_7 : decode cX7_init 7 = .ok (.newarray .int, 2) := by decide +kernel
theorem dX7_init_9 : decode cX7_init 9 = .ok (.putfield 9, 3) := by decide +kernel
theorem dX7_init_12 : decode cX7_init 12 = .ok (.aload_n 0, 1) := by decide +kernel
theorem dX7_init_13 : decode cX7_init 13 = .ok (.bipush 36, 2) := by decide +kernel
theorem dX7_init_15 : decode cX7_init 15 = .ok (.newarray .int, 2) := by decide +kernel
theorem dX7_init_17 : decode cX7_init 17 = .ok (.putfield 15, 3) := by decide +kernel
theorem dX7_init_20 : decode cX7_init 20 = .ok (.return_, 1) := by decide +kernel
theorem dX7_grow_0 : decode cX7_grow 0 = .ok (.iconst 0, 1) := by decide +kernel
theorem dX7_grow_1 : decode cX7_grow 1 = .ok (.istore_n 3, 1) := by decide +kernel
theorem dX7_grow_2 : decode cX7_grow 2 = .ok (.iload_n 3, 1) := by decide +kernel
theorem dX7_grow_3 : decode cX7_grow 3 = .ok (.bipush 36, 2) := by decide +kernel
theorem dX7_grow_5 : decode cX7_grow 5 = .ok (.if_icmp .ge 16, 3) := by decide +kernel
theorem dX7_grow_8 : decode cX7_grow 8 = .ok (.aload_n 0, 1) := by decide +kernel
theorem dX7_grow_9 : decode cX7_grow 9 = .ok (.getfield 9, 3) := by decide +kernel
theorem dX7_grow_12 : decode cX7_grow 12 = .ok (.iload_n 3, 1) := by decide +kernel
theorem dX7_grow_13 : decode cX7_grow 13 = .ok (.iload_n 3, 1) := by decide +kernel
theorem dX7_grow_14 : decode cX7_grow 14 = .ok (.iastore, 1) := by decide +kernel
theorem dX7_grow_15 : decode cX7_grow 15 = .ok (.iinc 3 1, 3) := by decide +kernel
theorem dX7_grow_18 : decode cX7_grow 18 = .ok (.goto (-16), 3) := by decide +kernel
theorem dX7_grow_21 : decode cX7_grow 21 = .ok (.aload_n 0, 1) := by decide +kernel
theorem dX7_grow_22 : decode cX7_grow 22 = .ok (.iconst 0, 1) := by decide +kernel
theorem dX7_grow_23 : decode cX7_grow 23 = .ok (.putfield 18, 3) := by decide +kernel
theorem dX7_grow_26 : decode cX7_grow 26 = .ok (.aload_n 0, 1) := by decide +kernel
theorem dX7_grow_27 : decode cX7_grow 27 = .ok (.iconst 0, 1) := by decide +kernel
theorem dX7_grow_28 : decode cX7_grow 28 = .ok (.putfield 22, 3) := by decide +kernel
theorem dX7_grow_31 : decode cX7_grow 31 = .ok (.aload_n 0, 1) := by decide +kernel
theorem dX7_grow_32 : decode cX7_grow 32 = .ok (.getfield 18, 3) := by decide +kernel
theorem dX7_grow_35 : decode cX7_grow 35 = .ok (.bipush 36, 2) := by decide +kernel
theorem dX7_grow_37 : decode cX7_grow 37 = .ok (.if_icmp .ge 55, 3) := by decide +kernel
theorem dX7_grow_40 : decode cX7_grow 40 = .ok (.aload_n 0, 1) := by decide +kernel
theorem dX7_grow_41 : decode cX7_grow 41 = .ok (.aload_n 1, 1) := by decide +kernel
theorem dX7_grow_42 : decode cX7_grow 42 = .ok (.aload_n 2, 1) := by decide +kernel
theorem dX7_grow_43 : decode cX7_grow 43 = .ok (.invokevirtual 25, 3) := by decide +kernel
theorem dX7_grow_46 : decode cX7_grow 46 = .ok (.ifCond .eq 46, 3) := by decide +kernel
theorem dX7_grow_49 : decode cX7_grow 49 = .ok (.aload_n 0, 1) := by decide +kernel
theorem dX7_grow_50 : decode cX7_grow 50 = .ok (.getfield 15, 3) := by decide +kernel
theorem dX7_grow_53 : decode cX7_grow 53 = .ok (.aload_n 0, 1) := by decide +kernel
theorem dX7_grow_54 : decode cX7_grow 54 = .ok (.getfield 18, 3) := by decide +kernel
theorem dX7_grow_57 : decode cX7_grow 57 = .ok (.aload_n 0, 1) := by decide +kernel
theorem dX7_grow_58 : decode cX7_grow 58 = .ok (.getfield 29, 3) := by decide +kernel
theorem dX7_grow_61 : decode cX7_grow 61 = .ok (.iastore, 1) := by decide +kernel
theorem dX7_grow_62 : decode cX7_grow 62 = .ok (.aload_n 0, 1) := by decide +kernel
theorem dX7_grow_63 : decode cX7_grow 63 = .ok (.dup, 1) := by decide +kernel
theorem dX7_grow_64 : decode cX7_grow 64 = .ok (.getfield 18, 3) := by decide +kernel
theorem dX7_grow_67 : decode cX7_grow 67 = .ok (.iconst 1, 1) := by decide +kernel
theorem dX7_grow_68 : decode cX7_grow 68 = .ok (.iadd, 1) := by decide +kernel
theorem dX7_grow_69 : decode cX7_grow 69 = .ok (.putfield 18, 3) := by decide +kernel
theorem dX7_grow_72 : decode cX7_grow 72 = .ok (.aload_n 0, 1) := by decide +kernel
theorem dX7_grow_73 : decode cX7_grow 73 = .ok (.dup, 1) := by decide +kernel
theorem dX7_grow_74 : decode cX7_grow 74 = .ok (.getfield 22, 3) := by decide +kernel
theorem dX7_grow_77 : decode cX7_grow 77 = .ok (.aload_n 0, 1) := by decide +kernel
theorem dX7_grow_78 : decode cX7_grow 78 = .ok (.getfield 32, 3) := by decide +kernel
theorem dX7_grow_81 : decode cX7_grow 81 = .ok (.iadd, 1) := by decide +kernel
theorem dX7_grow_82 : decode cX7_grow 82 = .ok (.putfield 22, 3) := by decide +kernel
theorem dX7_grow_85 : decode cX7_grow 85 = .ok (.aload_n 0, 1) := by decide +kernel
theorem dX7_grow_86 : decode cX7_grow 86 = .ok (.invokevirtual 35, 3) := by decide +kernel
theorem dX7_grow_89 : decode cX7_grow 89 = .ok (.goto (-58), 3) := by decide +kernel
theorem dX7_grow_92 : decode cX7_grow 92 = .ok (.return_, 1) := by decide +kernel
theorem dX7_findLeast_0 : decode cX7_findLeast 0 = .ok (.aload_n 0, 1) := by decide +kernel
theorem dX7_findLeast_1 : decode cX7_findLeast 1 = .ok (.ldc 40, 2) := by decide +kernel
theorem dX7_findLeast_3 : decode cX7_findLeast 3 = .ok (.putfield 32, 3) := by decide +kernel
theorem dX7_findLeast_6 : decode cX7_findLeast 6 = .ok (.iconst 0, 1) := by decide +kernel
theorem dX7_findLeast_7 : decode cX7_findLeast 7 = .ok (.istore_n 3, 1) := by decide +kernel
theorem dX7_findLeast_8 : decode cX7_findLeast 8 = .ok (.iload_n 3, 1) := by decide +kernel
theorem dX7_findLeast_9 : decode cX7_findLeast 9 = .ok (.aload_n 1, 1) := by decide +kernel
theorem dX7_findLeast_10 : decode cX7_findLeast 10 = .ok (.getfield 41, 3) := by decide +kernel
theorem dX7_findLeast_13 : decode cX7_findLeast 13 = .ok (.if_icmp .ge 76, 3) := by decide +kernel
theorem dX7_findLeast_16 : decode cX7_findLeast 16 = .ok (.iload_n 3, 1) := by decide +kernel
theorem dX7_findLeast_17 : decode cX7_findLeast 17 = .ok (.iconst 1, 1) := by decide +kernel
theorem dX7_findLeast_18 : decode cX7_findLeast 18 = .ok (.iadd, 1) := by decide +kernel
theorem dX7_findLeast_19 : decode cX7_findLeast 19 = .ok (.istore 4, 2) := by decide +kernel
theorem dX7_findLeast_21 : decode cX7_findLeast 21 = .ok (.iload 4, 2) := by decide +kernel
theorem dX7_findLeast_23 : decode cX7_findLeast 23 = .ok (.aload_n 1, 1) := by decide +kernel
theorem dX7_findLeast_24 : decode cX7_findLeast 24 = .ok (.getfield 41, 3) := by decide +kernel
theorem dX7_findLeast_27 : decode cX7_findLeast 27 = .ok (.if_icmp .ge 56, 3) := by decide +kernel
theorem dX7_findLeast_30 : decode cX7_findLeast 30 = .ok (.aload_n 2, 1) := by decide +kernel
theorem dX7_findLeast_31 : decode cX7_findLeast 31 = .ok (.iload_n 3, 1) := by decide +kernel
theorem dX7_findLeast_32 : decode cX7_findLeast 32 = .ok (.invokevirtual 46, 3) := by decide +kernel
theorem dX7_findLeast_35 : decode cX7_findLeast 35 = .ok (.ifCond .eq 42, 3) := by decide +kernel
theorem dX7_findLeast_38 : decode cX7_findLeast 38 = .ok (.aload_n 2, 1) := by decide +kernel
theorem dX7_findLeast_39 : decode cX7_findLeast 39 = .ok (.iload 4, 2) := by decide +kernel
theorem dX7_findLeast_41 : decode cX7_findLeast 41 = .ok (.invokevirtual 46, 3) := by decide +kernel
theorem dX7_findLeast_44 : decode cX7_findLeast 44 = .ok (.ifCond .eq 33, 3) := by decide +kernel
theorem dX7_findLeast_47 : decode cX7_findLeast 47 = .ok (.aload_n 0, 1) := by decide +kernel
theorem dX7_findLeast_48 : decode cX7_findLeast 48 = .ok (.getfield 9, 3) := by decide +kernel
theorem dX7_findLeast_51 : decode cX7_findLeast 51 = .ok (.iload_n 3, 1) := by decide +kernel
theorem dX7_findLeast_52 : decode cX7_findLeast 52 = .ok (.iaload, 1) := by decide +kernel
theorem dX7_findLeast_53 : decode cX7_findLeast 53 = .ok (.aload_n 0, 1) := by decide +kernel
theorem dX7_findLeast_54 : decode cX7_findLeast 54 = .ok (.getfield 9, 3) := by decide +kernel
theorem dX7_findLeast_57 : decode cX7_findLeast 57 = .ok (.iload 4, 2) := by decide +kernel
theorem dX7_findLeast_59 : decode cX7_findLeast 59 = .ok (.iaload, 1) := by decide +kernel
theorem dX7_findLeast_60 : decode cX7_findLeast 60 = .ok (.if_icmp .eq 17, 3) := by decide +kernel
theorem dX7_findLeast_63 : decode cX7_findLeast 63 = .ok (.aload_n 0, 1) := by decide +kernel
theorem dX7_findLeast_64 : decode cX7_findLeast 64 = .ok (.iload_n 3, 1) := by decide +kernel
theorem dX7_findLeast_65 : decode cX7_findLeast 65 = .ok (.iload 4, 2) := by decide +kernel
theorem dX7_findLeast_67 : decode cX7_findLeast 67 = .ok (.aload_n 1, 1) := by decide +kernel
theorem dX7_findLeast_68 : decode cX7_findLeast 68 = .ok (.iload_n 3, 1) := by decide +kernel
theorem dX7_findLeast_69 : decode cX7_findLeast 69 = .ok (.iload 4, 2) := by decide +kernel
theorem dX7_findLeast_71 : decode cX7_findLeast 71 = .ok (.invokevirtual 52, 3) := by decide +kernel
theorem dX7_findLeast_74 : decode cX7_findLeast 74 = .ok (.invokevirtual 56, 3) := by decide +kernel
theorem dX7_findLeast_77 : decode cX7_findLeast 77 = .ok (.iinc 4 1, 3) := by decide +kernel
theorem dX7_findLeast_80 : decode cX7_findLeast 80 = .ok (.goto (-59), 3) := by decide +kernel
theorem dX7_findLeast_83 : decode cX7_findLeast 83 = .ok (.iinc 3 1, 3) := by decide +kernel
theorem dX7_findLeast_86 : decode cX7_findLeast 86 = .ok (.goto (-78), 3) := by decide +kernel
theorem dX7_findLeast_89 : decode cX7_findLeast 89 = .ok (.aload_n 0, 1) := by decide +kernel
theorem dX7_findLeast_90 : decode cX7_findLeast 90 = .ok (.getfield 32, 3) := by decide +kernel
theorem dX7_findLeast_93 : decode cX7_findLeast 93 = .ok (.ldc 40, 2) := by decide +kernel
theorem dX7_findLeast_95 : decode cX7_findLeast 95 = .ok (.if_icmp .ge 7, 3) := by decide +kernel
theorem dX7_findLeast_98 : decode cX7_findLeast 98 = .ok (.iconst 1, 1) := by decide +kernel
theorem dX7_findLeast_99 : decode cX7_findLeast 99 = .ok (.goto 4, 3) := by decide +kernel
theorem dX7_findLeast_102 : decode cX7_findLeast 102 = .ok (.iconst 0, 1) := by decide +kernel
theorem dX7_findLeast_103 : decode cX7_findLeast 103 = .ok (.ireturn, 1) := by decide +kernel
theorem dX7_offer_0 : decode cX7_offer 0 = .ok (.iload_n 3, 1) := by decide +kernel
theorem dX7_offer_1 : decode cX7_offer 1 = .ok (.aload_n 0, 1) := by decide +kernel
theorem dX7_offer_2 : decode cX7_offer 2 = .ok (.getfield 32, 3) := by decide +kernel
theorem dX7_offer_5 : decode cX7_offer 5 = .ok (.if_icmp .ge 38, 3) := by decide +kernel
theorem dX7_offer_8 : decode cX7_offer 8 = .ok (.aload_n 0, 1) := by decide +kernel
theorem dX7_offer_9 : decode cX7_offer 9 = .ok (.iload_n 3, 1) := by decide +kernel
theorem dX7_offer_10 : decode cX7_offer 10 = .ok (.putfield 32, 3) := by decide +kernel
theorem dX7_offer_13 : decode cX7_offer 13 = .ok (.aload_n 0, 1) := by decide +kernel
theorem dX7_offer_14 : decode cX7_offer 14 = .ok (.bipush 100, 2) := by decide +kernel
theorem dX7_offer_16 : decode cX7_offer 16 = .ok (.iload_n 1, 1) := by decide +kernel
theorem dX7_offer_17 : decode cX7_offer 17 = .ok (.imul, 1) := by decide +kernel
theorem dX7_offer_18 : decode cX7_offer 18 = .ok (.iload_n 2, 1) := by decide +kernel
theorem dX7_offer_19 : decode cX7_offer 19 = .ok (.iadd, 1) := by decide +kernel
theorem dX7_offer_20 : decode cX7_offer 20 = .ok (.putfield 29, 3) := by decide +kernel
theorem dX7_offer_23 : decode cX7_offer 23 = .ok (.aload_n 0, 1) := by decide +kernel
theorem dX7_offer_24 : decode cX7_offer 24 = .ok (.aload_n 0, 1) := by decide +kernel
theorem dX7_offer_25 : decode cX7_offer 25 = .ok (.getfield 9, 3) := by decide +kernel
theorem dX7_offer_28 : decode cX7_offer 28 = .ok (.iload_n 1, 1) := by decide +kernel
theorem dX7_offer_29 : decode cX7_offer 29 = .ok (.iaload, 1) := by decide +kernel
theorem dX7_offer_30 : decode cX7_offer 30 = .ok (.putfield 60, 3) := by decide +kernel
theorem dX7_offer_33 : decode cX7_offer 33 = .ok (.aload_n 0, 1) := by decide +kernel
theorem dX7_offer_34 : decode cX7_offer 34 = .ok (.aload_n 0, 1) := by decide +kernel
theorem dX7_offer_35 : decode cX7_offer 35 = .ok (.getfield 9, 3) := by decide +kernel
theorem dX7_offer_38 : decode cX7_offer 38 = .ok (.iload_n 2, 1) := by decide +kernel
theorem dX7_offer_39 : decode cX7_offer 39 = .ok (.iaload, 1) := by decide +kernel
theorem dX7_offer_40 : decode cX7_offer 40 = .ok (.putfield 63, 3) := by decide +kernel
theorem dX7_offer_43 : decode cX7_offer 43 = .ok (.return_, 1) := by decide +kernel
theorem dX7_joinPieces_0 : decode cX7_joinPieces 0 = .ok (.iconst 0, 1) := by decide +kernel
theorem dX7_joinPieces_1 : decode cX7_joinPieces 1 = .ok (.istore_n 1, 1) := by decide +kernel
theorem dX7_joinPieces_2 : decode cX7_joinPieces 2 = .ok (.iload_n 1, 1) := by decide +kernel
theorem dX7_joinPieces_3 : decode cX7_joinPieces 3 = .ok (.bipush 36, 2) := by decide +kernel
theorem dX7_joinPieces_5 : decode cX7_joinPieces 5 = .ok (.if_icmp .ge 32, 3) := by decide +kernel
theorem dX7_joinPieces_8 : decode cX7_joinPieces 8 = .ok (.aload_n 0, 1) := by decide +kernel
theorem dX7_joinPieces_9 : decode cX7_joinPieces 9 = .ok (.getfield 9, 3) := by decide +kernel
theorem dX7_joinPieces_12 : decode cX7_joinPieces 12 = .ok (.iload_n 1, 1) := by decide +kernel
theorem dX7_joinPieces_13 : decode cX7_joinPieces 13 = .ok (.iaload, 1) := by decide +kernel
theorem dX7_joinPieces_14 : decode cX7_joinPieces 14 = .ok (.aload_n 0, 1) := by decide +kernel
theorem dX7_joinPieces_15 : decode cX7_joinPieces 15 = .ok (.getfield 63, 3) := by decide +kernel
theorem dX7_joinPieces_18 : decode cX7_joinPieces 18 = .ok (.if_icmp .ne 13, 3) := by decide +kernel
theorem dX7_joinPieces_21 : decode cX7_joinPieces 21 = .ok (.aload_n 0, 1) := by decide +kernel
theorem dX7_joinPieces_22 : decode cX7_joinPieces 22 = .ok (.getfield 9, 3) := by decide +kernel
theorem dX7_joinPieces_25 : decode cX7_joinPieces 25 = .ok (.iload_n 1, 1) := by decide +kernel
theorem dX7_joinPieces_26 : decode cX7_joinPieces 26 = .ok (.aload_n 0, 1) := by decide +kernel
theorem dX7_joinPieces_27 : decode cX7_joinPieces 27 = .ok (.getfield 60, 3) := by decide +kernel
theorem dX7_joinPieces_30 : decode cX7_joinPieces 30 = .ok (.iastore, 1) := by decide +kernel
theorem dX7_joinPieces_31 : decode cX7_joinPieces 31 = .ok (.iinc 1 1, 3) := by decide +kernel
theorem dX7_joinPieces_34 : decode cX7_joinPieces 34 = .ok (.goto (-32), 3) := by decide +kernel
theorem dX7_joinPieces_37 : decode cX7_joinPieces 37 = .ok (.return_, 1) := by decide +kernel
theorem dX8_init_0 : decode cX8_init 0 = .ok (.aload_n 0, 1) := by decide +kernel
theorem dX8_init_1 : decode cX8_init 1 = .ok (.invokespecial 3, 3) := by decide +kernel
theorem dX8_init_4 : decode cX8_init 4 = .ok (.aload_n 0, 1) := by decide +kernel
theorem dX8_init_5 : decode cX8_init 5 = .ok (.bipush 36, 2) := by decide +kernel
theorem dX8_init_7 : decode cX8_init 7 = .ok (.newarray .int, 2) := by decide +kernel
theorem dX8_init_9 : decode cX8_init 9 = .ok (.putfield 9, 3) := by decide +kernel
theorem dX8_init_12 : decode cX8_init 12 = .ok (.aload_n 0, 1) := by decide +kernel
theorem dX8_init_13 : decode cX8_init 13 = .ok (.bipush 36, 2) := by decide +kernel
theorem dX8_init_15 : decode cX8_init 15 = .ok (.newarray .int, 2) := by decide +kernel
theorem dX8_init_17 : decode cX8_init 17 = .ok (.putfield 15, 3) := by decide +kernel
theorem dX8_init_20 : decode cX8_init 20 = .ok (.aload_n 0, 1) := by decide +kernel
theorem dX8_init_21 : decode cX8_init 21 = .ok (.bipush 20, 2) := by decide +kernel
theorem dX8_init_23 : decode cX8_init 23 = .ok (.newarray .int, 2) := by decide +kernel
theorem dX8_init_25 : decode cX8_init 25 = .ok (.putfield 18, 3) := by decide +kernel
theorem dX8_init_28 : decode cX8_init 28 = .ok (.aload_n 0, 1) := by decide +kernel
theorem dX8_init_29 : decode cX8_init 29 = .ok (.bipush 20, 2) := by decide +kernel
theorem dX8_init_31 : decode cX8_init 31 = .ok (.newarray .int, 2) := by decide +kernel
theorem dX8_init_33 : decode cX8_init 33 = .ok (.putfield 21, 3) := by decide +kernel
theorem dX8_init_36 : decode cX8_init 36 = .ok (.aload_n 0, 1) := by decide +kernel
theorem dX8_init_37 : decode cX8_init 37 = .ok (.bipush 20, 2) := by decide +kernel
theorem dX8_init_39 : decode cX8_init 39 = .ok (.newarray .int, 2) := by decide +kernel
theorem dX8_init_41 : decode cX8_init 41 = .ok (.putfield 24, 3) := by decide +kernel
theorem dX8_init_44 : decode cX8_init 44 = .ok (.aload_n 0, 1) := by decide +kernel
theorem dX8_init_45 : decode cX8_init 45 = .ok (.iconst 4, 1) := by decide +kernel
theorem dX8_init_46 : decode cX8_init 46 = .ok (.newarray .int, 2) := by decide +kernel
theorem dX8_init_48 : decode cX8_init 48 = .ok (.putfield 27, 3) := by decide +kernel
theorem dX8_init_51 : decode cX8_init 51 = .ok (.aload_n 0, 1) := by decide +kernel
theorem dX8_init_52 : decode cX8_init 52 = .ok (.new 30, 3) := by decide +kernel
theorem dX8_init_55 : decode cX8_init 55 = .ok (.dup, 1) := by decide +kernel
theorem dX8_init_56 : decode cX8_init 56 = .ok (.invokespecial 32, 3) := by decide +kernel
theorem dX8_init_59 : decode cX8_init 59 = .ok (.putfield 33, 3) := by decide +kernel
theorem dX8_init_62 : decode cX8_init 62 = .ok (.return_, 1) := by decide +kernel
theorem dX8_clear_0 : decode cX8_clear 0 = .ok (.aload_n 0, 1) := by decide +kernel
theorem dX8_clear_1 : decode cX8_clear 1 = .ok (.getfield 9, 3) := by decide +kernel
theorem dX8_clear_4 : decode cX8_clear 4 = .ok (.iconst 0, 1) := by decide +kernel
theorem dX8_clear_5 : decode cX8_clear 5 = .ok (.invokestatic 37, 3) := by decide +kernel
theorem dX8_clear_8 : decode cX8_clear 8 = .ok (.aload_n 0, 1) := by decide +kernel
theorem dX8_clear_9 : decode cX8_clear 9 = .ok (.getfield 15, 3) := by decide +kernel
theorem dX8_clear_12 : decode cX8_clear 12 = .ok (.iconst 0, 1) := by decide +kernel
theorem dX8_clear_13 : decode cX8_clear 13 = .ok (.invokestatic 37, 3) := by decide +kernel
theorem dX8_clear_16 : decode cX8_clear 16 = .ok (.aload_n 0, 1) := by decide +kernel
theorem dX8_clear_17 : decode cX8_clear 17 = .ok (.getfield 18, 3) := by decide +kernel
theorem dX8_clear_20 : decode cX8_clear 20 = .ok (.iconst 0, 1) := by decide +kernel
theorem dX8_clear_21 : decode cX8_clear 21 = .ok (.invokestatic 37, 3) := by decide +kernel
theorem dX8_clear_24 : decode cX8_clear 24 = .ok (.aload_n 0, 1) := by decide +kernel
theorem dX8_clear_25 : decode cX8_clear 25 = .ok (.getfield 21, 3) := by decide +kernel
theorem dX8_clear_28 : decode cX8_clear 28 = .ok (.iconst 0, 1) := by decide +kernel
theorem dX8_clear_29 : decode cX8_clear 29 = .ok (.invokestatic 37, 3) := by decide +kernel
theorem dX8_clear_32 : decode cX8_clear 32 = .ok (.aload_n 0, 1) := by decide +kernel
theorem dX8_clear_33 : decode cX8_clear 33 = .ok (.getfield 24, 3) := by decide +kernel
theorem dX8_clear_36 : decode cX8_clear 36 = .ok (.iconst 0, 1) := by decide +kernel
theorem dX8_clear_37 : decode cX8_clear 37 = .ok (.invokestatic 37, 3) := by decide +kernel
theorem dX8_clear_40 : decode cX8_clear 40 = .ok (.aload_n 0, 1) := by decide +kernel
theorem dX8_clear_41 : decode cX8_clear 41 = .ok (.getfield 27, 3) := by decide +kernel
theorem dX8_clear_44 : decode cX8_clear 44 = .ok (.iconst 0, 1) := by decide +kernel
theorem dX8_clear_45 : decode cX8_clear 45 = .ok (.invokestatic 37, 3) := by decide +kernel
theorem dX8_clear_48 : decode cX8_clear 48 = .ok (.aload_n 0, 1) := by decide +kernel
theorem dX8_clear_49 : decode cX8_clear 49 = .ok (.getfield 33, 3) := by decide +kernel
theorem dX8_clear_52 : decode cX8_clear 52 = .ok (.invokevirtual 41, 3) := by decide +kernel
theorem dX8_clear_55 : decode cX8_clear 55 = .ok (.aload_n 0, 1) := by decide +kernel
theorem dX8_clear_56 : decode cX8_clear 56 = .ok (.iconst 0, 1) := by decide +kernel
theorem dX8_clear_57 : decode cX8_clear 57 = .ok (.putfield 44, 3) := by decide +kernel
theorem dX8_clear_60 : decode cX8_clear 60 = .ok (.aload_n 0, 1) := by decide +kernel
theorem dX8_clear_61 : decode cX8_clear 61 = .ok (.iconst 0, 1) := by decide +kernel
theorem dX8_clear_62 : decode cX8_clear 62 = .ok (.putfield 48, 3) := by decide +kernel
theorem dX8_clear_65 : decode cX8_clear 65 = .ok (.return_, 1) := by decide +kernel
theorem dX8_copyFrom_0 : decode cX8_copyFrom 0 = .ok (.aload_n 1, 1) := by decide +kernel
theorem dX8_copyFrom_1 : decode cX8_copyFrom 1 = .ok (.getfield 9, 3) := by decide +kernel
theorem dX8_copyFrom_4 : decode cX8_copyFrom 4 = .ok (.aload_n 0, 1) := by decide +kernel
theorem dX8_copyFrom_5 : decode cX8_copyFrom 5 = .ok (.getfield 9, 3) := by decide +kernel
theorem dX8_copyFrom_8 : decode cX8_copyFrom 8 = .ok (.invokestatic 51, 3) := by decide +kernel
theorem dX8_copyFrom_11 : decode cX8_copyFrom 11 = .ok (.aload_n 1, 1) := by decide +kernel
theorem dX8_copyFrom_12 : decode cX8_copyFrom 12 = .ok (.getfield 15, 3) := by decide +kernel
theorem dX8_copyFrom_15 : decode cX8_copyFrom 15 = .ok (.aload_n 0, 1) := by decide +kernel
theorem dX8_copyFrom_16 : decode cX8_copyFrom 16 = .ok (.getfield 15, 3) := by decide +kernel
theorem dX8_copyFrom_19 : decode cX8_copyFrom 19 = .ok (.invokestatic 51, 3) := by decide +kernel
theorem dX8_copyFrom_22 : decode cX8_copyFrom 22 = .ok (.aload_n 1, 1) := by decide +kernel
theorem dX8_copyFrom_23 : decode cX8_copyFrom 23 = .ok (.getfield 18, 3) := by decide +kernel
theorem dX8_copyFrom_26 : decode cX8_copyFrom 26 = .ok (.aload_n 0, 1) := by decide +kernel
theorem dX8_copyFrom_27 : decode cX8_copyFrom 27 = .ok (.getfield 18, 3) := by decide +kernel
theorem dX8_copyFrom_30 : decode cX8_copyFrom 30 = .ok (.invokestatic 51, 3) := by decide +kernel
theorem dX8_copyFrom_33 : decode cX8_copyFrom 33 = .ok (.aload_n 1, 1) := by decide +kernel
theorem dX8_copyFrom_34 : decode cX8_copyFrom 34 = .ok (.getfield 21, 3) := by decide +kernel
theorem dX8_copyFrom_37 : decode cX8_copyFrom 37 = .ok (.aload_n 0, 1) := by decide +kernel
theorem dX8_copyFrom_38 : decode cX8_copyFrom 38 = .ok (.getfield 21, 3) := by decide +kernel
theorem dX8_copyFrom_41 : decode cX8_copyFrom 41 = .ok (.invokestatic 51, 3) := by decide +kernel
theorem dX8_copyFrom_44 : decode cX8_copyFrom 44 = .ok (.aload_n 1, 1) := by decide +kernel
theorem dX8_copyFrom_45 : decode cX8_copyFrom 45 = .ok (.getfield 24, 3) := by decide +kernel
theorem dX8_copyFrom_48 : decode cX8_copyFrom 48 = .ok (.aload_n 0, 1) := by decide +kernel
theorem dX8_copyFrom_49 : decode cX8_copyFrom 49 = .ok (.getfield 24, 3) := by decide +kernel
theorem dX8_copyFrom_52 : decode cX8_copyFrom 52 = .ok (.invokestatic 51, 3) := by decide +kernel
theorem dX8_copyFrom_55 : decode cX8_copyFrom 55 = .ok (.aload_n 1, 1) := by decide +kernel
theorem dX8_copyFrom_56 : decode cX8_copyFrom 56 = .ok (.getfield 27, 3) := by decide +kernel
theorem dX8_copyFrom_59 : decode cX8_copyFrom 59 = .ok (.aload_n 0, 1) := by decide +kernel
theorem dX8_copyFrom_60 : decode cX8_copyFrom 60 = .ok (.getfield 27, 3) := by decide +kernel
theorem dX8_copyFrom_63 : decode cX8_copyFrom 63 = .ok (.invokestatic 51, 3) := by decide +kernel
theorem dX8_copyFrom_66 : decode cX8_copyFrom 66 = .ok (.aload_n 0, 1) := by decide +kernel
theorem dX8_copyFrom_67 : decode cX8_copyFrom 67 = .ok (.getfield 33, 3) := by decide +kernel
theorem dX8_copyFrom_70 : decode cX8_copyFrom 70 = .ok (.aload_n 1, 1) := by decide +kernel
theorem dX8_copyFrom_71 : decode cX8_copyFrom 71 = .ok (.getfield 33, 3) := by decide +kernel
theorem dX8_copyFrom_74 : decode cX8_copyFrom 74 = .ok (.invokevirtual 55, 3) := by decide +kernel
theorem dX8_copyFrom_77 : decode cX8_copyFrom 77 = .ok (.aload_n 0, 1) := by decide +kernel
theorem dX8_copyFrom_78 : decode cX8_copyFrom 78 = .ok (.aload_n 1, 1) := by decide +kernel
theorem dX8_copyFrom_79 : decode cX8_copyFrom 79 = .ok (.getfield 44, 3) := by decide +kernel
theorem dX8_copyFrom_82 : decode cX8_copyFrom 82 = .ok (.putfield 44, 3) := by decide +kernel
theorem dX8_copyFrom_85 : decode cX8_copyFrom 85 = .ok (.aload_n 0, 1) := by decide +kernel
theorem dX8_copyFrom_86 : decode cX8_copyFrom 86 = .ok (.aload_n 1, 1) := by decide +kernel
theorem dX8_copyFrom_87 : decode cX8_copyFrom 87 = .ok (.getfield 48, 3) := by decide +kernel
theorem dX8_copyFrom_90 : decode cX8_copyFrom 90 = .ok (.putfield 48, 3) := by decide +kernel
theorem dX8_copyFrom_93 : decode cX8_copyFrom 93 = .ok (.return_, 1) := by decide +kernel
theorem dX8_putStanding_0 : decode cX8_putStanding 0 = .ok (.iconst 0, 1) := by decide +kernel
theorem dX8_putStanding_1 : decode cX8_putStanding 1 = .ok (.istore_n 2, 1) := by decide +kernel
theorem dX8_putStanding_2 : decode cX8_putStanding 2 = .ok (.iload_n 2, 1) := by decide +kernel
theorem dX8_putStanding_3 : decode cX8_putStanding 3 = .ok (.bipush 36, 2) := by decide +kernel
theorem dX8_putStanding_5 : decode cX8_putStanding 5 = .ok (.if_icmp .ge 29, 3) := by decide +kernel
theorem dX8_putStanding_8 : decode cX8_putStanding 8 = .ok (.aload_n 1, 1) := by decide +kernel
theorem dX8_putStanding_9 : decode cX8_putStanding 9 = .ok (.iload_n 2, 1) := by decide +kernel
theorem dX8_putStanding_10 : decode cX8_putStanding 10 = .ok (.aload_n 0, 1) := by decide +kernel
theorem dX8_putStanding_11 : decode cX8_putStanding 11 = .ok (.getfield 9, 3) := by decide +kernel
theorem dX8_putStanding_14 : decode cX8_putStanding 14 = .ok (.iload_n 2, 1) := by decide +kernel
theorem dX8_putStanding_15 : decode cX8_putStanding 15 = .ok (.iaload, 1) := by decide +kernel
theorem dX8_putStanding_16 : decode cX8_putStanding 16 = .ok (.ifCond .le 7, 3) := by decide +kernel
theorem dX8_putStanding_19 : decode cX8_putStanding 19 = .ok (.iconst 1, 1) := by decide +kernel
theorem dX8_putStanding_20 : decode cX8_putStanding 20 = .ok (.goto 4, 3) := by decide +kernel
theorem dX8_putStanding_23 : decode cX8_putStanding 23 = .ok (.iconst 0, 1) := by decide +kernel
theorem dX8_putStanding_24 : decode cX8_putStanding 24 = .ok (.invokevirtual 59, 3) := by decide +kernel
theorem dX8_putStanding_27 : decode cX8_putStanding 27 = .ok (.pop, 1) := by decide +kernel
theorem dX8_putStanding_28 : decode cX8_putStanding 28 = .ok (.iinc 2 1, 3) := by decide +kernel
theorem dX8_putStanding_31 : decode cX8_putStanding 31 = .ok (.goto (-29), 3) := by decide +kernel
theorem dX8_putStanding_34 : decode cX8_putStanding 34 = .ok (.return_, 1) := by decide +kernel
theorem dX8_isStandingJustOn_0 : decode cX8_isStandingJustOn 0 = .ok (.iconst 0, 1) := by decide +kernel
theorem dX8_isStandingJustOn_1 : decode cX8_isStandingJustOn 1 = .ok (.istore_n 2, 1) := by decide +kernel
theorem dX8_isStandingJustOn_2 : decode cX8_isStandingJustOn 2 = .ok (.iload_n 2, 1) := by decide +kernel
theorem dX8_isStandingJustOn_3 : decode cX8_isStandingJustOn 3 = .ok (.bipush 36, 2) := by decide +kernel
theorem dX8_isStandingJustOn_5 : decode cX8_isStandingJustOn 5 = .ok (.if_icmp .ge 33, 3) := by decide +kernel
theorem dX8_isStandingJustOn_8 : decode cX8_isStandingJustOn 8 = .ok (.aload_n 1, 1) := by decide +kernel
theorem dX8_isStandingJustOn_9 : decode cX8_isStandingJustOn 9 = .ok (.iload_n 2, 1) := by decide +kernel
theorem dX8_isStandingJustOn_10 : decode cX8_isStandingJustOn 10 = .ok (.invokevirtual 63, 3) := by decide +kernel
theorem dX8_isStandingJustOn_13 : decode cX8_isStandingJustOn 13 = .ok (.aload_n 0, 1) := by decide +kernel
theorem dX8_isStandingJustOn_14 : decode cX8_isStandingJustOn 14 = .ok (.getfield 9, 3) := by decide +kernel
theorem dX8_isStandingJustOn_17 : decode cX8_isStandingJustOn 17 = .ok (.iload_n 2, 1) := by decide +kernel
theorem dX8_isStandingJustOn_18 : decode cX8_isStandingJustOn 18 = .ok (.iaload, 1) := by decide +kernel
theorem dX8_isStandingJustOn_19 : decode cX8_isStandingJustOn 19 = .ok (.ifCond .le 7, 3) := by decide +kernel
theorem dX8_isStandingJustOn_22 : decode cX8_isStandingJustOn 22 = .ok (.iconst 1, 1) := by decide +kernel
theorem dX8_isStandingJustOn_23 : decode cX8_isStandingJustOn 23 = .ok (.goto 4, 3) := by decide +kernel
theorem dX8_isStandingJustOn_26 : decode cX8_isStandingJustOn 26 = .ok (.iconst 0, 1) := by decide +kernel
theorem dX8_isStandingJustOn_27 : decode cX8_isStandingJustOn 27 = .ok (.if_icmp .eq 5, 3) := by decide +kernel
theorem dX8_isStandingJustOn_30 : decode cX8_isStandingJustOn 30 = .ok (.iconst 0, 1) := by decide +kernel
theorem dX8_isStandingJustOn_31 : decode cX8_isStandingJustOn 31 = .ok (.ireturn, 1) := by decide +kernel
theorem dX8_isStandingJustOn_32 : decode cX8_isStandingJustOn 32 = .ok (.iinc 2 1, 3) := by decide +kernel
theorem dX8_isStandingJustOn_35 : decode cX8_isStandingJustOn 35 = .ok (.goto (-33), 3) := by decide +kernel
theorem dX8_isStandingJustOn_38 : decode cX8_isStandingJustOn 38 = .ok (.iconst 1, 1) := by decide +kernel
theorem dX8_isStandingJustOn_39 : decode cX8_isStandingJustOn 39 = .ok (.ireturn, 1) := by decide +kernel
theorem dX9_init_0 : decode cX9_init 0 = .ok (.aload_n 0, 1) := by decide +kernel
theorem dX9_init_1 : decode cX9_init 1 = .ok (.invokespecial 3, 3) := by decide +kernel
theorem dX9_init_4 : decode cX9_init 4 = .ok (.aload_n 0, 1) := by decide +kernel
theorem dX9_init_5 : decode cX9_init 5 = .ok (.new 9, 3) := by decide +kernel
theorem dX9_init_8 : decode cX9_init 8 = .ok (.dup, 1) := by decide +kernel
theorem dX9_init_9 : decode cX9_init 9 = .ok (.invokespecial 11, 3) := by decide +kernel
theorem dX9_init_12 : decode cX9_init 12 = .ok (.putfield 12, 3) := by decide +kernel
theorem dX9_init_15 : decode cX9_init 15 = .ok (.aload_n 0, 1) := by decide +kernel
theorem dX9_init_16 : decode cX9_init 16 = .ok (.new 9, 3) := by decide +kernel
theorem dX9_init_19 : decode cX9_init 19 = .ok (.dup, 1) := by decide +kernel
theorem dX9_init_20 : decode cX9_init 20 = .ok (.invokespecial 11, 3) := by decide +kernel
theorem dX9_init_23 : decode cX9_init 23 = .ok (.putfield 16, 3) := by decide +kernel
theorem dX9_init_26 : decode cX9_init 26 = .ok (.aload_n 0, 1) := by decide +kernel
theorem dX9_init_27 : decode cX9_init 27 = .ok (.new 19, 3) := by decide +kernel
theorem dX9_init_30 : decode cX9_init 30 = .ok (.dup, 1) := by decide +kernel
theorem dX9_init_31 : decode cX9_init 31 = .ok (.invokespecial 21, 3) := by decide +kernel
theorem dX9_init_34 : decode cX9_init 34 = .ok (.putfield 22, 3) := by decide +kernel
theorem dX9_init_37 : decode cX9_init 37 = .ok (.aload_n 0, 1) := by decide +kernel
theorem dX9_init_38 : decode cX9_init 38 = .ok (.new 26, 3) := by decide +kernel
theorem dX9_init_41 : decode cX9_init 41 = .ok (.dup, 1) := by decide +kernel
theorem dX9_init_42 : decode cX9_init 42 = .ok (.invokespecial 28, 3) := by decide +kernel
theorem dX9_init_45 : decode cX9_init 45 = .ok (.putfield 29, 3) := by decide +kernel
theorem dX9_init_48 : decode cX9_init 48 = .ok (.aload_n 0, 1) := by decide +kernel
theorem dX9_init_49 : decode cX9_init 49 = .ok (.new 33, 3) := by decide +kernel
theorem dX9_init_52 : decode cX9_init 52 = .ok (.dup, 1) := by decide +kernel
theorem dX9_init_53 : decode cX9_init 53 = .ok (.invokespecial 35, 3) := by decide +kernel
theorem dX9_init_56 : decode cX9_init 56 = .ok (.putfield 36, 3) := by decide +kernel
theorem dX9_init_59 : decode cX9_init 59 = .ok (.aload_n 0, 1) := by decide +kernel
theorem dX9_init_60 : decode cX9_init 60 = .ok (.iconst 0, 1) := by decide +kernel
theorem dX9_init_61 : decode cX9_init 61 = .ok (.putfield 40, 3) := by decide +kernel
theorem dX9_init_64 : decode cX9_init 64 = .ok (.return_, 1) := by decide +kernel
theorem dX9_land_0 : decode cX9_land 0 = .ok (.iload_n 1, 1) := by decide +kernel
theorem dX9_land_1 : decode cX9_land 1 = .ok (.iconst 1, 1) := by decide +kernel
theorem dX9_land_2 : decode cX9_land 2 = .ok (.bipush 6, 2) := by decide +kernel
theorem dX9_land_4 : decode cX9_land 4 = .ok (.invokestatic 44, 3) := by decide +kernel
theorem dX9_land_7 : decode cX9_land 7 = .ok (.ifCond .eq 13, 3) := by decide +kernel
theorem dX9_land_10 : decode cX9_land 10 = .ok (.iload_n 2, 1) := by decide +kernel
theorem dX9_land_11 : decode cX9_land 11 = .ok (.iconst 1, 1) := by decide +kernel
theorem dX9_land_12 : decode cX9_land 12 = .ok (.bipush 6, 2) := by decide +kernel
theorem dX9_land_14 : decode cX9_land 14 = .ok (.invokestatic 44, 3) := by decide +kernel
theorem dX9_land_17 : decode cX9_land 17 = .ok (.ifCond .ne 5, 3) := by decide +kernel
theorem dX9_land_20 : decode cX9_land 20 = .ok (.iconst (-1), 1) := by decide +kernel
theorem dX9_land_21 : decode cX9_land 21 = .ok (.ireturn, 1) := by decide +kernel
theorem dX9_land_22 : decode cX9_land 22 = .ok (.aload_n 0, 1) := by decide +kernel
theorem dX9_land_23 : decode cX9_land 23 = .ok (.getfield 12, 3) := by decide +kernel
theorem dX9_land_26 : decode cX9_land 26 = .ok (.getfield 48, 3) := by decide +kernel
theorem dX9_land_29 : decode cX9_land 29 = .ok (.iload_n 1, 1) := by decide +kernel
theorem dX9_land_30 : decode cX9_land 30 = .ok (.iload_n 2, 1) := by decide +kernel
theorem dX9_land_31 : decode cX9_land 31 = .ok (.invokevirtual 52, 3) := by decide +kernel
theorem dX9_land_34 : decode cX9_land 34 = .ok (.aload_n 0, 1) := by decide +kernel
theorem dX9_land_35 : decode cX9_land 35 = .ok (.getfield 12, 3) := by decide +kernel
theorem dX9_land_38 : decode cX9_land 38 = .ok (.getfield 58, 3) := by decide +kernel
theorem dX9_land_41 : decode cX9_land 41 = .ok (.invokevirtual 62, 3) := by decide +kernel
theorem dX9_land_44 : decode cX9_land 44 = .ok (.aload_n 0, 1) := by decide +kernel
theorem dX9_land_45 : decode cX9_land 45 = .ok (.getfield 12, 3) := by decide +kernel
theorem dX9_land_48 : decode cX9_land 48 = .ok (.getfield 67, 3) := by decide +kernel
theorem dX9_land_51 : decode cX9_land 51 = .ok (.iconst 0, 1) := by decide +kernel
theorem dX9_land_52 : decode cX9_land 52 = .ok (.putfield 71, 3) := by decide +kernel
theorem dX9_land_55 : decode cX9_land 55 = .ok (.aload_n 0, 1) := by decide +kernel
theorem dX9_land_56 : decode cX9_land 56 = .ok (.getfield 12, 3) := by decide +kernel
theorem dX9_land_59 : decode cX9_land 59 = .ok (.getfield 77, 3) := by decide +kernel
theorem dX9_land_62 : decode cX9_land 62 = .ok (.invokevirtual 80, 3) := by decide +kernel
theorem dX9_land_65 : decode cX9_land 65 = .ok (.aload_n 0, 1) := by decide +kernel
theorem dX9_land_66 : decode cX9_land 66 = .ok (.getfield 12, 3) := by decide +kernel
theorem dX9_land_69 : decode cX9_land 69 = .ok (.getfield 81, 3) := by decide +kernel
theorem dX9_land_72 : decode cX9_land 72 = .ok (.iconst 0, 1) := by decide +kernel
theorem dX9_land_73 : decode cX9_land 73 = .ok (.invokestatic 85, 3) := by decide +kernel
theorem dX9_land_76 : decode cX9_land 76 = .ok (.aload_n 0, 1) := by decide +kernel
theorem dX9_land_77 : decode cX9_land 77 = .ok (.getfield 12, 3) := by decide +kernel
theorem dX9_land_80 : decode cX9_land 80 = .ok (.getfield 89, 3) := by decide +kernel
theorem dX9_land_83 : decode cX9_land 83 = .ok (.invokevirtual 93, 3) := by decide +kernel
theorem dX9_land_86 : decode cX9_land 86 = .ok (.aload_n 0, 1) := by decide +kernel
theorem dX9_land_87 : decode cX9_land 87 = .ok (.getfield 12, 3) := by decide +kernel
theorem dX9_land_90 : decode cX9_land 90 = .ok (.getfield 96, 3) := by decide +kernel
theorem dX9_land_93 : decode cX9_land 93 = .ok (.invokevirtual 93, 3) := by decide +kernel
theorem dX9_land_96 : decode cX9_land 96 = .ok (.aload_n 0, 1) := by decide +kernel
theorem dX9_land_97 : decode cX9_land 97 = .ok (.getfield 12, 3) := by decide +kernel
theorem dX9_land_100 : decode cX9_land 100 = .ok (.getfield 48, 3) := by decide +kernel
theorem dX9_land_103 : decode cX9_land 103 = .ok (.getfield 99, 3) := by decide +kernel
theorem dX9_land_106 : decode cX9_land 106 = .ok (.ireturn, 1) := by decide +kernel
theorem dX9_height_0 : decode cX9_height 0 = .ok (.aload_n 0, 1) := by decide +kernel
theorem dX9_height_1 : decode cX9_height 1 = .ok (.getfield 12, 3) := by decide +kernel
theorem dX9_height_4 : decode cX9_height 4 = .ok (.getfield 48, 3) := by decide +kernel
theorem dX9_height_7 : decode cX9_height 7 = .ok (.iload_n 1, 1) := by decide +kernel
theorem dX9_height_8 : decode cX9_height 8 = .ok (.invokevirtual 102, 3) := by decide +kernel
theorem dX9_height_11 : decode cX9_height 11 = .ok (.ifCond .eq 14, 3) := by decide +kernel
theorem dX9_height_14 : decode cX9_height 14 = .ok (.iload_n 2, 1) := by decide +kernel
theorem dX9_height_15 : decode cX9_height 15 = .ok (.iconst 0, 1) := by decide +kernel
theorem dX9_height_16 : decode cX9_height 16 = .ok (.sipush 2000, 3) := by decide +kernel
theorem dX9_height_19 : decode cX9_height 19 = .ok (.invokestatic 44, 3) := by decide +kernel
theorem dX9_height_22 : decode cX9_height 22 = .ok (.ifCond .ne 5, 3) := by decide +kernel
theorem dX9_height_25 : decode cX9_height 25 = .ok (.iconst (-1), 1) := by decide +kernel
theorem dX9_height_26 : decode cX9_height 26 = .ok (.ireturn, 1) := by decide +kernel
theorem dX9_height_27 : decode cX9_height 27 = .ok (.aload_n 0, 1) := by decide +kernel
theorem dX9_height_28 : decode cX9_height 28 = .ok (.getfield 12, 3) := by decide +kernel
theorem dX9_height_31 : decode cX9_height 31 = .ok (.getfield 48, 3) := by decide +kernel
theorem dX9_height_34 : decode cX9_height 34 = .ok (.getfield 106, 3) := by decide +kernel
theorem dX9_height_37 : decode cX9_height 37 = .ok (.iload_n 1, 1) := by decide +kernel
theorem dX9_height_38 : decode cX9_height 38 = .ok (.iload_n 2, 1) := by decide +kernel
theorem dX9_height_39 : decode cX9_height 39 = .ok (.iastore, 1) := by decide +kernel
theorem dX9_height_40 : decode cX9_height 40 = .ok (.iconst 1, 1) := by decide +kernel
theorem dX9_height_41 : decode cX9_height 41 = .ok (.ireturn, 1) := by decide +kernel
theorem dX9_soil_0 : decode cX9_soil 0 = .ok (.aload_n 0, 1) := by decide +kernel
theorem dX9_soil_1 : decode cX9_soil 1 = .ok (.getfield 12, 3) := by decide +kernel
theorem dX9_soil_4 : decode cX9_soil 4 = .ok (.getfield 48, 3) := by decide +kernel
theorem dX9_soil_7 : decode cX9_soil 7 = .ok (.iload_n 1, 1) := by decide +kernel
theorem dX9_soil_8 : decode cX9_soil 8 = .ok (.invokevirtual 102, 3) := by decide +kernel
theorem dX9_soil_11 : decode cX9_soil 11 = .ok (.ifCond .eq 10, 3) := by decide +kernel
theorem dX9_soil_14 : decode cX9_soil 14 = .ok (.iload_n 2, 1) := by decide +kernel
theorem dX9_soil_15 : decode cX9_soil 15 = .ok (.invokestatic 109, 3) := by decide +kernel
theorem dX9_soil_18 : decode cX9_soil 18 = .ok (.ifCond .ne 5, 3) := by decide +kernel
theorem dX9_soil_21 : decode cX9_soil 21 = .ok (.iconst (-1), 1) := by decide +kernel
theorem dX9_soil_22 : decode cX9_soil 22 = .ok (.ireturn, 1) := by decide +kernel
theorem dX9_soil_23 : decode cX9_soil 23 = .ok (.aload_n 0, 1) := by decide +kernel
theorem dX9_soil_24 : decode cX9_soil 24 = .ok (.getfield 12, 3) := by decide +kernel
theorem dX9_soil_27 : decode cX9_soil 27 = .ok (.getfield 48, 3) := by decide +kernel
theorem dX9_soil_30 : decode cX9_soil 30 = .ok (.getfield 112, 3) := by decide +kernel
theorem dX9_soil_33 : decode cX9_soil 33 = .ok (.iload_n 1, 1) := by decide +kernel
theorem dX9_soil_34 : decode cX9_soil 34 = .ok (.iload_n 2, 1) := by decide +kernel
theorem dX9_soil_35 : decode cX9_soil 35 = .ok (.iastore, 1) := by decide +kernel
theorem dX9_soil_36 : decode cX9_soil 36 = .ok (.iconst 1, 1) := by decide +kernel
theorem dX9_soil_37 : decode cX9_soil 37 = .ok (.ireturn, 1) := by decide +kernel
theorem dX9_soils_0 : decode cX9_soils 0 = .ok (.iload_n 1, 1) := by decide +kernel
theorem dX9_soils_1 : decode cX9_soils 1 = .ok (.invokestatic 109, 3) := by decide +kernel
theorem dX9_soils_4 : decode cX9_soils 4 = .ok (.ifCond .eq 47, 3) := by decide +kernel
theorem dX9_soils_7 : decode cX9_soils 7 = .ok (.iload_n 2, 1) := by decide +kernel
theorem dX9_soils_8 : decode cX9_soils 8 = .ok (.iconst 0, 1) := by decide +kernel
theorem dX9_soils_9 : decode cX9_soils 9 = .ok (.sipush 200, 3) := by decide +kernel
theorem dX9_soils_12 : decode cX9_soils 12 = .ok (.invokestatic 44, 3) := by decide +kernel
theorem dX9_soils_15 : decode cX9_soils 15 = .ok (.ifCond .eq 36, 3) := by decide +kernel
theorem dX9_soils_18 : decode cX9_soils 18 = .ok (.iload_n 3, 1) := by decide +kernel
theorem dX9_soils_19 : decode cX9_soils 19 = .ok (.iconst 0, 1) := by decide +kernel
theorem dX9_soils_20 : decode cX9_soils 20 = .ok (.bipush 100, 2) := by decide +kernel
theorem dX9_soils_22 : decode cX9_soils 22 = .ok (.invokestatic 44, 3) := by decide +kernel
theorem dX9_soils_25 : decode cX9_soils 25 = .ok (.ifCond .eq 26, 3) := by decide +kernel
theorem dX9_soils_28 : decode cX9_soils 28 = .ok (.iload 4, 2) := by decide +kernel
theorem dX9_soils_30 : decode cX9_soils 30 = .ok (.iconst 0, 1) := by decide +kernel
theorem dX9_soils_31 : decode cX9_soils 31 = .ok (.sipush 1000, 3) := by decide +kernel
theorem dX9_soils_34 : decode cX9_soils 34 = .ok (.invokestatic 44, 3) := by decide +kernel
theorem dX9_soils_37 : decode cX9_soils 37 = .ok (.ifCond .eq 14, 3) := by decide +kernel
theorem dX9_soils_40 : decode cX9_soils 40 = .ok (.iload 5, 2) := by decide +kernel
theorem dX9_soils_42 : decode cX9_soils 42 = .ok (.iconst 0, 1) := by decide +kernel
theorem dX9_soils_43 : decode cX9_soils 43 = .ok (.bipush 40, 2) := by decide +kernel
theorem dX9_soils_45 : decode cX9_soils 45 = .ok (.invokestatic 44, 3) := by decide +kernel
theorem dX9_soils_48 : decode cX9_soils 48 = .ok (.ifCond .ne 5, 3) := by decide +kernel
theorem dX9_soils_51 : decode cX9_soils 51 = .ok (.iconst (-1), 1) := by decide +kernel
theorem dX9_soils_52 : decode cX9_soils 52 = .ok (.ireturn, 1) := by decide +kernel
theorem dX9_soils_53 : decode cX9_soils 53 = .ok (.aload_n 0, 1) := by decide +kernel
theorem dX9_soils_54 : decode cX9_soils 54 = .ok (.getfield 12, 3) := by decide +kernel
theorem dX9_soils_57 : decode cX9_soils 57 = .ok (.getfield 48, 3) := by decide +kernel
theorem dX9_soils_60 : decode cX9_soils 60 = .ok (.getfield 115, 3) := by decide +kernel
theorem dX9_soils_63 : decode cX9_soils 63 = .ok (.iload_n 1, 1) := by decide +kernel
theorem dX9_soils_64 : decode cX9_soils 64 = .ok (.iload_n 2, 1) := by decide +kernel
theorem dX9_soils_65 : decode cX9_soils 65 = .ok (.iastore, 1) := by decide +kernel
theorem dX9_soils_66 : decode cX9_soils 66 = .ok (.aload_n 0, 1) := by decide +kernel
theorem dX9_soils_67 : decode cX9_soils 67 = .ok (.getfield 12, 3) := by decide +kernel
theorem dX9_soils_70 : decode cX9_soils 70 = .ok (.getfield 48, 3) := by decide +kernel
theorem dX9_soils_73 : decode cX9_soils 73 = .ok (.getfield 118, 3) := by decide +kernel
theorem dX9_soils_76 : decode cX9_soils 76 = .ok (.iload_n 1, 1) := by decide +kernel
theorem dX9_soils_77 : decode cX9_soils 77 = .ok (.iload_n 3, 1) := by decide +kernel
theorem dX9_soils_78 : decode cX9_soils 78 = .ok (.iastore, 1) := by decide +kernel
theorem dX9_soils_79 : decode cX9_soils 79 = .ok (.aload_n 0, 1) := by decide +kernel
theorem dX9_soils_80 : decode cX9_soils 80 = .ok (.getfield 12, 3) := by decide +kernel
theorem dX9_soils_83 : decode cX9_soils 83 = .ok (.getfield 48, 3) := by decide +kernel
theorem dX9_soils_86 : decode cX9_soils 86 = .ok (.getfield 121, 3) := by decide +kernel
theorem dX9_soils_89 : decode cX9_soils 89 = .ok (.iload_n 1, 1) := by decide +kernel
theorem dX9_soils_90 : decode cX9_soils 90 = .ok (.iload 4, 2) := by decide +kernel
theorem dX9_soils_92 : decode cX9_soils 92 = .ok (.iastore, 1) := by decide +kernel
theorem dX9_soils_93 : decode cX9_soils 93 = .ok (.aload_n 0, 1) := by decide +kernel
theorem dX9_soils_94 : decode cX9_soils 94 = .ok (.getfield 12, 3) := by decide +kernel
theorem dX9_soils_97 : decode cX9_soils 97 = .ok (.getfield 48, 3) := by decide +kernel
theorem dX9_soils_100 : decode cX9_soils 100 = .ok (.getfield 124, 3) := by decide +kernel
theorem dX9_soils_103 : decode cX9_soils 103 = .ok (.iload_n 1, 1) := by decide +kernel
theorem dX9_soils_104 : decode cX9_soils 104 = .ok (.iload 5, 2) := by decide +kernel
theorem dX9_soils_106 : decode cX9_soils 106 = .ok (.iastore, 1) := by decide +kernel
theorem dX9_soils_107 : decode cX9_soils 107 = .ok (.iconst 1, 1) := by decide +kernel
theorem dX9_soils_108 : decode cX9_soils 108 = .ok (.ireturn, 1) := by decide +kernel
theorem dX9_ditch_0 : decode cX9_ditch 0 = .ok (.iload_n 1, 1) := by decide +kernel
theorem dX9_ditch_1 : decode cX9_ditch 1 = .ok (.invokestatic 127, 3) := by decide +kernel
theorem dX9_ditch_4 : decode cX9_ditch 4 = .ok (.ifCond .eq 14, 3) := by decide +kernel
theorem dX9_ditch_7 : decode cX9_ditch 7 = .ok (.iload_n 2, 1) := by decide +kernel
theorem dX9_ditch_8 : decode cX9_ditch 8 = .ok (.iconst 0, 1) := by decide +kernel
theorem dX9_ditch_9 : decode cX9_ditch 9 = .ok (.sipush 2000, 3) := by decide +kernel
theorem dX9_ditch_12 : decode cX9_ditch 12 = .ok (.invokestatic 44, 3) := by decide +kernel
theorem dX9_ditch_15 : decode cX9_ditch 15 = .ok (.ifCond .ne 5, 3) := by decide +kernel
theorem dX9_ditch_18 : decode cX9_ditch 18 = .ok (.iconst (-1), 1) := by decide +kernel
theorem dX9_ditch_19 : decode cX9_ditch 19 = .ok (.ireturn, 1) := by decide +kernel
theorem dX9_ditch_20 : decode cX9_ditch 20 = .ok (.aload_n 0, 1) := by decide +kernel
theorem dX9_ditch_21 : decode cX9_ditch 21 = .ok (.getfield 12, 3) := by decide +kernel
theorem dX9_ditch_24 : decode cX9_ditch 24 = .ok (.getfield 48, 3) := by decide +kernel
theorem dX9_ditch_27 : decode cX9_ditch 27 = .ok (.getfield 130, 3) := by decide +kernel
theorem dX9_ditch_30 : decode cX9_ditch 30 = .ok (.iload_n 1, 1) := by decide +kernel
theorem dX9_ditch_31 : decode cX9_ditch 31 = .ok (.iload_n 2, 1) := by decide +kernel
theorem dX9_ditch_32 : decode cX9_ditch 32 = .ok (.iastore, 1) := by decide +kernel
theorem dX9_ditch_33 : decode cX9_ditch 33 = .ok (.iconst 1, 1) := by decide +kernel
theorem dX9_ditch_34 : decode cX9_ditch 34 = .ok (.ireturn, 1) := by decide +kernel
theorem dX9_trench_0 : decode cX9_trench 0 = .ok (.aload_n 0, 1) := by decide +kernel
theorem dX9_trench_1 : decode cX9_trench 1 = .ok (.getfield 12, 3) := by decide +kernel
theorem dX9_trench_4 : decode cX9_trench 4 = .ok (.getfield 48, 3) := by decide +kernel
theorem dX9_trench_7 : decode cX9_trench 7 = .ok (.astore 5, 2) := by decide +kernel
theorem dX9_trench_9 : decode cX9_trench 9 = .ok (.aload 5, 2) := by decide +kernel
theorem dX9_trench_11 : decode cX9_trench 11 = .ok (.iload_n 1, 1) := by decide +kernel
theorem dX9_trench_12 : decode cX9_trench 12 = .ok (.invokevirtual 102, 3) := by decide +kernel
theorem dX9_trench_15 : decode cX9_trench 15 = .ok (.ifCond .eq 49, 3) := by decide +kernel
theorem dX9_trench_18 : decode cX9_trench 18 = .ok (.aload 5, 2) := by decide +kernel
theorem dX9_trench_20 : decode cX9_trench 20 = .ok (.iload_n 2, 1) := by decide +kernel
theorem dX9_trench_21 : decode cX9_trench 21 = .ok (.invokevirtual 102, 3) := by decide +kernel
theorem dX9_trench_24 : decode cX9_trench 24 = .ok (.ifCond .eq 40, 3) := by decide +kernel
theorem dX9_trench_27 : decode cX9_trench 27 = .ok (.iload_n 1, 1) := by decide +kernel
theorem dX9_trench_28 : decode cX9_trench 28 = .ok (.iload_n 2, 1) := by decide +kernel
theorem dX9_trench_29 : decode cX9_trench 29 = .ok (.if_icmp .eq 35, 3) := by decide +kernel
theorem dX9_trench_32 : decode cX9_trench 32 = .ok (.aload 5, 2) := by decide +kernel
theorem dX9_trench_34 : decode cX9_trench 34 = .ok (.iload_n 1, 1) := by decide +kernel
theorem dX9_trench_35 : decode cX9_trench 35 = .ok (.iload_n 2, 1) := by decide +kernel
theorem dX9_trench_36 : decode cX9_trench 36 = .ok (.invokevirtual 133, 3) := by decide +kernel
theorem dX9_trench_39 : decode cX9_trench 39 = .ok (.ifCond .eq 25, 3) := by decide +kernel
theorem dX9_trench_42 : decode cX9_trench 42 = .ok (.iload_n 3, 1) := by decide +kernel
theorem dX9_trench_43 : decode cX9_trench 43 = .ok (.iconst 0, 1) := by decide +kernel
theorem dX9_trench_44 : decode cX9_trench 44 = .ok (.sipush 2000, 3) := by decide +kernel
theorem dX9_trench_47 : decode cX9_trench 47 = .ok (.invokestatic 44, 3) := by decide +kernel
theorem dX9_trench_50 : decode cX9_trench 50 = .ok (.ifCond .eq 14, 3) := by decide +kernel
theorem dX9_trench_53 : decode cX9_trench 53 = .ok (.iload 4, 2) := by decide +kernel
theorem dX9_trench_55 : decode cX9_trench 55 = .ok (.iconst 1, 1) := by decide +kernel
theorem dX9_trench_56 : decode cX9_trench 56 = .ok (.bipush 50, 2) := by decide +kernel
theorem dX9_trench_58 : decode cX9_trench 58 = .ok (.invokestatic 44, 3) := by decide +kernel
theorem dX9_trench_61 : decode cX9_trench 61 = .ok (.ifCond .ne 5, 3) := by decide +kernel
theorem dX9_trench_64 : decode cX9_trench 64 = .ok (.iconst (-1), 1) := by decide +kernel
theorem dX9_trench_65 : decode cX9_trench 65 = .ok (.ireturn, 1) := by decide +kernel
theorem dX9_trench_66 : decode cX9_trench 66 = .ok (.iconst 1, 1) := by decide +kernel
theorem dX9_trench_67 : decode cX9_trench 67 = .ok (.aload 5, 2) := by decide +kernel
theorem dX9_trench_69 : decode cX9_trench 69 = .ok (.iload_n 1, 1) := by decide +kernel
theorem dX9_trench_70 : decode cX9_trench 70 = .ok (.iload_n 2, 1) := by decide +kernel
theorem dX9_trench_71 : decode cX9_trench 71 = .ok (.invokevirtual 137, 3) := by decide +kernel
theorem dX9_trench_74 : decode cX9_trench 74 = .ok (.iadd, 1) := by decide +kernel
theorem dX9_trench_75 : decode cX9_trench 75 = .ok (.aload 5, 2) := by decide +kernel
theorem dX9_trench_77 : decode cX9_trench 77 = .ok (.iload_n 1, 1) := by decide +kernel
theorem dX9_trench_78 : decode cX9_trench 78 = .ok (.iload_n 2, 1) := by decide +kernel
theorem dX9_trench_79 : decode cX9_trench 79 = .ok (.invokevirtual 141, 3) := by decide +kernel
theorem dX9_trench_82 : decode cX9_trench 82 = .ok (.iadd, 1) := by decide +kernel
theorem dX9_trench_83 : decode cX9_trench 83 = .ok (.istore 6, 2) := by decide +kernel
theorem dX9_trench_85 : decode cX9_trench 85 = .ok (.aload 5, 2) := by decide +kernel
theorem dX9_trench_87 : decode cX9_trench 87 = .ok (.iload_n 1, 1) := by decide +kernel
theorem dX9_trench_88 : decode cX9_trench 88 = .ok (.iload_n 2, 1) := by decide +kernel
theorem dX9_trench_89 : decode cX9_trench 89 = .ok (.invokevirtual 137, 3) := by decide +kernel
theorem dX9_trench_92 : decode cX9_trench 92 = .ok (.ifCond .ne 7, 3) := by decide +kernel
theorem dX9_trench_95 : decode cX9_trench 95 = .ok (.iconst 1, 1) := by decide +kernel
theorem dX9_trench_96 : decode cX9_trench 96 = .ok (.goto 8, 3) := by decide +kernel
theorem dX9_trench_99 : decode cX9_trench 99 = .ok (.aload 5, 2) := by decide +kernel
theorem dX9_trench_101 : decode cX9_trench 101 = .ok (.getfield 144, 3) := by decide +kernel
theorem dX9_trench_104 : decode cX9_trench 104 = .ok (.istore 7, 2) := by decide +kernel
theorem dX9_trench_106 : decode cX9_trench 106 = .ok (.aload_n 0, 1) := by decide +kernel
theorem dX9_trench_107 : decode cX9_trench 107 = .ok (.getfield 12, 3) := by decide +kernel
theorem dX9_trench_110 : decode cX9_trench 110 = .ok (.getfield 58, 3) := by decide +kernel
theorem dX9_trench_113 : decode cX9_trench 113 = .ok (.iload_n 1, 1) := by decide +kernel
theorem dX9_trench_114 : decode cX9_trench 114 = .ok (.iload_n 1, 1) := by decide +kernel
theorem dX9_trench_115 : decode cX9_trench 115 = .ok (.iload_n 2, 1) := by decide +kernel
theorem dX9_trench_116 : decode cX9_trench 116 = .ok (.if_icmp .ge 8, 3) := by decide +kernel
theorem dX9_trench_119 : decode cX9_trench 119 = .ok (.iload 7, 2) := by decide +kernel
theorem dX9_trench_121 : decode cX9_trench 121 = .ok (.goto 6, 3) := by decide +kernel
theorem dX9_trench_124 : decode cX9_trench 124 = .ok (.iload 7, 2) := by decide +kernel
theorem dX9_trench_126 : decode cX9_trench 126 = .ok (.ineg, 1) := by decide +kernel
theorem dX9_trench_127 : decode cX9_trench 127 = .ok (.iload 6, 2) := by decide +kernel
theorem dX9_trench_129 : decode cX9_trench 129 = .ok (.iload_n 3, 1) := by decide +kernel
theorem dX9_trench_130 : decode cX9_trench 130 = .ok (.iload 4, 2) := by decide +kernel
theorem dX9_trench_132 : decode cX9_trench 132 = .ok (.invokevirtual 147, 3) := by decide +kernel
theorem dX9_trench_135 : decode cX9_trench 135 = .ok (.iload 6, 2) := by decide +kernel
theorem dX9_trench_137 : decode cX9_trench 137 = .ok (.ireturn, 1) := by decide +kernel
theorem dX9_pipe_0 : decode cX9_pipe 0 = .ok (.iload_n 1, 1) := by decide +kernel
theorem dX9_pipe_1 : decode cX9_pipe 1 = .ok (.iconst 0, 1) := by decide +kernel
theorem dX9_pipe_2 : decode cX9_pipe 2 = .ok (.iconst 3, 1) := by decide +kernel
theorem dX9_pipe_3 : decode cX9_pipe 3 = .ok (.invokestatic 44, 3) := by decide +kernel
theorem dX9_pipe_6 : decode cX9_pipe 6 = .ok (.ifCond .eq 27, 3) := by decide +kernel
theorem dX9_pipe_9 : decode cX9_pipe 9 = .ok (.iload_n 2, 1) := by decide +kernel
theorem dX9_pipe_10 : decode cX9_pipe 10 = .ok (.iconst 1, 1) := by decide +kernel
theorem dX9_pipe_11 : decode cX9_pipe 11 = .ok (.iconst 4, 1) := by decide +kernel
theorem dX9_pipe_12 : decode cX9_pipe 12 = .ok (.invokestatic 44, 3) := by decide +kernel
theorem dX9_pipe_15 : decode cX9_pipe 15 = .ok (.ifCond .eq 18, 3) := by decide +kernel
theorem dX9_pipe_18 : decode cX9_pipe 18 = .ok (.iload_n 1, 1) := by decide +kernel
theorem dX9_pipe_19 : decode cX9_pipe 19 = .ok (.iconst 2, 1) := by decide +kernel
theorem dX9_pipe_20 : decode cX9_pipe 20 = .ok (.if_icmp .ne 15, 3) := by decide +kernel
theorem dX9_pipe_23 : decode cX9_pipe 23 = .ok (.iload_n 3, 1) := by decide +kernel
theorem dX9_pipe_24 : decode cX9_pipe 24 = .ok (.iconst 1, 1) := by decide +kernel
theorem dX9_pipe_25 : decode cX9_pipe 25 = .ok (.bipush 100, 2) := by decide +kernel
theorem dX9_pipe_27 : decode cX9_pipe 27 = .ok (.invokestatic 44, 3) := by decide +kernel
theorem dX9_pipe_30 : decode cX9_pipe 30 = .ok (.ifCond .ne 5, 3) := by decide +kernel
theorem dX9_pipe_33 : decode cX9_pipe 33 = .ok (.iconst (-1), 1) := by decide +kernel
theorem dX9_pipe_34 : decode cX9_pipe 34 = .ok (.ireturn, 1) := by decide +kernel
theorem dX9_pipe_35 : decode cX9_pipe 35 = .ok (.aload_n 0, 1) := by decide +kernel
theorem dX9_pipe_36 : decode cX9_pipe 36 = .ok (.getfield 12, 3) := by decide +kernel
theorem dX9_pipe_39 : decode cX9_pipe 39 = .ok (.getfield 58, 3) := by decide +kernel
theorem dX9_pipe_42 : decode cX9_pipe 42 = .ok (.getfield 151, 3) := by decide +kernel
theorem dX9_pipe_45 : decode cX9_pipe 45 = .ok (.ifCond .ne 6, 3) := by decide +kernel
theorem dX9_pipe_48 : decode cX9_pipe 48 = .ok (.bipush (-6), 2) := by decide +kernel
theorem dX9_pipe_50 : decode cX9_pipe 50 = .ok (.ireturn, 1) := by decide +kernel
theorem dX9_pipe_51 : decode cX9_pipe 51 = .ok (.aload_n 0, 1) := by decide +kernel
theorem dX9_pipe_52 : decode cX9_pipe 52 = .ok (.getfield 12, 3) := by decide +kernel
theorem dX9_pipe_55 : decode cX9_pipe 55 = .ok (.getfield 48, 3) := by decide +kernel
theorem dX9_pipe_58 : decode cX9_pipe 58 = .ok (.aload_n 0, 1) := by decide +kernel
theorem dX9_pipe_59 : decode cX9_pipe 59 = .ok (.getfield 12, 3) := by decide +kernel
theorem dX9_pipe_62 : decode cX9_pipe 62 = .ok (.getfield 58, 3) := by decide +kernel
theorem dX9_pipe_65 : decode cX9_pipe 65 = .ok (.invokevirtual 154, 3) := by decide +kernel
theorem dX9_pipe_68 : decode cX9_pipe 68 = .ok (.istore 4, 2) := by decide +kernel
theorem dX9_pipe_70 : decode cX9_pipe 70 = .ok (.iload 4, 2) := by decide +kernel
theorem dX9_pipe_72 : decode cX9_pipe 72 = .ok (.ifCond .lt 9, 3) := by decide +kernel
theorem dX9_pipe_75 : decode cX9_pipe 75 = .ok (.bipush (-100), 2) := by decide +kernel
theorem dX9_pipe_77 : decode cX9_pipe 77 = .ok (.iload 4, 2) := by decide +kernel
theorem dX9_pipe_79 : decode cX9_pipe 79 = .ok (.isub, 1) := by decide +kernel
theorem dX9_pipe_80 : decode cX9_pipe 80 = .ok (.ireturn, 1) := by decide +kernel
theorem dX9_pipe_81 : decode cX9_pipe 81 = .ok (.aload_n 0, 1) := by decide +kernel
theorem dX9_pipe_82 : decode cX9_pipe 82 = .ok (.getfield 12, 3) := by decide +kernel
theorem dX9_pipe_85 : decode cX9_pipe 85 = .ok (.getfield 67, 3) := by decide +kernel
theorem dX9_pipe_88 : decode cX9_pipe 88 = .ok (.getfield 71, 3) := by decide +kernel
theorem dX9_pipe_91 : decode cX9_pipe 91 = .ok (.bipush 20, 2) := by decide +kernel
theorem dX9_pipe_93 : decode cX9_pipe 93 = .ok (.if_icmp .lt 6, 3) := by decide +kernel
theorem dX9_pipe_96 : decode cX9_pipe 96 = .ok (.bipush (-2), 2) := by decide +kernel
theorem dX9_pipe_98 : decode cX9_pipe 98 = .ok (.ireturn, 1) := by decide +kernel
theorem dX9_pipe_99 : decode cX9_pipe 99 = .ok (.aload_n 0, 1) := by decide +kernel
theorem dX9_pipe_100 : decode cX9_pipe 100 = .ok (.getfield 12, 3) := by decide +kernel
theorem dX9_pipe_103 : decode cX9_pipe 103 = .ok (.getfield 67, 3) := by decide +kernel
theorem dX9_pipe_106 : decode cX9_pipe 106 = .ok (.getfield 71, 3) := by decide +kernel
theorem dX9_pipe_109 : decode cX9_pipe 109 = .ok (.istore 5, 2) := by decide +kernel
theorem dX9_pipe_111 : decode cX9_pipe 111 = .ok (.aload_n 0, 1) := by decide +kernel
theorem dX9_pipe_112 : decode cX9_pipe 112 = .ok (.getfield 12, 3) := by decide +kernel
theorem dX9_pipe_115 : decode cX9_pipe 115 = .ok (.getfield 67, 3) := by decide +kernel
theorem dX9_pipe_118 : decode cX9_pipe 118 = .ok (.getfield 158, 3) := by decide +kernel
theorem dX9_pipe_121 : decode cX9_pipe 121 = .ok (.iload 5, 2) := by decide +kernel
theorem dX9_pipe_123 : decode cX9_pipe 123 = .ok (.aaload, 1) := by decide +kernel
theorem dX9_pipe_124 : decode cX9_pipe 124 = .ok (.aload_n 0, 1) := by decide +kernel
theorem dX9_pipe_125 : decode cX9_pipe 125 = .ok (.getfield 12, 3) := by decide +kernel
theorem dX9_pipe_128 : decode cX9_pipe 128 = .ok (.getfield 58, 3) := by decide +kernel
theorem dX9_pipe_131 : decode cX9_pipe 131 = .ok (.iload_n 1, 1) := by decide +kernel
theorem dX9_pipe_132 : decode cX9_pipe 132 = .ok (.iload_n 2, 1) := by decide +kernel
theorem dX9_pipe_133 : decode cX9_pipe 133 = .ok (.invokevirtual 162, 3) := by decide +kernel
theorem dX9_pipe_136 : decode cX9_pipe 136 = .ok (.aload_n 0, 1) := by decide +kernel
theorem dX9_pipe_137 : decode cX9_pipe 137 = .ok (.getfield 12, 3) := by decide +kernel
theorem dX9_pipe_140 : decode cX9_pipe 140 = .ok (.getfield 77, 3) := by decide +kernel
theorem dX9_pipe_143 : decode cX9_pipe 143 = .ok (.getfield 168, 3) := by decide +kernel
theorem dX9_pipe_146 : decode cX9_pipe 146 = .ok (.iload 5, 2) := by decide +kernel
theorem dX9_pipe_148 : decode cX9_pipe 148 = .ok (.iload_n 1, 1) := by decide +kernel
theorem dX9_pipe_149 : decode cX9_pipe 149 = .ok (.iconst 2, 1) := by decide +kernel
theorem dX9_pipe_150 : decode cX9_pipe 150 = .ok (.if_icmp .ne 7, 3) := by decide +kernel
theorem dX9_pipe_153 : decode cX9_pipe 153 = .ok (.iload_n 3, 1) := by decide +kernel
theorem dX9_pipe_154 : decode cX9_pipe 154 = .ok (.goto 4, 3) := by decide +kernel
theorem dX9_pipe_157 : decode cX9_pipe 157 = .ok (.iconst 0, 1) := by decide +kernel
theorem dX9_pipe_158 : decode cX9_pipe 158 = .ok (.iastore, 1) := by decide +kernel
theorem dX9_pipe_159 : decode cX9_pipe 159 = .ok (.aload_n 0, 1) := by decide +kernel
theorem dX9_pipe_160 : decode cX9_pipe 160 = .ok (.getfield 12, 3) := by decide +kernel
theorem dX9_pipe_163 : decode cX9_pipe 163 = .ok (.getfield 67, 3) := by decide +kernel
theorem dX9_pipe_166 : decode cX9_pipe 166 = .ok (.iload 5, 2) := by decide +kernel
theorem dX9_pipe_168 : decode cX9_pipe 168 = .ok (.iconst 1, 1) := by decide +kernel
theorem dX9_pipe_169 : decode cX9_pipe 169 = .ok (.iadd, 1) := by decide +kernel
theorem dX9_pipe_170 : decode cX9_pipe 170 = .ok (.putfield 71, 3) := by decide +kernel
theorem dX9_pipe_173 : decode cX9_pipe 173 = .ok (.iload 5, 2) := by decide +kernel
theorem dX9_pipe_175 : decode cX9_pipe 175 = .ok (.ireturn, 1) := by decide +kernel
