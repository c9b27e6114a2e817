theorem dX0_init_0 : decode cX0_init 0 = .ok (.aload_n 0, 1) := by decide +kernel
theorem dX0_init_1 : decode cX0_init 1 = .ok (.invokespecial 1, 3) := by decide +kernel
theorem dX0_init_4 : decode cX0_init 4 = .ok (.return_, 1) := by decide +kernel
theorem dX0_drops_0 : decode cX0_drops 0 = .ok (.iload_n 1, 1) := by decide +kernel
theorem dX0_drops_1 : decode cX0_drops 1 = .ok (.iconst 1, 1) := by decide +kernel
theorem dX0_drops_2 : decode cX0_drops 2 = .ok (.if_icmp .ne 9, 3) := by decide +kernel
theorem dX0_drops_5 : decode cX0_drops 5 = .ok (.iload_n 2, 1) := by decide +kernel
theorem dX0_drops_6 : decode cX0_drops 6 = .ok (.iconst 2, 1) := by decide +kernel
theorem dX0_drops_7 : decode cX0_drops 7 = .ok (.idiv, 1) := by decide +kernel
theorem dX0_drops_8 : decode cX0_drops 8 = .ok (.goto 10, 3) := by decide +kernel
theorem dX0_drops_11 : decode cX0_drops 11 = .ok (.aload_n 0, 1) := by decide +kernel
theorem dX0_drops_12 : decode cX0_drops 12 = .ok (.iload_n 1, 1) := by decide +kernel
theorem dX0_drops_13 : decode cX0_drops 13 = .ok (.iload_n 2, 1) := by decide +kernel
theorem dX0_drops_14 : decode cX0_drops 14 = .ok (.iload_n 3, 1) := by decide +kernel
theorem dX0_drops_15 : decode cX0_drops 15 = .ok (.invokespecial 7, 3) := by decide +kernel
theorem dX0_drops_18 : decode cX0_drops 18 = .ok (.ireturn, 1) := by decide +kernel
theorem dX0_feels_0 : decode cX0_feels 0 = .ok (.aload_n 0, 1) := by decide +kernel
theorem dX0_feels_1 : decode cX0_feels 1 = .ok (.iload_n 1, 1) := by decide +kernel
theorem dX0_feels_2 : decode cX0_feels 2 = .ok (.iload_n 2, 1) := by decide +kernel
theorem dX0_feels_3 : decode cX0_feels 3 = .ok (.invokespecial 11, 3) := by decide +kernel
theorem dX0_feels_6 : decode cX0_feels 6 = .ok (.iload_n 2, 1) := by decide +kernel
theorem dX0_feels_7 : decode cX0_feels 7 = .ok (.iadd, 1) := by decide +kernel
theorem dX0_feels_8 : decode cX0_feels 8 = .ok (.ireturn, 1) := by decide +kernel
theorem dX0_isOf_0 : decode cX0_isOf 0 = .ok (.iload_n 1, 1) := by decide +kernel
theorem dX0_isOf_1 : decode cX0_isOf 1 = .ok (.iconst 1, 1) := by decide +kernel
theorem dX0_isOf_2 : decode cX0_isOf 2 = .ok (.if_icmp .eq 11, 3) := by decide +kernel
theorem dX0_isOf_5 : decode cX0_isOf 5 = .ok (.aload_n 0, 1) := by decide +kernel
theorem dX0_isOf_6 : decode cX0_isOf 6 = .ok (.iload_n 1, 1) := by decide +kernel
theorem dX0_isOf_7 : decode cX0_isOf 7 = .ok (.invokespecial 15, 3) := by decide +kernel
theorem dX0_isOf_10 : decode cX0_isOf 10 = .ok (.ifCond .eq 7, 3) := by decide +kernel
theorem dX0_isOf_13 : decode cX0_isOf 13 = .ok (.iconst 1, 1) := by decide +kernel
theorem dX0_isOf_14 : decode cX0_isOf 14 = .ok (.goto 4, 3) := by decide +kernel
theorem dX0_isOf_17 : decode cX0_isOf 17 = .ok (.iconst 0, 1) := by decide +kernel
theorem dX0_isOf_18 : decode cX0_isOf 18 = .ok (.ireturn, 1) := by decide +kernel
theorem dX1_init_0 : decode cX1_init 0 = .ok (.aload_n 0, 1) := by decide +kernel
theorem dX1_init_1 : decode cX1_init 1 = .ok (.invokespecial 1, 3) := by decide +kernel
theorem dX1_init_4 : decode cX1_init 4 = .ok (.return_, 1) := by decide +kernel
theorem dX1_drops_0 : decode cX1_drops 0 = .ok (.iconst 0, 1) := by decide +kernel
theorem dX1_drops_1 : decode cX1_drops 1 = .ok (.ireturn, 1) := by decide +kernel
theorem dX1_wears_0 : decode cX1_wears 0 = .ok (.aload_n 0, 1) := by decide +kernel
theorem dX1_wears_1 : decode cX1_wears 1 = .ok (.iload_n 1, 1) := by decide +kernel
theorem dX1_wears_2 : decode cX1_wears 2 = .ok (.iload_n 2, 1) := by decide +kernel
theorem dX1_wears_3 : decode cX1_wears 3 = .ok (.iload_n 3, 1) := by decide +kernel
theorem dX1_wears_4 : decode cX1_wears 4 = .ok (.invokespecial 7, 3) := by decide +kernel
theorem dX1_wears_7 : decode cX1_wears 7 = .ok (.iload_n 2, 1) := by decide +kernel
theorem dX1_wears_8 : decode cX1_wears 8 = .ok (.iadd, 1) := by decide +kernel
theorem dX1_wears_9 : decode cX1_wears 9 = .ok (.ireturn, 1) := by decide +kernel
theorem dX1_feels_0 : decode cX1_feels 0 = .ok (.iload_n 1, 1) := by decide +kernel
theorem dX1_feels_1 : decode cX1_feels 1 = .ok (.bipush 10, 2) := by decide +kernel
theorem dX1_feels_3 : decode cX1_feels 3 = .ok (.if_icmp .ge 7, 3) := by decide +kernel
theorem dX1_feels_6 : decode cX1_feels 6 = .ok (.iconst 0, 1) := by decide +kernel
theorem dX1_feels_7 : decode cX1_feels 7 = .ok (.goto 9, 3) := by decide +kernel
theorem dX1_feels_10 : decode cX1_feels 10 = .ok (.aload_n 0, 1) := by decide +kernel
theorem dX1_feels_11 : decode cX1_feels 11 = .ok (.iload_n 1, 1) := by decide +kernel
theorem dX1_feels_12 : decode cX1_feels 12 = .ok (.iload_n 2, 1) := by decide +kernel
theorem dX1_feels_13 : decode cX1_feels 13 = .ok (.invokespecial 11, 3) := by decide +kernel
theorem dX1_feels_16 : decode cX1_feels 16 = .ok (.ireturn, 1) := by decide +kernel
theorem dX1_isOf_0 : decode cX1_isOf 0 = .ok (.iload_n 1, 1) := by decide +kernel
theorem dX1_isOf_1 : decode cX1_isOf 1 = .ok (.iconst 5, 1) := by decide +kernel
theorem dX1_isOf_2 : decode cX1_isOf 2 = .ok (.if_icmp .eq 11, 3) := by decide +kernel
theorem dX1_isOf_5 : decode cX1_isOf 5 = .ok (.aload_n 0, 1) := by decide +kernel
theorem dX1_isOf_6 : decode cX1_isOf 6 = .ok (.iload_n 1, 1) := by decide +kernel
theorem dX1_isOf_7 : decode cX1_isOf 7 = .ok (.invokespecial 15, 3) := by decide +kernel
theorem dX1_isOf_10 : decode cX1_isOf 10 = .ok (.ifCond .eq 7, 3) := by decide +kernel
theorem dX1_isOf_13 : decode cX1_isOf 13 = .ok (.iconst 1, 1) := by decide +kernel
theorem dX1_isOf_14 : decode cX1_isOf 14 = .ok (.goto 4, 3) := by decide +kernel
theorem dX1_isOf_17 : decode cX1_isOf 17 = .ok (.iconst 0, 1) := by decide +kernel
theorem dX1_isOf_18 : decode cX1_isOf 18 = .ok (.ireturn, 1) := by decide +kernel
theorem dX2_init_0 : decode cX2_init 0 = .ok (.aload_n 0, 1) := by decide +kernel
theorem dX2_init_1 : decode cX2_init 1 = .ok (.invokespecial 1, 3) := by decide +kernel
theorem dX2_init_4 : decode cX2_init 4 = .ok (.return_, 1) := by decide +kernel
theorem dX2_drops_0 : decode cX2_drops 0 = .ok (.iload_n 1, 1) := by decide +kernel
theorem dX2_drops_1 : decode cX2_drops 1 = .ok (.ifCond .ne 11, 3) := by decide +kernel
theorem dX2_drops_4 : decode cX2_drops 4 = .ok (.iload_n 2, 1) := by decide +kernel
theorem dX2_drops_5 : decode cX2_drops 5 = .ok (.ifCond .le 7, 3) := by decide +kernel
theorem dX2_drops_8 : decode cX2_drops 8 = .ok (.iconst 1, 1) := by decide +kernel
theorem dX2_drops_9 : decode cX2_drops 9 = .ok (.goto 4, 3) := by decide +kernel
theorem dX2_drops_12 : decode cX2_drops 12 = .ok (.iconst 0, 1) := by decide +kernel
theorem dX2_drops_13 : decode cX2_drops 13 = .ok (.ireturn, 1) := by decide +kernel
theorem dX2_wears_0 : decode cX2_wears 0 = .ok (.aload_n 0, 1) := by decide +kernel
theorem dX2_wears_1 : decode cX2_wears 1 = .ok (.iload_n 1, 1) := by decide +kernel
theorem dX2_wears_2 : decode cX2_wears 2 = .ok (.iload_n 2, 1) := by decide +kernel
theorem dX2_wears_3 : decode cX2_wears 3 = .ok (.iload_n 3, 1) := by decide +kernel
theorem dX2_wears_4 : decode cX2_wears 4 = .ok (.invokespecial 7, 3) := by decide +kernel
theorem dX2_wears_7 : decode cX2_wears 7 = .ok (.iconst 2, 1) := by decide +kernel
theorem dX2_wears_8 : decode cX2_wears 8 = .ok (.idiv, 1) := by decide +kernel
theorem dX2_wears_9 : decode cX2_wears 9 = .ok (.ireturn, 1) := by decide +kernel
theorem dX2_feels_0 : decode cX2_feels 0 = .ok (.iconst 2, 1) := by decide +kernel
theorem dX2_feels_1 : decode cX2_feels 1 = .ok (.aload_n 0, 1) := by decide +kernel
theorem dX2_feels_2 : decode cX2_feels 2 = .ok (.iload_n 1, 1) := by decide +kernel
theorem dX2_feels_3 : decode cX2_feels 3 = .ok (.iload_n 2, 1) := by decide +kernel
theorem dX2_feels_4 : decode cX2_feels 4 = .ok (.invokespecial 11, 3) := by decide +kernel
theorem dX2_feels_7 : decode cX2_feels 7 = .ok (.imul, 1) := by decide +kernel
theorem dX2_feels_8 : decode cX2_feels 8 = .ok (.ireturn, 1) := by decide +kernel
theorem dX2_isOf_0 : decode cX2_isOf 0 = .ok (.iload_n 1, 1) := by decide +kernel
theorem dX2_isOf_1 : decode cX2_isOf 1 = .ok (.iconst 2, 1) := by decide +kernel
theorem dX2_isOf_2 : decode cX2_isOf 2 = .ok (.if_icmp .eq 11, 3) := by decide +kernel
theorem dX2_isOf_5 : decode cX2_isOf 5 = .ok (.aload_n 0, 1) := by decide +kernel
theorem dX2_isOf_6 : decode cX2_isOf 6 = .ok (.iload_n 1, 1) := by decide +kernel
theorem dX2_isOf_7 : decode cX2_isOf 7 = .ok (.invokespecial 15, 3) := by decide +kernel
theorem dX2_isOf_10 : decode cX2_isOf 10 = .ok (.ifCond .eq 7, 3) := by decide +kernel
theorem dX2_isOf_13 : decode cX2_isOf 13 = .ok (.iconst 1, 1) := by decide +kernel
theorem dX2_isOf_14 : decode cX2_isOf 14 = .ok (.goto 4, 3) := by decide +kernel
theorem dX2_isOf_17 : decode cX2_isOf 17 = .ok (.iconst 0, 1) := by decide +kernel
theorem dX2_isOf_18 : decode cX2_isOf 18 = .ok (.ireturn, 1) := by decide +kernel
theorem dX3_init_0 : decode cX3_init 0 = .ok (.aload_n 0, 1) := by decide +kernel
theorem dX3_init_1 : decode cX3_init 1 = .ok (.invokespecial 1, 3) := by decide +kernel
theorem dX3_init_4 : decode cX3_init 4 = .ok (.return_, 1) := by decide +kernel
theorem dX3_drops_0 : decode cX3_drops 0 = .ok (.iload_n 1, 1) := by decide +kernel
theorem dX3_drops_1 : decode cX3_drops 1 = .ok (.ifCond .ne 7, 3) := by decide +kernel
theorem dX3_drops_4 : decode cX3_drops 4 = .ok (.iload_n 2, 1) := by decide +kernel
theorem dX3_drops_5 : decode cX3_drops 5 = .ok (.goto 4, 3) := by decide +kernel
theorem dX3_drops_8 : decode cX3_drops 8 = .ok (.iconst 0, 1) := by decide +kernel
theorem dX3_drops_9 : decode cX3_drops 9 = .ok (.ireturn, 1) := by decide +kernel
theorem dX3_wears_0 : decode cX3_wears 0 = .ok (.iload_n 1, 1) := by decide +kernel
theorem dX3_wears_1 : decode cX3_wears 1 = .ok (.ireturn, 1) := by decide +kernel
theorem dX3_feels_0 : decode cX3_feels 0 = .ok (.iload_n 1, 1) := by decide +kernel
theorem dX3_feels_1 : decode cX3_feels 1 = .ok (.ireturn, 1) := by decide +kernel
theorem dX3_isOf_0 : decode cX3_isOf 0 = .ok (.iload_n 1, 1) := by decide +kernel
theorem dX3_isOf_1 : decode cX3_isOf 1 = .ok (.ifCond .ne 7, 3) := by decide +kernel
theorem dX3_isOf_4 : decode cX3_isOf 4 = .ok (.iconst 1, 1) := by decide +kernel
theorem dX3_isOf_5 : decode cX3_isOf 5 = .ok (.goto 4, 3) := by decide +kernel
theorem dX3_isOf_8 : decode cX3_isOf 8 = .ok (.iconst 0, 1) := by decide +kernel
theorem dX3_isOf_9 : decode cX3_isOf 9 = .ok (.ireturn, 1) := by decide +kernel
theorem dX4_init_0 : decode cX4_init 0 = .ok (.aload_n 0, 1) := by decide +kernel
theorem dX4_init_1 : decode cX4_init 1 = .ok (.invokespecial 3, 3) := by decide +kernel
theorem dX4_init_4 : decode cX4_init 4 = .ok (.aload_n 0, 1) := by decide +kernel
theorem dX4_init_5 : decode cX4_init 5 = .ok (.sipush 160, 3) := by decide +kernel
theorem dX4_init_8 : decode cX4_init 8 = .ok (.newarray .int, 2) := by decide +kernel
theorem dX4_init_10 : decode cX4_init 10 = .ok (.putfield 9, 3) := by decide +kernel
theorem dX4_init_13 : decode cX4_init 13 = .ok (.aload_n 0, 1) := by decide +kernel
theorem dX4_init_14 : decode cX4_init 14 = .ok (.sipush 160, 3) := by decide +kernel
theorem dX4_init_17 : decode cX4_init 17 = .ok (.newarray .int, 2) := by decide +kernel
theorem dX4_init_19 : decode cX4_init 19 = .ok (.putfield 15, 3) := by decide +kernel
theorem dX4_init_22 : decode cX4_init 22 = .ok (.aload_n 0, 1) := by decide +kernel
theorem dX4_init_23 : decode cX4_init 23 = .ok (.iconst 3, 1) := by decide +kernel
theorem dX4_init_24 : decode cX4_init 24 = .ok (.newarray .int, 2) := by decide +kernel
theorem dX4_init_26 : decode cX4_init 26 = .ok (.putfield 18, 3) := by decide +kernel
theorem dX4_init_29 : decode cX4_init 29 = .ok (.return_, 1) := by decide +kernel
theorem dX4_append_0 : decode cX4_append 0 = .ok (.aload_n 0, 1) := by decide +kernel
theorem dX4_append_1 : decode cX4_append 1 = .ok (.getfield 21, 3) := by decide +kernel
theorem dX4_append_4 : decode cX4_append 4 = .ok (.sipush 160, 3) := by decide +kernel
theorem dX4_append_7 : decode cX4_append 7 = .ok (.if_icmp .ge 23, 3) := by decide +kernel
theorem dX4_append_10 : decode cX4_append 10 = .ok (.aload_n 0, 1) := by decide +kernel
theorem dX4_append_11 : decode cX4_append 11 = .ok (.getfield 9, 3) := by decide +kernel
theorem dX4_append_14 : decode cX4_append 14 = .ok (.aload_n 0, 1) := by decide +kernel
theorem dX4_append_15 : decode cX4_append 15 = .ok (.getfield 21, 3) := by decide +kernel
theorem dX4_append_18 : decode cX4_append 18 = .ok (.iload_n 1, 1) := by decide +kernel
theorem dX4_append_19 : decode cX4_append 19 = .ok (.iastore, 1) := by decide +kernel
theorem dX4_append_20 : decode cX4_append 20 = .ok (.aload_n 0, 1) := by decide +kernel
theorem dX4_append_21 : decode cX4_append 21 = .ok (.dup, 1) := by decide +kernel
theorem dX4_append_22 : decode cX4_append 22 = .ok (.getfield 21, 3) := by decide +kernel
theorem dX4_append_25 : decode cX4_append 25 = .ok (.iconst 1, 1) := by decide +kernel
theorem dX4_append_26 : decode cX4_append 26 = .ok (.iadd, 1) := by decide +kernel
theorem dX4_append_27 : decode cX4_append 27 = .ok (.putfield 21, 3) := by decide +kernel
theorem dX4_append_30 : decode cX4_append 30 = .ok (.return_, 1) := by decide +kernel
theorem dX4_readText_0 : decode cX4_readText 0 = .ok (.aload_n 0, 1) := by decide +kernel
theorem dX4_readText_1 : decode cX4_readText 1 = .ok (.iconst 0, 1) := by decide +kernel
theorem dX4_readText_2 : decode cX4_readText 2 = .ok (.putfield 25, 3) := by decide +kernel
theorem dX4_readText_5 : decode cX4_readText 5 = .ok (.aload_n 0, 1) := by decide +kernel
theorem dX4_readText_6 : decode cX4_readText 6 = .ok (.iconst 0, 1) := by decide +kernel
theorem dX4_readText_7 : decode cX4_readText 7 = .ok (.putfield 28, 3) := by decide +kernel
theorem dX4_readText_10 : decode cX4_readText 10 = .ok (.aload_n 0, 1) := by decide +kernel
theorem dX4_readText_11 : decode cX4_readText 11 = .ok (.invokevirtual 31, 3) := by decide +kernel
theorem dX4_readText_14 : decode cX4_readText 14 = .ok (.iconst 0, 1) := by decide +kernel
theorem dX4_readText_15 : decode cX4_readText 15 = .ok (.istore_n 1, 1) := by decide +kernel
theorem dX4_readText_16 : decode cX4_readText 16 = .ok (.iload_n 1, 1) := by decide +kernel
theorem dX4_readText_17 : decode cX4_readText 17 = .ok (.iconst 3, 1) := by decide +kernel
theorem dX4_readText_18 : decode cX4_readText 18 = .ok (.if_icmp .ge 50, 3) := by decide +kernel
theorem dX4_readText_21 : decode cX4_readText 21 = .ok (.aload_n 0, 1) := by decide +kernel
theorem dX4_readText_22 : decode cX4_readText 22 = .ok (.iconst 4, 1) := by decide +kernel
theorem dX4_readText_23 : decode cX4_readText 23 = .ok (.iload_n 1, 1) := by decide +kernel
theorem dX4_readText_24 : decode cX4_readText 24 = .ok (.iadd, 1) := by decide +kernel
theorem dX4_readText_25 : decode cX4_readText 25 = .ok (.invokevirtual 34, 3) := by decide +kernel
theorem dX4_readText_28 : decode cX4_readText 28 = .ok (.ifCond .ne 5, 3) := by decide +kernel
theorem dX4_readText_31 : decode cX4_readText 31 = .ok (.iconst 0, 1) := by decide +kernel
theorem dX4_readText_32 : decode cX4_readText 32 = .ok (.ireturn, 1) := by decide +kernel
theorem dX4_readText_33 : decode cX4_readText 33 = .ok (.aload_n 0, 1) := by decide +kernel
theorem dX4_readText_34 : decode cX4_readText 34 = .ok (.getfield 18, 3) := by decide +kernel
theorem dX4_readText_37 : decode cX4_readText 37 = .ok (.iload_n 1, 1) := by decide +kernel
theorem dX4_readText_38 : decode cX4_readText 38 = .ok (.aload_n 0, 1) := by decide +kernel
theorem dX4_readText_39 : decode cX4_readText 39 = .ok (.getfield 25, 3) := by decide +kernel
theorem dX4_readText_42 : decode cX4_readText 42 = .ok (.iastore, 1) := by decide +kernel
theorem dX4_readText_43 : decode cX4_readText 43 = .ok (.aload_n 0, 1) := by decide +kernel
theorem dX4_readText_44 : decode cX4_readText 44 = .ok (.iconst 0, 1) := by decide +kernel
theorem dX4_readText_45 : decode cX4_readText 45 = .ok (.invokevirtual 38, 3) := by decide +kernel
theorem dX4_readText_48 : decode cX4_readText 48 = .ok (.ifCond .eq 12, 3) := by decide +kernel
theorem dX4_readText_51 : decode cX4_readText 51 = .ok (.aload_n 0, 1) := by decide +kernel
theorem dX4_readText_52 : decode cX4_readText 52 = .ok (.bipush 59, 2) := by decide +kernel
theorem dX4_readText_54 : decode cX4_readText 54 = .ok (.invokevirtual 34, 3) := by decide +kernel
theorem dX4_readText_57 : decode cX4_readText 57 = .ok (.ifCond .ne 5, 3) := by decide +kernel
theorem dX4_readText_60 : decode cX4_readText 60 = .ok (.iconst 0, 1) := by decide +kernel
theorem dX4_readText_61 : decode cX4_readText 61 = .ok (.ireturn, 1) := by decide +kernel
theorem dX4_readText_62 : decode cX4_readText 62 = .ok (.iinc 1 1, 3) := by decide +kernel
theorem dX4_readText_65 : decode cX4_readText 65 = .ok (.goto (-49), 3) := by decide +kernel
theorem dX4_readText_68 : decode cX4_readText 68 = .ok (.aload_n 0, 1) := by decide +kernel
theorem dX4_readText_69 : decode cX4_readText 69 = .ok (.getfield 41, 3) := by decide +kernel
theorem dX4_readText_72 : decode cX4_readText 72 = .ok (.ifCond .ne 7, 3) := by decide +kernel
theorem dX4_readText_75 : decode cX4_readText 75 = .ok (.iconst 1, 1) := by decide +kernel
theorem dX4_readText_76 : decode cX4_readText 76 = .ok (.goto 4, 3) := by decide +kernel
theorem dX4_readText_79 : decode cX4_readText 79 = .ok (.iconst 0, 1) := by decide +kernel
theorem dX4_readText_80 : decode cX4_readText 80 = .ok (.ireturn, 1) := by decide +kernel
theorem dX4_readOr_0 : decode cX4_readOr 0 = .ok (.aload_n 0, 1) := by decide +kernel
theorem dX4_readOr_1 : decode cX4_readOr 1 = .ok (.iload_n 1, 1) := by decide +kernel
theorem dX4_readOr_2 : decode cX4_readOr 2 = .ok (.invokevirtual 44, 3) := by decide +kernel
theorem dX4_readOr_5 : decode cX4_readOr 5 = .ok (.ifCond .ne 5, 3) := by decide +kernel
theorem dX4_readOr_8 : decode cX4_readOr 8 = .ok (.iconst 0, 1) := by decide +kernel
theorem dX4_readOr_9 : decode cX4_readOr 9 = .ok (.ireturn, 1) := by decide +kernel
theorem dX4_readOr_10 : decode cX4_readOr 10 = .ok (.iconst 0, 1) := by decide +kernel
theorem dX4_readOr_11 : decode cX4_readOr 11 = .ok (.istore_n 2, 1) := by decide +kernel
theorem dX4_readOr_12 : decode cX4_readOr 12 = .ok (.iload_n 2, 1) := by decide +kernel
theorem dX4_readOr_13 : decode cX4_readOr 13 = .ok (.sipush 160, 3) := by decide +kernel
theorem dX4_readOr_16 : decode cX4_readOr 16 = .ok (.if_icmp .ge 38, 3) := by decide +kernel
theorem dX4_readOr_19 : decode cX4_readOr 19 = .ok (.aload_n 0, 1) := by decide +kernel
theorem dX4_readOr_20 : decode cX4_readOr 20 = .ok (.getfield 41, 3) := by decide +kernel
theorem dX4_readOr_23 : decode cX4_readOr 23 = .ok (.bipush 7, 2) := by decide +kernel
theorem dX4_readOr_25 : decode cX4_readOr 25 = .ok (.if_icmp .ne 29, 3) := by decide +kernel
theorem dX4_readOr_28 : decode cX4_readOr 28 = .ok (.aload_n 0, 1) := by decide +kernel
theorem dX4_readOr_29 : decode cX4_readOr 29 = .ok (.invokevirtual 31, 3) := by decide +kernel
theorem dX4_readOr_32 : decode cX4_readOr 32 = .ok (.aload_n 0, 1) := by decide +kernel
theorem dX4_readOr_33 : decode cX4_readOr 33 = .ok (.iload_n 1, 1) := by decide +kernel
theorem dX4_readOr_34 : decode cX4_readOr 34 = .ok (.invokevirtual 44, 3) := by decide +kernel
theorem dX4_readOr_37 : decode cX4_readOr 37 = .ok (.ifCond .ne 5, 3) := by decide +kernel
theorem dX4_readOr_40 : decode cX4_readOr 40 = .ok (.iconst 0, 1) := by decide +kernel
theorem dX4_readOr_41 : decode cX4_readOr 41 = .ok (.ireturn, 1) := by decide +kernel
theorem dX4_readOr_42 : decode cX4_readOr 42 = .ok (.aload_n 0, 1) := by decide +kernel
theorem dX4_readOr_43 : decode cX4_readOr 43 = .ok (.bipush (-7), 2) := by decide +kernel
theorem dX4_readOr_45 : decode cX4_readOr 45 = .ok (.invokevirtual 47, 3) := by decide +kernel
theorem dX4_readOr_48 : decode cX4_readOr 48 = .ok (.iinc 2 1, 3) := by decide +kernel
theorem dX4_readOr_51 : decode cX4_readOr 51 = .ok (.goto (-39), 3) := by decide +kernel
theorem dX4_readOr_54 : decode cX4_readOr 54 = .ok (.iconst 1, 1) := by decide +kernel
theorem dX4_readOr_55 : decode cX4_readOr 55 = .ok (.ireturn, 1) := by decide +kernel
theorem dX4_readAnd_0 : decode cX4_readAnd 0 = .ok (.aload_n 0, 1) := by decide +kernel
theorem dX4_readAnd_1 : decode cX4_readAnd 1 = .ok (.iload_n 1, 1) := by decide +kernel
theorem dX4_readAnd_2 : decode cX4_readAnd 2 = .ok (.invokevirtual 51, 3) := by decide +kernel
theorem dX4_readAnd_5 : decode cX4_readAnd 5 = .ok (.ifCond .ne 5, 3) := by decide +kernel
theorem dX4_readAnd_8 : decode cX4_readAnd 8 = .ok (.iconst 0, 1) := by decide +kernel
theorem dX4_readAnd_9 : decode cX4_readAnd 9 = .ok (.ireturn, 1) := by decide +kernel
theorem dX4_readAnd_10 : decode cX4_readAnd 10 = .ok (.iconst 0, 1) := by decide +kernel
theorem dX4_readAnd_11 : decode cX4_readAnd 11 = .ok (.istore_n 2, 1) := by decide +kernel
theorem dX4_readAnd_12 : decode cX4_readAnd 12 = .ok (.iload_n 2, 1) := by decide +kernel
theorem dX4_readAnd_13 : decode cX4_readAnd 13 = .ok (.sipush 160, 3) := by decide +kernel
theorem dX4_readAnd_16 : decode cX4_readAnd 16 = .ok (.if_icmp .ge 38, 3) := by decide +kernel
theorem dX4_readAnd_19 : decode cX4_readAnd 19 = .ok (.aload_n 0, 1) := by decide +kernel
theorem dX4_readAnd_20 : decode cX4_readAnd 20 = .ok (.getfield 41, 3) := by decide +kernel
theorem dX4_readAnd_23 : decode cX4_readAnd 23 = .ok (.bipush 8, 2) := by decide +kernel
theorem dX4_readAnd_25 : decode cX4_readAnd 25 = .ok (.if_icmp .ne 29, 3) := by decide +kernel
theorem dX4_readAnd_28 : decode cX4_readAnd 28 = .ok (.aload_n 0, 1) := by decide +kernel
theorem dX4_readAnd_29 : decode cX4_readAnd 29 = .ok (.invokevirtual 31, 3) := by decide +kernel
theorem dX4_readAnd_32 : decode cX4_readAnd 32 = .ok (.aload_n 0, 1) := by decide +kernel
theorem dX4_readAnd_33 : decode cX4_readAnd 33 = .ok (.iload_n 1, 1) := by decide +kernel
theorem dX4_readAnd_34 : decode cX4_readAnd 34 = .ok (.invokevirtual 51, 3) := by decide +kernel
theorem dX4_readAnd_37 : decode cX4_readAnd 37 = .ok (.ifCond .ne 5, 3) := by decide +kernel
theorem dX4_readAnd_40 : decode cX4_readAnd 40 = .ok (.iconst 0, 1) := by decide +kernel
theorem dX4_readAnd_41 : decode cX4_readAnd 41 = .ok (.ireturn, 1) := by decide +kernel
theorem dX4_readAnd_42 : decode cX4_readAnd 42 = .ok (.aload_n 0, 1) := by decide +kernel
theorem dX4_readAnd_43 : decode cX4_readAnd 43 = .ok (.bipush (-8), 2) := by decide +kernel
theorem dX4_readAnd_45 : decode cX4_readAnd 45 = .ok (.invokevirtual 47, 3) := by decide +kernel
theorem dX4_readAnd_48 : decode cX4_readAnd 48 = .ok (.iinc 2 1, 3) := by decide +kernel
theorem dX4_readAnd_51 : decode cX4_readAnd 51 = .ok (.goto (-39), 3) := by decide +kernel
theorem dX4_readAnd_54 : decode cX4_readAnd 54 = .ok (.iconst 1, 1) := by decide +kernel
theorem dX4_readAnd_55 : decode cX4_readAnd 55 = .ok (.ireturn, 1) := by decide +kernel
theorem dX4_readNot_0 : decode cX4_readNot 0 = .ok (.aload_n 0, 1) := by decide +kernel
theorem dX4_readNot_1 : decode cX4_readNot 1 = .ok (.getfield 41, 3) := by decide +kernel
theorem dX4_readNot_4 : decode cX4_readNot 4 = .ok (.bipush 9, 2) := by decide +kernel
theorem dX4_readNot_6 : decode cX4_readNot 6 = .ok (.if_icmp .ne 34, 3) := by decide +kernel
theorem dX4_readNot_9 : decode cX4_readNot 9 = .ok (.iload_n 1, 1) := by decide +kernel
theorem dX4_readNot_10 : decode cX4_readNot 10 = .ok (.iconst 5, 1) := by decide +kernel
theorem dX4_readNot_11 : decode cX4_readNot 11 = .ok (.if_icmp .lt 5, 3) := by decide +kernel
theorem dX4_readNot_14 : decode cX4_readNot 14 = .ok (.iconst 0, 1) := by decide +kernel
theorem dX4_readNot_15 : decode cX4_readNot 15 = .ok (.ireturn, 1) := by decide +kernel
theorem dX4_readNot_16 : decode cX4_readNot 16 = .ok (.aload_n 0, 1) := by decide +kernel
theorem dX4_readNot_17 : decode cX4_readNot 17 = .ok (.invokevirtual 31, 3) := by decide +kernel
theorem dX4_readNot_20 : decode cX4_readNot 20 = .ok (.aload_n 0, 1) := by decide +kernel
theorem dX4_readNot_21 : decode cX4_readNot 21 = .ok (.iload_n 1, 1) := by decide +kernel
theorem dX4_readNot_22 : decode cX4_readNot 22 = .ok (.iconst 1, 1) := by decide +kernel
theorem dX4_readNot_23 : decode cX4_readNot 23 = .ok (.iadd, 1) := by decide +kernel
theorem dX4_readNot_24 : decode cX4_readNot 24 = .ok (.invokevirtual 51, 3) := by decide +kernel
theorem dX4_readNot_27 : decode cX4_readNot 27 = .ok (.ifCond .ne 5, 3) := by decide +kernel
theorem dX4_readNot_30 : decode cX4_readNot 30 = .ok (.iconst 0, 1) := by decide +kernel
theorem dX4_readNot_31 : decode cX4_readNot 31 = .ok (.ireturn, 1) := by decide +kernel
theorem dX4_readNot_32 : decode cX4_readNot 32 = .ok (.aload_n 0, 1) := by decide +kernel
theorem dX4_readNot_33 : decode cX4_readNot 33 = .ok (.bipush (-9), 2) := by decide +kernel
theorem dX4_readNot_35 : decode cX4_readNot 35 = .ok (.invokevirtual 47, 3) := by decide +kernel
theorem dX4_readNot_38 : decode cX4_readNot 38 = .ok (.iconst 1, 1) := by decide +kernel
theorem dX4_readNot_39 : decode cX4_readNot 39 = .ok (.ireturn, 1) := by decide +kernel
theorem dX4_readNot_40 : decode cX4_readNot 40 = .ok (.aload_n 0, 1) := by decide +kernel
theorem dX4_readNot_41 : decode cX4_readNot 41 = .ok (.iload_n 1, 1) := by decide +kernel
theorem dX4_readNot_42 : decode cX4_readNot 42 = .ok (.invokevirtual 54, 3) := by decide +kernel
theorem dX4_readNot_45 : decode cX4_readNot 45 = .ok (.ifCond .ne 5, 3) := by decide +kernel
theorem dX4_readNot_48 : decode cX4_readNot 48 = .ok (.iconst 0, 1) := by decide +kernel
theorem dX4_readNot_49 : decode cX4_readNot 49 = .ok (.ireturn, 1) := by decide +kernel
theorem dX4_readNot_50 : decode cX4_readNot 50 = .ok (.aload_n 0, 1) := by decide +kernel
theorem dX4_readNot_51 : decode cX4_readNot 51 = .ok (.getfield 41, 3) := by decide +kernel
theorem dX4_readNot_54 : decode cX4_readNot 54 = .ok (.bipush 60, 2) := by decide +kernel
theorem dX4_readNot_56 : decode cX4_readNot 56 = .ok (.if_icmp .eq 12, 3) := by decide +kernel
theorem dX4_readNot_59 : decode cX4_readNot 59 = .ok (.aload_n 0, 1) := by decide +kernel
theorem dX4_readNot_60 : decode cX4_readNot 60 = .ok (.getfield 41, 3) := by decide +kernel
theorem dX4_readNot_63 : decode cX4_readNot 63 = .ok (.bipush 61, 2) := by decide +kernel
theorem dX4_readNot_65 : decode cX4_readNot 65 = .ok (.if_icmp .ne 28, 3) := by decide +kernel
theorem dX4_readNot_68 : decode cX4_readNot 68 = .ok (.aload_n 0, 1) := by decide +kernel
theorem dX4_readNot_69 : decode cX4_readNot 69 = .ok (.getfield 41, 3) := by decide +kernel
theorem dX4_readNot_72 : decode cX4_readNot 72 = .ok (.istore_n 2, 1) := by decide +kernel
theorem dX4_readNot_73 : decode cX4_readNot 73 = .ok (.aload_n 0, 1) := by decide +kernel
theorem dX4_readNot_74 : decode cX4_readNot 74 = .ok (.invokevirtual 31, 3) := by decide +kernel
theorem dX4_readNot_77 : decode cX4_readNot 77 = .ok (.aload_n 0, 1) := by decide +kernel
theorem dX4_readNot_78 : decode cX4_readNot 78 = .ok (.iload_n 1, 1) := by decide +kernel
theorem dX4_readNot_79 : decode cX4_readNot 79 = .ok (.invokevirtual 54, 3) := by decide +kernel
theorem dX4_readNot_82 : decode cX4_readNot 82 = .ok (.ifCond .ne 5, 3) := by decide +kernel
theorem dX4_readNot_85 : decode cX4_readNot 85 = .ok (.iconst 0, 1) := by decide +kernel
theorem dX4_readNot_86 : decode cX4_readNot 86 = .ok (.ireturn, 1) := by decide +kernel
theorem dX4_readNot_87 : decode cX4_readNot 87 = .ok (.aload_n 0, 1) := by decide +kernel
theorem dX4_readNot_88 : decode cX4_readNot 88 = .ok (.iload_n 2, 1) := by decide +kernel
theorem dX4_readNot_89 : decode cX4_readNot 89 = .ok (.ineg, 1) := by decide +kernel
theorem dX4_readNot_90 : decode cX4_readNot 90 = .ok (.invokevirtual 47, 3) := by decide +kernel
theorem dX4_readNot_93 : decode cX4_readNot 93 = .ok (.iconst 1, 1) := by decide +kernel
theorem dX4_readNot_94 : decode cX4_readNot 94 = .ok (.ireturn, 1) := by decide +kernel
theorem dX4_readSum_0 : decode cX4_readSum 0 = .ok (.aload_n 0, 1) := by decide +kernel
theorem dX4_readSum_1 : decode cX4_readSum 1 = .ok (.iload_n 1, 1) := by decide +kernel
theorem dX4_readSum_2 : decode cX4_readSum 2 = .ok (.invokevirtual 57, 3) := by decide +kernel
theorem dX4_readSum_5 : decode cX4_readSum 5 = .ok (.ifCond .ne 5, 3) := by decide +kernel
theorem dX4_readSum_8 : decode cX4_readSum 8 = .ok (.iconst 0, 1) := by decide +kernel
theorem dX4_readSum_9 : decode cX4_readSum 9 = .ok (.ireturn, 1) := by decide +kernel
theorem dX4_readSum_10 : decode cX4_readSum 10 = .ok (.iconst 0, 1) := by decide +kernel
theorem dX4_readSum_11 : decode cX4_readSum 11 = .ok (.istore_n 2, 1) := by decide +kernel
theorem dX4_readSum_12 : decode cX4_readSum 12 = .ok (.iload_n 2, 1) := by decide +kernel
theorem dX4_readSum_13 : decode cX4_readSum 13 = .ok (.sipush 160, 3) := by decide +kernel
theorem dX4_readSum_16 : decode cX4_readSum 16 = .ok (.if_icmp .ge 52, 3) := by decide +kernel
theorem dX4_readSum_19 : decode cX4_readSum 19 = .ok (.aload_n 0, 1) := by decide +kernel
theorem dX4_readSum_20 : decode cX4_readSum 20 = .ok (.getfield 41, 3) := by decide +kernel
theorem dX4_readSum_23 : decode cX4_readSum 23 = .ok (.bipush 43, 2) := by decide +kernel
theorem dX4_readSum_25 : decode cX4_readSum 25 = .ok (.if_icmp .eq 12, 3) := by decide +kernel
theorem dX4_readSum_28 : decode cX4_readSum 28 = .ok (.aload_n 0, 1) := by decide +kernel
theorem dX4_readSum_29 : decode cX4_readSum 29 = .ok (.getfield 41, 3) := by decide +kernel
theorem dX4_readSum_32 : decode cX4_readSum 32 = .ok (.bipush 45, 2) := by decide +kernel
theorem dX4_readSum_34 : decode cX4_readSum 34 = .ok (.if_icmp .ne 34, 3) := by decide +kernel
theorem dX4_readSum_37 : decode cX4_readSum 37 = .ok (.aload_n 0, 1) := by decide +kernel
theorem dX4_readSum_38 : decode cX4_readSum 38 = .ok (.getfield 41, 3) := by decide +kernel
theorem dX4_readSum_41 : decode cX4_readSum 41 = .ok (.istore_n 3, 1) := by decide +kernel
theorem dX4_readSum_42 : decode cX4_readSum 42 = .ok (.aload_n 0, 1) := by decide +kernel
theorem dX4_readSum_43 : decode cX4_readSum 43 = .ok (.invokevirtual 31, 3) := by decide +kernel
theorem dX4_readSum_46 : decode cX4_readSum 46 = .ok (.aload_n 0, 1) := by decide +kernel
theorem dX4_readSum_47 : decode cX4_readSum 47 = .ok (.iload_n 1, 1) := by decide +kernel
theorem dX4_readSum_48 : decode cX4_readSum 48 = .ok (.invokevirtual 57, 3) := by decide +kernel
theorem dX4_readSum_51 : decode cX4_readSum 51 = .ok (.ifCond .ne 5, 3) := by decide +kernel
theorem dX4_readSum_54 : decode cX4_readSum 54 = .ok (.iconst 0, 1) := by decide +kernel
theorem dX4_readSum_55 : decode cX4_readSum 55 = .ok (.ireturn, 1) := by decide +kernel
theorem dX4_readSum_56 : decode cX4_readSum 56 = .ok (.aload_n 0, 1) := by decide +kernel
theorem dX4_readSum_57 : decode cX4_readSum 57 = .ok (.iload_n 3, 1) := by decide +kernel
theorem dX4_readSum_58 : decode cX4_readSum 58 = .ok (.ineg, 1) := by decide +kernel
theorem dX4_readSum_59 : decode cX4_readSum 59 = .ok (.invokevirtual 47, 3) := by decide +kernel
theorem dX4_readSum_62 : decode cX4_readSum 62 = .ok (.iinc 2 1, 3) := by decide +kernel
theorem dX4_readSum_65 : decode cX4_readSum 65 = .ok (.goto (-53), 3) := by decide +kernel
theorem dX4_readSum_68 : decode cX4_readSum 68 = .ok (.iconst 1, 1) := by decide +kernel
theorem dX4_readSum_69 : decode cX4_readSum 69 = .ok (.ireturn, 1) := by decide +kernel
theorem dX4_readTerm_0 : decode cX4_readTerm 0 = .ok (.aload_n 0, 1) := by decide +kernel
theorem dX4_readTerm_1 : decode cX4_readTerm 1 = .ok (.iload_n 1, 1) := by decide +kernel
theorem dX4_readTerm_2 : decode cX4_readTerm 2 = .ok (.invokevirtual 60, 3) := by decide +kernel
theorem dX4_readTerm_5 : decode cX4_readTerm 5 = .ok (.ifCond .ne 5, 3) := by decide +kernel
theorem dX4_readTerm_8 : decode cX4_readTerm 8 = .ok (.iconst 0, 1) := by decide +kernel
theorem dX4_readTerm_9 : decode cX4_readTerm 9 = .ok (.ireturn, 1) := by decide +kernel
theorem dX4_readTerm_10 : decode cX4_readTerm 10 = .ok (.iconst 0, 1) := by decide +kernel
theorem dX4_readTerm_11 : decode cX4_readTerm 11 = .ok (.istore_n 2, 1) := by decide +kernel
theorem dX4_readTerm_12 : decode cX4_readTerm 12 = .ok (.iload_n 2, 1) := by decide +kernel
theorem dX4_readTerm_13 : decode cX4_readTerm 13 = .ok (.sipush 160, 3) := by decide +kernel
theorem dX4_readTerm_16 : decode cX4_readTerm 16 = .ok (.if_icmp .ge 38, 3) := by decide +kernel
theorem dX4_readTerm_19 : decode cX4_readTerm 19 = .ok (.aload_n 0, 1) := by decide +kernel
theorem dX4_readTerm_20 : decode cX4_readTerm 20 = .ok (.getfield 41, 3) := by decide +kernel
theorem dX4_readTerm_23 : decode cX4_readTerm 23 = .ok (.bipush 42, 2) := by decide +kernel
theorem dX4_readTerm_25 : decode cX4_readTerm 25 = .ok (.if_icmp .ne 29, 3) := by decide +kernel
theorem dX4_readTerm_28 : decode cX4_readTerm 28 = .ok (.aload_n 0, 1) := by decide +kernel
theorem dX4_readTerm_29 : decode cX4_readTerm 29 = .ok (.invokevirtual 31, 3) := by decide +kernel
theorem dX4_readTerm_32 : decode cX4_readTerm 32 = .ok (.aload_n 0, 1) := by decide +kernel
theorem dX4_readTerm_33 : decode cX4_readTerm 33 = .ok (.iload_n 1, 1) := by decide +kernel
theorem dX4_readTerm_34 : decode cX4_readTerm 34 = .ok (.invokevirtual 60, 3) := by decide +kernel
theorem dX4_readTerm_37 : decode cX4_readTerm 37 = .ok (.ifCond .ne 5, 3) := by decide +kernel
theorem dX4_readTerm_40 : decode cX4_readTerm 40 = .ok (.iconst 0, 1) := by decide +kernel
theorem dX4_readTerm_41 : decode cX4_readTerm 41 = .ok (.ireturn, 1) := by decide +kernel
theorem dX4_readTerm_42 : decode cX4_readTerm 42 = .ok (.aload_n 0, 1) := by decide +kernel
theorem dX4_readTerm_43 : decode cX4_readTerm 43 = .ok (.bipush (-42), 2) := by decide +kernel
theorem dX4_readTerm_45 : decode cX4_readTerm 45 = .ok (.invokevirtual 47, 3) := by decide +kernel
theorem dX4_readTerm_48 : decode cX4_readTerm 48 = .ok (.iinc 2 1, 3) := by decide +kernel
theorem dX4_readTerm_51 : decode cX4_readTerm 51 = .ok (.goto (-39), 3) := by decide +kernel
theorem dX4_readTerm_54 : decode cX4_readTerm 54 = .ok (.iconst 1, 1) := by decide +kernel
theorem dX4_readTerm_55 : decode cX4_readTerm 55 = .ok (.ireturn, 1) := by decide +kernel
theorem dX4_readOne_0 : decode cX4_readOne 0 = .ok (.aload_n 0, 1) := by decide +kernel
theorem dX4_readOne_1 : decode cX4_readOne 1 = .ok (.getfield 41, 3) := by decide +kernel
theorem dX4_readOne_4 : decode cX4_readOne 4 = .ok (.iconst 2, 1) := by decide +kernel
theorem dX4_readOne_5 : decode cX4_readOne 5 = .ok (.if_icmp .eq 11, 3) := by decide +kernel
theorem dX4_readOne_8 : decode cX4_readOne 8 = .ok (.aload_n 0, 1) := by decide +kernel
theorem dX4_readOne_9 : decode cX4_readOne 9 = .ok (.getfield 41, 3) := by decide +kernel
theorem dX4_readOne_12 : decode cX4_readOne 12 = .ok (.iconst 3, 1) := by decide +kernel
theorem dX4_readOne_13 : decode cX4_readOne 13 = .ok (.if_icmp .ne 34, 3) := by decide +kernel
theorem dX4_readOne_16 : decode cX4_readOne 16 = .ok (.aload_n 0, 1) := by decide +kernel
theorem dX4_readOne_17 : decode cX4_readOne 17 = .ok (.aload_n 0, 1) := by decide +kernel
theorem dX4_readOne_18 : decode cX4_readOne 18 = .ok (.getfield 41, 3) := by decide +kernel
theorem dX4_readOne_21 : decode cX4_readOne 21 = .ok (.iconst 2, 1) := by decide +kernel
theorem dX4_readOne_22 : decode cX4_readOne 22 = .ok (.if_icmp .ne 10, 3) := by decide +kernel
theorem dX4_readOne_25 : decode cX4_readOne 25 = .ok (.aload_n 0, 1) := by decide +kernel
theorem dX4_readOne_26 : decode cX4_readOne 26 = .ok (.getfield 63, 3) := by decide +kernel
theorem dX4_readOne_29 : decode cX4_readOne 29 = .ok (.goto 9, 3) := by decide +kernel
theorem dX4_readOne_32 : decode cX4_readOne 32 = .ok (.iconst (-1), 1) := by decide +kernel
theorem dX4_readOne_33 : decode cX4_readOne 33 = .ok (.aload_n 0, 1) := by decide +kernel
theorem dX4_readOne_34 : decode cX4_readOne 34 = .ok (.getfield 63, 3) := by decide +kernel
theorem dX4_readOne_37 : decode cX4_readOne 37 = .ok (.isub, 1) := by decide +kernel
theorem dX4_readOne_38 : decode cX4_readOne 38 = .ok (.invokevirtual 47, 3) := by decide +kernel
theorem dX4_readOne_41 : decode cX4_readOne 41 = .ok (.aload_n 0, 1) := by decide +kernel
theorem dX4_readOne_42 : decode cX4_readOne 42 = .ok (.invokevirtual 31, 3) := by decide +kernel
theorem dX4_readOne_45 : decode cX4_readOne 45 = .ok (.iconst 1, 1) := by decide +kernel
theorem dX4_readOne_46 : decode cX4_readOne 46 = .ok (.ireturn, 1) := by decide +kernel
theorem dX4_readOne_47 : decode cX4_readOne 47 = .ok (.aload_n 0, 1) := by decide +kernel
theorem dX4_readOne_48 : decode cX4_readOne 48 = .ok (.getfield 41, 3) := by decide +kernel
theorem dX4_readOne_51 : decode cX4_readOne 51 = .ok (.bipush 45, 2) := by decide +kernel
theorem dX4_readOne_53 : decode cX4_readOne 53 = .ok (.if_icmp .eq 12, 3) := by decide +kernel
theorem dX4_readOne_56 : decode cX4_readOne 56 = .ok (.aload_n 0, 1) := by decide +kernel
theorem dX4_readOne_57 : decode cX4_readOne 57 = .ok (.getfield 41, 3) := by decide +kernel
theorem dX4_readOne_60 : decode cX4_readOne 60 = .ok (.bipush 40, 2) := by decide +kernel
theorem dX4_readOne_62 : decode cX4_readOne 62 = .ok (.if_icmp .ne 8, 3) := by decide +kernel
theorem dX4_readOne_65 : decode cX4_readOne 65 = .ok (.iload_n 1, 1) := by decide +kernel
theorem dX4_readOne_66 : decode cX4_readOne 66 = .ok (.iconst 5, 1) := by decide +kernel
theorem dX4_readOne_67 : decode cX4_readOne 67 = .ok (.if_icmp .lt 5, 3) := by decide +kernel
theorem dX4_readOne_70 : decode cX4_readOne 70 = .ok (.iconst 0, 1) := by decide +kernel
theorem dX4_readOne_71 : decode cX4_readOne 71 = .ok (.ireturn, 1) := by decide +kernel
theorem dX4_readOne_72 : decode cX4_readOne 72 = .ok (.aload_n 0, 1) := by decide +kernel
theorem dX4_readOne_73 : decode cX4_readOne 73 = .ok (.getfield 41, 3) := by decide +kernel
theorem dX4_readOne_76 : decode cX4_readOne 76 = .ok (.bipush 40, 2) := by decide +kernel
theorem dX4_readOne_78 : decode cX4_readOne 78 = .ok (.if_icmp .ne 32, 3) := by decide +kernel
theorem dX4_readOne_81 : decode cX4_readOne 81 = .ok (.aload_n 0, 1) := by decide +kernel
theorem dX4_readOne_82 : decode cX4_readOne 82 = .ok (.invokevirtual 31, 3) := by decide +kernel
theorem dX4_readOne_85 : decode cX4_readOne 85 = .ok (.aload_n 0, 1) := by decide +kernel
theorem dX4_readOne_86 : decode cX4_readOne 86 = .ok (.iload_n 1, 1) := by decide +kernel
theorem dX4_readOne_87 : decode cX4_readOne 87 = .ok (.iconst 1, 1) := by decide +kernel
theorem dX4_readOne_88 : decode cX4_readOne 88 = .ok (.iadd, 1) := by decide +kernel
theorem dX4_readOne_89 : decode cX4_readOne 89 = .ok (.invokevirtual 38, 3) := by decide +kernel
theorem dX4_readOne_92 : decode cX4_readOne 92 = .ok (.ifCond .eq 16, 3) := by decide +kernel
theorem dX4_readOne_95 : decode cX4_readOne 95 = .ok (.aload_n 0, 1) := by decide +kernel
theorem dX4_readOne_96 : decode cX4_readOne 96 = .ok (.bipush 41, 2) := by decide +kernel
theorem dX4_readOne_98 : decode cX4_readOne 98 = .ok (.invokevirtual 34, 3) := by decide +kernel
theorem dX4_readOne_101 : decode cX4_readOne 101 = .ok (.ifCond .eq 7, 3) := by decide +kernel
theorem dX4_readOne_104 : decode cX4_readOne 104 = .ok (.iconst 1, 1) := by decide +kernel
theorem dX4_readOne_105 : decode cX4_readOne 105 = .ok (.goto 4, 3) := by decide +kernel
theorem dX4_readOne_108 : decode cX4_readOne 108 = .ok (.iconst 0, 1) := by decide +kernel
theorem dX4_readOne_109 : decode cX4_readOne 109 = .ok (.ireturn, 1) := by decide +kernel
theorem dX4_readOne_110 : decode cX4_readOne 110 = .ok (.aload_n 0, 1) := by decide +kernel
theorem dX4_readOne_111 : decode cX4_readOne 111 = .ok (.invokevirtual 31, 3) := by decide +kernel
theorem dX4_readOne_114 : decode cX4_readOne 114 = .ok (.aload_n 0, 1) := by decide +kernel
theorem dX4_readOne_115 : decode cX4_readOne 115 = .ok (.iload_n 1, 1) := by decide +kernel
theorem dX4_readOne_116 : decode cX4_readOne 116 = .ok (.iconst 1, 1) := by decide +kernel
theorem dX4_readOne_117 : decode cX4_readOne 117 = .ok (.iadd, 1) := by decide +kernel
theorem dX4_readOne_118 : decode cX4_readOne 118 = .ok (.invokevirtual 60, 3) := by decide +kernel
theorem dX4_readOne_121 : decode cX4_readOne 121 = .ok (.ifCond .ne 5, 3) := by decide +kernel
theorem dX4_readOne_124 : decode cX4_readOne 124 = .ok (.iconst 0, 1) := by decide +kernel
theorem dX4_readOne_125 : decode cX4_readOne 125 = .ok (.ireturn, 1) := by decide +kernel
theorem dX4_readOne_126 : decode cX4_readOne 126 = .ok (.aload_n 0, 1) := by decide +kernel
theorem dX4_readOne_127 : decode cX4_readOne 127 = .ok (.bipush (-10), 2) := by decide +kernel
theorem dX4_readOne_129 : decode cX4_readOne 129 = .ok (.invokevirtual 47, 3) := by decide +kernel
theorem dX4_readOne_132 : decode cX4_readOne 132 = .ok (.iconst 1, 1) := by decide +kernel
theorem dX4_readOne_133 : decode cX4_readOne 133 = .ok (.ireturn, 1) := by decide +kernel
theorem dX4_emit_0 : decode cX4_emit 0 = .ok (.aload_n 0, 1) := by decide +kernel
theorem dX4_emit_1 : decode cX4_emit 1 = .ok (.getfield 25, 3) := by decide +kernel
theorem dX4_emit_4 : decode cX4_emit 4 = .ok (.sipush 160, 3) := by decide +kernel
theorem dX4_emit_7 : decode cX4_emit 7 = .ok (.if_icmp .ge 23, 3) := by decide +kernel
theorem dX4_emit_10 : decode cX4_emit 10 = .ok (.aload_n 0, 1) := by decide +kernel
theorem dX4_emit_11 : decode cX4_emit 11 = .ok (.getfield 15, 3) := by decide +kernel
theorem dX4_emit_14 : decode cX4_emit 14 = .ok (.aload_n 0, 1) := by decide +kernel
theorem dX4_emit_15 : decode cX4_emit 15 = .ok (.getfield 25, 3) := by decide +kernel
theorem dX4_emit_18 : decode cX4_emit 18 = .ok (.iload_n 1, 1) := by decide +kernel
theorem dX4_emit_19 : decode cX4_emit 19 = .ok (.iastore, 1) := by decide +kernel
theorem dX4_emit_20 : decode cX4_emit 20 = .ok (.aload_n 0, 1) := by decide +kernel
theorem dX4_emit_21 : decode cX4_emit 21 = .ok (.dup, 1) := by decide +kernel
theorem dX4_emit_22 : decode cX4_emit 22 = .ok (.getfield 25, 3) := by decide +kernel
theorem dX4_emit_25 : decode cX4_emit 25 = .ok (.iconst 1, 1) := by decide +kernel
theorem dX4_emit_26 : decode cX4_emit 26 = .ok (.iadd, 1) := by decide +kernel
theorem dX4_emit_27 : decode cX4_emit 27 = .ok (.putfield 25, 3) := by decide +kernel
theorem dX4_emit_30 : decode cX4_emit 30 = .ok (.return_, 1) := by decide +kernel
theorem dX4_skip_0 : decode cX4_skip 0 = .ok (.aload_n 0, 1) := by decide +kernel
theorem dX4_skip_1 : decode cX4_skip 1 = .ok (.getfield 41, 3) := by decide +kernel
theorem dX4_skip_4 : decode cX4_skip 4 = .ok (.iload_n 1, 1) := by decide +kernel
theorem dX4_skip_5 : decode cX4_skip 5 = .ok (.if_icmp .eq 5, 3) := by decide +kernel
theorem dX4_skip_8 : decode cX4_skip 8 = .ok (.iconst 0, 1) := by decide +kernel
theorem dX4_skip_9 : decode cX4_skip 9 = .ok (.ireturn, 1) := by decide +kernel
theorem dX4_skip_10 : decode cX4_skip 10 = .ok (.aload_n 0, 1) := by decide +kernel
theorem dX4_skip_11 : decode cX4_skip 11 = .ok (.invokevirtual 31, 3) := by decide +kernel
theorem dX4_skip_14 : decode cX4_skip 14 = .ok (.iconst 1, 1) := by decide +kernel
theorem dX4_skip_15 : decode cX4_skip 15 = .ok (.ireturn, 1) := by decide +kernel
theorem dX4_advance_0 : decode cX4_advance 0 = .ok (.aload_n 0, 1) := by decide +kernel
theorem dX4_advance_1 : decode cX4_advance 1 = .ok (.aload_n 0, 1) := by decide +kernel
theorem dX4_advance_2 : decode cX4_advance 2 = .ok (.getfield 28, 3) := by decide +kernel
theorem dX4_advance_5 : decode cX4_advance 5 = .ok (.putfield 66, 3) := by decide +kernel
theorem dX4_advance_8 : decode cX4_advance 8 = .ok (.aload_n 0, 1) := by decide +kernel
theorem dX4_advance_9 : decode cX4_advance 9 = .ok (.getfield 66, 3) := by decide +kernel
theorem dX4_advance_12 : decode cX4_advance 12 = .ok (.aload_n 0, 1) := by decide +kernel
theorem dX4_advance_13 : decode cX4_advance 13 = .ok (.getfield 21, 3) := by decide +kernel
theorem dX4_advance_16 : decode cX4_advance 16 = .ok (.if_icmp .ge 44, 3) := by decide +kernel
theorem dX4_advance_19 : decode cX4_advance 19 = .ok (.aload_n 0, 1) := by decide +kernel
theorem dX4_advance_20 : decode cX4_advance 20 = .ok (.getfield 9, 3) := by decide +kernel
theorem dX4_advance_23 : decode cX4_advance 23 = .ok (.aload_n 0, 1) := by decide +kernel
theorem dX4_advance_24 : decode cX4_advance 24 = .ok (.getfield 66, 3) := by decide +kernel
theorem dX4_advance_27 : decode cX4_advance 27 = .ok (.iaload, 1) := by decide +kernel
theorem dX4_advance_28 : decode cX4_advance 28 = .ok (.bipush 32, 2) := by decide +kernel
theorem dX4_advance_30 : decode cX4_advance 30 = .ok (.if_icmp .eq 17, 3) := by decide +kernel
theorem dX4_advance_33 : decode cX4_advance 33 = .ok (.aload_n 0, 1) := by decide +kernel
theorem dX4_advance_34 : decode cX4_advance 34 = .ok (.getfield 9, 3) := by decide +kernel
theorem dX4_advance_37 : decode cX4_advance 37 = .ok (.aload_n 0, 1) := by decide +kernel
theorem dX4_advance_38 : decode cX4_advance 38 = .ok (.getfield 66, 3) := by decide +kernel
theorem dX4_advance_41 : decode cX4_advance 41 = .ok (.iaload, 1) := by decide +kernel
theorem dX4_advance_42 : decode cX4_advance 42 = .ok (.bipush 10, 2) := by decide +kernel
theorem dX4_advance_44 : decode cX4_advance 44 = .ok (.if_icmp .ne 16, 3) := by decide +kernel
theorem dX4_advance_47 : decode cX4_advance 47 = .ok (.aload_n 0, 1) := by decide +kernel
theorem dX4_advance_48 : decode cX4_advance 48 = .ok (.dup, 1) := by decide +kernel
theorem dX4_advance_49 : decode cX4_advance 49 = .ok (.getfield 66, 3) := by decide +kernel
theorem dX4_advance_52 : decode cX4_advance 52 = .ok (.iconst 1, 1) := by decide +kernel
theorem dX4_advance_53 : decode cX4_advance 53 = .ok (.iadd, 1) := by decide +kernel
theorem dX4_advance_54 : decode cX4_advance 54 = .ok (.putfield 66, 3) := by decide +kernel
theorem dX4_advance_57 : decode cX4_advance 57 = .ok (.goto (-49), 3) := by decide +kernel
theorem dX4_advance_60 : decode cX4_advance 60 = .ok (.aload_n 0, 1) := by decide +kernel
theorem dX4_advance_61 : decode cX4_advance 61 = .ok (.getfield 66, 3) := by decide +kernel
theorem dX4_advance_64 : decode cX4_advance 64 = .ok (.aload_n 0, 1) := by decide +kernel
theorem dX4_advance_65 : decode cX4_advance 65 = .ok (.getfield 21, 3) := by decide +kernel
theorem dX4_advance_68 : decode cX4_advance 68 = .ok (.if_icmp .lt 19, 3) := by decide +kernel
theorem dX4_advance_71 : decode cX4_advance 71 = .ok (.aload_n 0, 1) := by decide +kernel
theorem dX4_advance_72 : decode cX4_advance 72 = .ok (.aload_n 0, 1) := by decide +kernel
theorem dX4_advance_73 : decode cX4_advance 73 = .ok (.getfield 21, 3) := by decide +kernel
theorem dX4_advance_76 : decode cX4_advance 76 = .ok (.putfield 28, 3) := by decide +kernel
theorem dX4_advance_79 : decode cX4_advance 79 = .ok (.aload_n 0, 1) := by decide +kernel
theorem dX4_advance_80 : decode cX4_advance 80 = .ok (.iconst 0, 1) := by decide +kernel
theorem dX4_advance_81 : decode cX4_advance 81 = .ok (.putfield 41, 3) := by decide +kernel
theorem dX4_advance_84 : decode cX4_advance 84 = .ok (.goto 89, 3) := by decide +kernel
theorem dX4_advance_87 : decode cX4_advance 87 = .ok (.aload_n 0, 1) := by decide +kernel
theorem dX4_advance_88 : decode cX4_advance 88 = .ok (.getfield 9, 3) := by decide +kernel
theorem dX4_advance_91 : decode cX4_advance 91 = .ok (.aload_n 0, 1) := by decide +kernel
theorem dX4_advance_92 : decode cX4_advance 92 = .ok (.getfield 66, 3) := by decide +kernel
theorem dX4_advance_95 : decode cX4_advance 95 = .ok (.iaload, 1) := by decide +kernel
theorem dX4_advance_96 : decode cX4_advance 96 = .ok (.invokestatic 69, 3) := by decide +kernel
theorem dX4_advance_99 : decode cX4_advance 99 = .ok (.ifCond .eq 10, 3) := by decide +kernel
theorem dX4_advance_102 : decode cX4_advance 102 = .ok (.aload_n 0, 1) := by decide +kernel
theorem dX4_advance_103 : decode cX4_advance 103 = .ok (.invokevirtual 72, 3) := by decide +kernel
theorem dX4_advance_106 : decode cX4_advance 106 = .ok (.goto 67, 3) := by decide +kernel
theorem dX4_advance_109 : decode cX4_advance 109 = .ok (.aload_n 0, 1) := by decide +kernel
theorem dX4_advance_110 : decode cX4_advance 110 = .ok (.getfield 9, 3) := by decide +kernel
theorem dX4_advance_113 : decode cX4_advance 113 = .ok (.aload_n 0, 1) := by decide +kernel
theorem dX4_advance_114 : decode cX4_advance 114 = .ok (.getfield 66, 3) := by decide +kernel
theorem dX4_advance_117 : decode cX4_advance 117 = .ok (.iaload, 1) := by decide +kernel
theorem dX4_advance_118 : decode cX4_advance 118 = .ok (.invokestatic 75, 3) := by decide +kernel
theorem dX4_advance_121 : decode cX4_advance 121 = .ok (.ifCond .eq 10, 3) := by decide +kernel
theorem dX4_advance_124 : decode cX4_advance 124 = .ok (.aload_n 0, 1) := by decide +kernel
theorem dX4_advance_125 : decode cX4_advance 125 = .ok (.invokevirtual 78, 3) := by decide +kernel
theorem dX4_advance_128 : decode cX4_advance 128 = .ok (.goto 45, 3) := by decide +kernel
theorem dX4_advance_131 : decode cX4_advance 131 = .ok (.aload_n 0, 1) := by decide +kernel
theorem dX4_advance_132 : decode cX4_advance 132 = .ok (.aload_n 0, 1) := by decide +kernel
theorem dX4_advance_133 : decode cX4_advance 133 = .ok (.getfield 66, 3) := by decide +kernel
theorem dX4_advance_136 : decode cX4_advance 136 = .ok (.iconst 1, 1) := by decide +kernel
theorem dX4_advance_137 : decode cX4_advance 137 = .ok (.iadd, 1) := by decide +kernel
theorem dX4_advance_138 : decode cX4_advance 138 = .ok (.putfield 28, 3) := by decide +kernel
theorem dX4_advance_141 : decode cX4_advance 141 = .ok (.aload_n 0, 1) := by decide +kernel
theorem dX4_advance_142 : decode cX4_advance 142 = .ok (.aload_n 0, 1) := by decide +kernel
theorem dX4_advance_143 : decode cX4_advance 143 = .ok (.getfield 9, 3) := by decide +kernel
theorem dX4_advance_146 : decode cX4_advance 146 = .ok (.aload_n 0, 1) := by decide +kernel
theorem dX4_advance_147 : decode cX4_advance 147 = .ok (.getfield 66, 3) := by decide +kernel
theorem dX4_advance_150 : decode cX4_advance 150 = .ok (.iaload, 1) := by decide +kernel
theorem dX4_advance_151 : decode cX4_advance 151 = .ok (.invokestatic 81, 3) := by decide +kernel
theorem dX4_advance_154 : decode cX4_advance 154 = .ok (.ifCond .eq 15, 3) := by decide +kernel
theorem dX4_advance_157 : decode cX4_advance 157 = .ok (.aload_n 0, 1) := by decide +kernel
theorem dX4_advance_158 : decode cX4_advance 158 = .ok (.getfield 9, 3) := by decide +kernel
theorem dX4_advance_161 : decode cX4_advance 161 = .ok (.aload_n 0, 1) := by decide +kernel
theorem dX4_advance_162 : decode cX4_advance 162 = .ok (.getfield 66, 3) := by decide +kernel
theorem dX4_advance_165 : decode cX4_advance 165 = .ok (.iaload, 1) := by decide +kernel
theorem dX4_advance_166 : decode cX4_advance 166 = .ok (.goto 4, 3) := by decide +kernel
theorem dX4_advance_169 : decode cX4_advance 169 = .ok (.iconst 1, 1) := by decide +kernel
theorem dX4_advance_170 : decode cX4_advance 170 = .ok (.putfield 41, 3) := by decide +kernel
theorem dX4_advance_173 : decode cX4_advance 173 = .ok (.return_, 1) := by decide +kernel
theorem dX4_takeWord_0 : decode cX4_takeWord 0 = .ok (.aload_n 0, 1) := by decide +kernel
theorem dX4_takeWord_1 : decode cX4_takeWord 1 = .ok (.aload_n 0, 1) := by decide +kernel
theorem dX4_takeWord_2 : decode cX4_takeWord 2 = .ok (.getfield 66, 3) := by decide +kernel
theorem dX4_takeWord_5 : decode cX4_takeWord 5 = .ok (.putfield 28, 3) := by decide +kernel
theorem dX4_takeWord_8 : decode cX4_takeWord 8 = .ok (.aload_n 0, 1) := by decide +kernel
theorem dX4_takeWord_9 : decode cX4_takeWord 9 = .ok (.getfield 28, 3) := by decide +kernel
theorem dX4_takeWord_12 : decode cX4_takeWord 12 = .ok (.aload_n 0, 1) := by decide +kernel
theorem dX4_takeWord_13 : decode cX4_takeWord 13 = .ok (.getfield 21, 3) := by decide +kernel
theorem dX4_takeWord_16 : decode cX4_takeWord 16 = .ok (.if_icmp .ge 31, 3) := by decide +kernel
theorem dX4_takeWord_19 : decode cX4_takeWord 19 = .ok (.aload_n 0, 1) := by decide +kernel
theorem dX4_takeWord_20 : decode cX4_takeWord 20 = .ok (.getfield 9, 3) := by decide +kernel
theorem dX4_takeWord_23 : decode cX4_takeWord 23 = .ok (.aload_n 0, 1) := by decide +kernel
theorem dX4_takeWord_24 : decode cX4_takeWord 24 = .ok (.getfield 28, 3) := by decide +kernel
theorem dX4_takeWord_27 : decode cX4_takeWord 27 = .ok (.iaload, 1) := by decide +kernel
theorem dX4_takeWord_28 : decode cX4_takeWord 28 = .ok (.invokestatic 69, 3) := by decide +kernel
theorem dX4_takeWord_31 : decode cX4_takeWord 31 = .ok (.ifCond .eq 16, 3) := by decide +kernel
theorem dX4_takeWord_34 : decode cX4_takeWord 34 = .ok (.aload_n 0, 1) := by decide +kernel
theorem dX4_takeWord_35 : decode cX4_takeWord 35 = .ok (.dup, 1) := by decide +kernel
theorem dX4_takeWord_36 : decode cX4_takeWord 36 = .ok (.getfield 28, 3) := by decide +kernel
theorem dX4_takeWord_39 : decode cX4_takeWord 39 = .ok (.iconst 1, 1) := by decide +kernel
theorem dX4_takeWord_40 : decode cX4_takeWord 40 = .ok (.iadd, 1) := by decide +kernel
theorem dX4_takeWord_41 : decode cX4_takeWord 41 = .ok (.putfield 28, 3) := by decide +kernel
theorem dX4_takeWord_44 : decode cX4_takeWord 44 = .ok (.goto (-36), 3) := by decide +kernel
theorem dX4_takeWord_47 : decode cX4_takeWord 47 = .ok (.aload_n 0, 1) := by decide +kernel
theorem dX4_takeWord_48 : decode cX4_takeWord 48 = .ok (.iconst 1, 1) := by decide +kernel
theorem dX4_takeWord_49 : decode cX4_takeWord 49 = .ok (.putfield 41, 3) := by decide +kernel
theorem dX4_takeWord_52 : decode cX4_takeWord 52 = .ok (.iconst 0, 1) := by decide +kernel
theorem dX4_takeWord_53 : decode cX4_takeWord 53 = .ok (.istore_n 1, 1) := by decide +kernel
theorem dX4_takeWord_54 : decode cX4_takeWord 54 = .ok (.iconst 0, 1) := by decide +kernel
theorem dX4_takeWord_55 : decode cX4_takeWord 55 = .ok (.istore_n 2, 1) := by decide +kernel
theorem dX4_takeWord_56 : decode cX4_takeWord 56 = .ok (.iconst 0, 1) := by decide +kernel
theorem dX4_takeWord_57 : decode cX4_takeWord 57 = .ok (.istore_n 3, 1) := by decide +kernel
theorem dX4_takeWord_58 : decode cX4_takeWord 58 = .ok (.iload_n 3, 1) := by decide +kernel
theorem dX4_takeWord_59 : decode cX4_takeWord 59 = .ok (.ldc 84, 2) := by decide +kernel
theorem dX4_takeWord_61 : decode cX4_takeWord 61 = .ok (.invokevirtual 86, 3) := by decide +kernel
theorem dX4_takeWord_64 : decode cX4_takeWord 64 = .ok (.if_icmp .ge 61, 3) := by decide +kernel
theorem dX4_takeWord_67 : decode cX4_takeWord 67 = .ok (.ldc 84, 2) := by decide +kernel
theorem dX4_takeWord_69 : decode cX4_takeWord 69 = .ok (.iload_n 3, 1) := by decide +kernel
theorem dX4_takeWord_70 : decode cX4_takeWord 70 = .ok (.invokevirtual 92, 3) := by decide +kernel
theorem dX4_takeWord_73 : decode cX4_takeWord 73 = .ok (.bipush 32, 2) := by decide +kernel
theorem dX4_takeWord_75 : decode cX4_takeWord 75 = .ok (.if_icmp .ne 44, 3) := by decide +kernel
theorem dX4_takeWord_78 : decode cX4_takeWord 78 = .ok (.aload_n 0, 1) := by decide +kernel
theorem dX4_takeWord_79 : decode cX4_takeWord 79 = .ok (.iload_n 2, 1) := by decide +kernel
theorem dX4_takeWord_80 : decode cX4_takeWord 80 = .ok (.iload_n 3, 1) := by decide +kernel
theorem dX4_takeWord_81 : decode cX4_takeWord 81 = .ok (.invokevirtual 96, 3) := by decide +kernel
theorem dX4_takeWord_84 : decode cX4_takeWord 84 = .ok (.ifCond .eq 28, 3) := by decide +kernel
theorem dX4_takeWord_87 : decode cX4_takeWord 87 = .ok (.aload_n 0, 1) := by decide +kernel
theorem dX4_takeWord_88 : decode cX4_takeWord 88 = .ok (.iload_n 1, 1) := by decide +kernel
theorem dX4_takeWord_89 : decode cX4_takeWord 89 = .ok (.bipush 6, 2) := by decide +kernel
theorem dX4_takeWord_91 : decode cX4_takeWord 91 = .ok (.if_icmp .ge 9, 3) := by decide +kernel
theorem dX4_takeWord_94 : decode cX4_takeWord 94 = .ok (.iconst 4, 1) := by decide +kernel
theorem dX4_takeWord_95 : decode cX4_takeWord 95 = .ok (.iload_n 1, 1) := by decide +kernel
theorem dX4_takeWord_96 : decode cX4_takeWord 96 = .ok (.iadd, 1) := by decide +kernel
theorem dX4_takeWord_97 : decode cX4_takeWord 97 = .ok (.goto 4, 3) := by decide +kernel
theorem dX4_takeWord_100 : decode cX4_takeWord 100 = .ok (.iconst 3, 1) := by decide +kernel
theorem dX4_takeWord_101 : decode cX4_takeWord 101 = .ok (.putfield 41, 3) := by decide +kernel
theorem dX4_takeWord_104 : decode cX4_takeWord 104 = .ok (.aload_n 0, 1) := by decide +kernel
theorem dX4_takeWord_105 : decode cX4_takeWord 105 = .ok (.iload_n 1, 1) := by decide +kernel
theorem dX4_takeWord_106 : decode cX4_takeWord 106 = .ok (.bipush 6, 2) := by decide +kernel
theorem dX4_takeWord_108 : decode cX4_takeWord 108 = .ok (.isub, 1) := by decide +kernel
theorem dX4_takeWord_109 : decode cX4_takeWord 109 = .ok (.putfield 63, 3) := by decide +kernel
theorem dX4_takeWord_112 : decode cX4_takeWord 112 = .ok (.iinc 1 1, 3) := by decide +kernel
theorem dX4_takeWord_115 : decode cX4_takeWord 115 = .ok (.iload_n 3, 1) := by decide +kernel
theorem dX4_takeWord_116 : decode cX4_takeWord 116 = .ok (.iconst 1, 1) := by decide +kernel
theorem dX4_takeWord_117 : decode cX4_takeWord 117 = .ok (.iadd, 1) := by decide +kernel
theorem dX4_takeWord_118 : decode cX4_takeWord 118 = .ok (.istore_n 2, 1) := by decide +kernel
theorem dX4_takeWord_119 : decode cX4_takeWord 119 = .ok (.iinc 3 1, 3) := by decide +kernel
theorem dX4_takeWord_122 : decode cX4_takeWord 122 = .ok (.goto (-64), 3) := by decide +kernel
theorem dX4_takeWord_125 : decode cX4_takeWord 125 = .ok (.return_, 1) := by decide +kernel
theorem dX4_isWord_0 : decode cX4_isWord 0 = .ok (.iload_n 2, 1) := by decide +kernel
theorem dX4_isWord_1 : decode cX4_isWord 1 = .ok (.iload_n 1, 1) := by decide +kernel
theorem dX4_isWord_2 : decode cX4_isWord 2 = .ok (.isub, 1) := by decide +kernel
theorem dX4_isWord_3 : decode cX4_isWord 3 = .ok (.aload_n 0, 1) := by decide +kernel
theorem dX4_isWord_4 : decode cX4_isWord 4 = .ok (.getfield 28, 3) := by decide +kernel
theorem dX4_isWord_7 : decode cX4_isWord 7 = .ok (.aload_n 0, 1) := by decide +kernel
theorem dX4_isWord_8 : decode cX4_isWord 8 = .ok (.getfield 66, 3) := by decide +kernel
theorem dX4_isWord_11 : decode cX4_isWord 11 = .ok (.isub, 1) := by decide +kernel
theorem dX4_isWord_12 : decode cX4_isWord 12 = .ok (.if_icmp .eq 5, 3) := by decide +kernel
theorem dX4_isWord_15 : decode cX4_isWord 15 = .ok (.iconst 0, 1) := by decide +kernel
theorem dX4_isWord_16 : decode cX4_isWord 16 = .ok (.ireturn, 1) := by decide +kernel
theorem dX4_isWord_17 : decode cX4_isWord 17 = .ok (.iload_n 1, 1) := by decide +kernel
theorem dX4_isWord_18 : decode cX4_isWord 18 = .ok (.istore_n 3, 1) := by decide +kernel
theorem dX4_isWord_19 : decode cX4_isWord 19 = .ok (.iload_n 3, 1) := by decide +kernel
theorem dX4_isWord_20 : decode cX4_isWord 20 = .ok (.iload_n 2, 1) := by decide +kernel
theorem dX4_isWord_21 : decode cX4_isWord 21 = .ok (.if_icmp .ge 33, 3) := by decide +kernel
theorem dX4_isWord_24 : decode cX4_isWord 24 = .ok (.ldc 84, 2) := by decide +kernel
theorem dX4_isWord_26 : decode cX4_isWord 26 = .ok (.iload_n 3, 1) := by decide +kernel
theorem dX4_isWord_27 : decode cX4_isWord 27 = .ok (.invokevirtual 92, 3) := by decide +kernel
theorem dX4_isWord_30 : decode cX4_isWord 30 = .ok (.aload_n 0, 1) := by decide +kernel
theorem dX4_isWord_31 : decode cX4_isWord 31 = .ok (.getfield 9, 3) := by decide +kernel
theorem dX4_isWord_34 : decode cX4_isWord 34 = .ok (.aload_n 0, 1) := by decide +kernel
theorem dX4_isWord_35 : decode cX4_isWord 35 = .ok (.getfield 66, 3) := by decide +kernel
theorem dX4_isWord_38 : decode cX4_isWord 38 = .ok (.iload_n 3, 1) := by decide +kernel
theorem dX4_isWord_39 : decode cX4_isWord 39 = .ok (.iadd, 1) := by decide +kernel
theorem dX4_isWord_40 : decode cX4_isWord 40 = .ok (.iload_n 1, 1) := by decide +kernel
theorem dX4_isWord_41 : decode cX4_isWord 41 = .ok (.isub, 1) := by decide +kernel
theorem dX4_isWord_42 : decode cX4_isWord 42 = .ok (.iaload, 1) := by decide +kernel
theorem dX4_isWord_43 : decode cX4_isWord 43 = .ok (.if_icmp .eq 5, 3) := by decide +kernel
theorem dX4_isWord_46 : decode cX4_isWord 46 = .ok (.iconst 0, 1) := by decide +kernel
theorem dX4_isWord_47 : decode cX4_isWord 47 = .ok (.ireturn, 1) := by decide +kernel
theorem dX4_isWord_48 : decode cX4_isWord 48 = .ok (.iinc 3 1, 3) := by decide +kernel
theorem dX4_isWord_51 : decode cX4_isWord 51 = .ok (.goto (-32), 3) := by decide +kernel
theorem dX4_isWord_54 : decode cX4_isWord 54 = .ok (.iconst 1, 1) := by decide +kernel
theorem dX4_isWord_55 : decode cX4_isWord 55 = .ok (.ireturn, 1) := by decide +kernel
theorem dX4_takeNumber_0 : decode cX4_takeNumber 0 = .ok (.aload_n 0, 1) := by decide +kernel
theorem dX4_takeNumber_1 : decode cX4_takeNumber 1 = .ok (.aload_n 0, 1) := by decide +kernel
theorem dX4_takeNumber_2 : decode cX4_takeNumber 2 = .ok (.getfield 66, 3) := by decide +kernel
theorem dX4_takeNumber_5 : decode cX4_takeNumber 5 = .ok (.putfield 28, 3) := by decide +kernel
theorem dX4_takeNumber_8 : decode cX4_takeNumber 8 = .ok (.aload_n 0, 1) := by decide +kernel
theorem dX4_takeNumber_9 : decode cX4_takeNumber 9 = .ok (.iconst 0, 1) := by decide +kernel
theorem dX4_takeNumber_10 : decode cX4_takeNumber 10 = .ok (.putfield 63, 3) := by decide +kernel
theorem dX4_takeNumber_13 : decode cX4_takeNumber 13 = .ok (.aload_n 0, 1) := by decide +kernel
theorem dX4_takeNumber_14 : decode cX4_takeNumber 14 = .ok (.getfield 28, 3) := by decide +kernel
theorem dX4_takeNumber_17 : decode cX4_takeNumber 17 = .ok (.aload_n 0, 1) := by decide +kernel
theorem dX4_takeNumber_18 : decode cX4_takeNumber 18 = .ok (.getfield 21, 3) := by decide +kernel
theorem dX4_takeNumber_21 : decode cX4_takeNumber 21 = .ok (.if_icmp .ge 55, 3) := by decide +kernel
theorem dX4_takeNumber_24 : decode cX4_takeNumber 24 = .ok (.aload_n 0, 1) := by decide +kernel
theorem dX4_takeNumber_25 : decode cX4_takeNumber 25 = .ok (.getfield 9, 3) := by decide +kernel
theorem dX4_takeNumber_28 : decode cX4_takeNumber 28 = .ok (.aload_n 0, 1) := by decide +kernel
theorem dX4_takeNumber_29 : decode cX4_takeNumber 29 = .ok (.getfield 28, 3) := by decide +kernel
theorem dX4_takeNumber_32 : decode cX4_takeNumber 32 = .ok (.iaload, 1) := by decide +kernel
theorem dX4_takeNumber_33 : decode cX4_takeNumber 33 = .ok (.invokestatic 75, 3) := by decide +kernel
theorem dX4_takeNumber_36 : decode cX4_takeNumber 36 = .ok (.ifCond .eq 40, 3) := by decide +kernel
theorem dX4_takeNumber_39 : decode cX4_takeNumber 39 = .ok (.aload_n 0, 1) := by decide +kernel
theorem dX4_takeNumber_40 : decode cX4_takeNumber 40 = .ok (.aload_n 0, 1) := by decide +kernel
theorem dX4_takeNumber_41 : decode cX4_takeNumber 41 = .ok (.getfield 63, 3) := by decide +kernel
theorem dX4_takeNumber_44 : decode cX4_takeNumber 44 = .ok (.bipush 10, 2) := by decide +kernel
theorem dX4_takeNumber_46 : decode cX4_takeNumber 46 = .ok (.imul, 1) := by decide +kernel
theorem dX4_takeNumber_47 : decode cX4_takeNumber 47 = .ok (.aload_n 0, 1) := by decide +kernel
theorem dX4_takeNumber_48 : decode cX4_takeNumber 48 = .ok (.getfield 9, 3) := by decide +kernel
theorem dX4_takeNumber_51 : decode cX4_takeNumber 51 = .ok (.aload_n 0, 1) := by decide +kernel
theorem dX4_takeNumber_52 : decode cX4_takeNumber 52 = .ok (.getfield 28, 3) := by decide +kernel
theorem dX4_takeNumber_55 : decode cX4_takeNumber 55 = .ok (.iaload, 1) := by decide +kernel
theorem dX4_takeNumber_56 : decode cX4_takeNumber 56 = .ok (.iadd, 1) := by decide +kernel
theorem dX4_takeNumber_57 : decode cX4_takeNumber 57 = .ok (.bipush 48, 2) := by decide +kernel
theorem dX4_takeNumber_59 : decode cX4_takeNumber 59 = .ok (.isub, 1) := by decide +kernel
theorem dX4_takeNumber_60 : decode cX4_takeNumber 60 = .ok (.putfield 63, 3) := by decide +kernel
theorem dX4_takeNumber_63 : decode cX4_takeNumber 63 = .ok (.aload_n 0, 1) := by decide +kernel
theorem dX4_takeNumber_64 : decode cX4_takeNumber 64 = .ok (.dup, 1) := by decide +kernel
theorem dX4_takeNumber_65 : decode cX4_takeNumber 65 = .ok (.getfield 28, 3) := by decide +kernel
theorem dX4_takeNumber_68 : decode cX4_takeNumber 68 = .ok (.iconst 1, 1) := by decide +kernel
theorem dX4_takeNumber_69 : decode cX4_takeNumber 69 = .ok (.iadd, 1) := by decide +kernel
theorem dX4_takeNumber_70 : decode cX4_takeNumber 70 = .ok (.putfield 28, 3) := by decide +kernel
theorem dX4_takeNumber_73 : decode cX4_takeNumber 73 = .ok (.goto (-60), 3) := by decide +kernel
theorem dX4_takeNumber_76 : decode cX4_takeNumber 76 = .ok (.aload_n 0, 1) := by decide +kernel
theorem dX4_takeNumber_77 : decode cX4_takeNumber 77 = .ok (.aload_n 0, 1) := by decide +kernel
theorem dX4_takeNumber_78 : decode cX4_takeNumber 78 = .ok (.getfield 28, 3) := by decide +kernel
theorem dX4_takeNumber_81 : decode cX4_takeNumber 81 = .ok (.aload_n 0, 1) := by decide +kernel
theorem dX4_takeNumber_82 : decode cX4_takeNumber 82 = .ok (.getfield 66, 3) := by decide +kernel
theorem dX4_takeNumber_85 : decode cX4_takeNumber 85 = .ok (.isub, 1) := by decide +kernel
theorem dX4_takeNumber_86 : decode cX4_takeNumber 86 = .ok (.iconst 4, 1) := by decide +kernel
theorem dX4_takeNumber_87 : decode cX4_takeNumber 87 = .ok (.if_icmp .le 7, 3) := by decide +kernel
theorem dX4_takeNumber_90 : decode cX4_takeNumber 90 = .ok (.iconst 1, 1) := by decide +kernel
theorem dX4_takeNumber_91 : decode cX4_takeNumber 91 = .ok (.goto 4, 3) := by decide +kernel
theorem dX4_takeNumber_94 : decode cX4_takeNumber 94 = .ok (.iconst 2, 1) := by decide +kernel
theorem dX4_takeNumber_95 : decode cX4_takeNumber 95 = .ok (.putfield 41, 3) := by decide +kernel
theorem dX4_takeNumber_98 : decode cX4_takeNumber 98 = .ok (.return_, 1) := by decide +kernel
theorem dX4_isLetter_0 : decode cX4_isLetter 0 = .ok (.iload_n 0, 1) := by decide +kernel
theorem dX4_isLetter_1 : decode cX4_isLetter 1 = .ok (.bipush 97, 2) := by decide +kernel
theorem dX4_isLetter_3 : decode cX4_isLetter 3 = .ok (.bipush 122, 2) := by decide +kernel
theorem dX4_isLetter_5 : decode cX4_isLetter 5 = .ok (.invokestatic 100, 3) := by decide +kernel
theorem dX4_isLetter_8 : decode cX4_isLetter 8 = .ok (.ireturn, 1) := by decide +kernel
theorem dX4_isDigit_0 : decode cX4_isDigit 0 = .ok (.iload_n 0, 1) := by decide +kernel
theorem dX4_isDigit_1 : decode cX4_isDigit 1 = .ok (.bipush 48, 2) := by decide +kernel
theorem dX4_isDigit_3 : decode cX4_isDigit 3 = .ok (.bipush 57, 2) := by decide +kernel
theorem dX4_isDigit_5 : decode cX4_isDigit 5 = .ok (.invokestatic 100, 3) := by decide +kernel
theorem dX4_isDigit_8 : decode cX4_isDigit 8 = .ok (.ireturn, 1) := by decide +kernel
theorem dX4_isSign_0 : decode cX4_isSign 0 = .ok (.iload_n 0, 1) := by decide +kernel
theorem dX4_isSign_1 : decode cX4_isSign 1 = .ok (.bipush 40, 2) := by decide +kernel
theorem dX4_isSign_3 : decode cX4_isSign 3 = .ok (.bipush 43, 2) := by decide +kernel
theorem dX4_isSign_5 : decode cX4_isSign 5 = .ok (.invokestatic 100, 3) := by decide +kernel
theorem dX4_isSign_8 : decode cX4_isSign 8 = .ok (.ifCond .ne 27, 3) := by decide +kernel
theorem dX4_isSign_11 : decode cX4_isSign 11 = .ok (.iload_n 0, 1) := by decide +kernel
theorem dX4_isSign_12 : decode cX4_isSign 12 = .ok (.bipush 45, 2) := by decide +kernel
theorem dX4_isSign_14 : decode cX4_isSign 14 = .ok (.if_icmp .eq 21, 3) := by decide +kernel
theorem dX4_isSign_17 : decode cX4_isSign 17 = .ok (.iload_n 0, 1) := by decide +kernel
theorem dX4_isSign_18 : decode cX4_isSign 18 = .ok (.bipush 59, 2) := by decide +kernel
theorem dX4_isSign_20 : decode cX4_isSign 20 = .ok (.if_icmp .eq 15, 3) := by decide +kernel
theorem dX4_isSign_23 : decode cX4_isSign 23 = .ok (.iload_n 0, 1) := by decide +kernel
theorem dX4_isSign_24 : decode cX4_isSign 24 = .ok (.bipush 60, 2) := by decide +kernel
theorem dX4_isSign_26 : decode cX4_isSign 26 = .ok (.if_icmp .eq 9, 3) := by decide +kernel
theorem dX4_isSign_29 : decode cX4_isSign 29 = .ok (.iload_n 0, 1) := by decide +kernel
theorem dX4_isSign_30 : decode cX4_isSign 30 = .ok (.bipush 61, 2) := by decide +kernel
theorem dX4_isSign_32 : decode cX4_isSign 32 = .ok (.if_icmp .ne 7, 3) := by decide +kernel
theorem dX4_isSign_35 : decode cX4_isSign 35 = .ok (.iconst 1, 1) := by decide +kernel
theorem dX4_isSign_36 : decode cX4_isSign 36 = .ok (.goto 4, 3) := by decide +kernel
theorem dX4_isSign_39 : decode cX4_isSign 39 = .ok (.iconst 0, 1) := by decide +kernel
theorem dX4_isSign_40 : decode cX4_isSign 40 = .ok (.ireturn, 1) := by decide +kernel
theorem dX5_init_0 : decode cX5_init 0 = .ok (.aload_n 0, 1) := by decide +kernel
theorem dX5_init_1 : decode cX5_init 1 = .ok (.invokespecial 3, 3) := by decide +kernel
theorem dX5_init_4 : decode cX5_init 4 = .ok (.aload_n 0, 1) := by decide +kernel
theorem dX5_init_5 : decode cX5_init 5 = .ok (.bipush 36, 2) := by decide +kernel
theorem dX5_init_7 : decode cX5_init 7 = .ok (.newarray .int, 2) := by decide +kernel
theorem dX5_init_9 : decode cX5_init 9 = .ok (.putfield 9, 3) := by decide +kernel
theorem dX5_init_12 : decode cX5_init 12 = .ok (.aload_n 0, 1) := by decide +kernel
theorem dX5_init_13 : decode cX5_init 13 = .ok (.iconst 4, 1) := by decide +kernel
theorem dX5_init_14 : decode cX5_init 14 = .ok (.bipush 6, 2) := by decide +kernel
theorem dX5_init_16 : decode cX5_init 16 = .ok (.multianewarray 15 2, 4) := by decide +kernel
theorem dX5_init_20 : decode cX5_init 20 = .ok (.putfield 17, 3) := by decide +kernel
theorem dX5_init_23 : decode cX5_init 23 = .ok (.aload_n 0, 1) := by decide +kernel
theorem dX5_init_24 : decode cX5_init 24 = .ok (.bipush 6, 2) := by decide +kernel
theorem dX5_init_26 : decode cX5_init 26 = .ok (.newarray .int, 2) := by decide +kernel
theorem dX5_init_28 : decode cX5_init 28 = .ok (.putfield 22, 3) := by decide +kernel
theorem dX5_init_31 : decode cX5_init 31 = .ok (.aload_n 0, 1) := by decide +kernel
theorem dX5_init_32 : decode cX5_init 32 = .ok (.bipush 36, 2) := by decide +kernel
theorem dX5_init_34 : decode cX5_init 34 = .ok (.newarray .int, 2) := by decide +kernel
theorem dX5_init_36 : decode cX5_init 36 = .ok (.putfield 25, 3) := by decide +kernel
theorem dX5_init_39 : decode cX5_init 39 = .ok (.aload_n 0, 1) := by decide +kernel
theorem dX5_init_40 : decode cX5_init 40 = .ok (.bipush 36, 2) := by decide +kernel
theorem dX5_init_42 : decode cX5_init 42 = .ok (.newarray .int, 2) := by decide +kernel
theorem dX5_init_44 : decode cX5_init 44 = .ok (.putfield 28, 3) := by decide +kernel
theorem dX5_init_47 : decode cX5_init 47 = .ok (.aload_n 0, 1) := by decide +kernel
theorem dX5_init_48 : decode cX5_init 48 = .ok (.aload_n 1, 1) := by decide +kernel
theorem dX5_init_49 : decode cX5_init 49 = .ok (.putfield 31, 3) := by decide +kernel
theorem dX5_init_52 : decode cX5_init 52 = .ok (.aload_n 0, 1) := by decide +kernel
theorem dX5_init_53 : decode cX5_init 53 = .ok (.aload_n 2, 1) := by decide +kernel
theorem dX5_init_54 : decode cX5_init 54 = .ok (.putfield 35, 3) := by decide +kernel
theorem dX5_init_57 : decode cX5_init 57 = .ok (.return_, 1) := by decide +kernel
theorem dX5_takeFrom_0 : decode cX5_takeFrom 0 = .ok (.aload_n 1, 1) := by decide +kernel
theorem dX5_takeFrom_1 : decode cX5_takeFrom 1 = .ok (.getfield 9, 3) := by decide +kernel
theorem dX5_takeFrom_4 : decode cX5_takeFrom 4 = .ok (.iconst 0, 1) := by decide +kernel
theorem dX5_takeFrom_5 : decode cX5_takeFrom 5 = .ok (.aload_n 0, 1) := by decide +kernel
theorem dX5_takeFrom_6 : decode cX5_takeFrom 6 = .ok (.getfield 9, 3) := by decide +kernel
theorem dX5_takeFrom_9 : decode cX5_takeFrom 9 = .ok (.iconst 0, 1) := by decide +kernel
theorem dX5_takeFrom_10 : decode cX5_takeFrom 10 = .ok (.bipush 36, 2) := by decide +kernel
theorem dX5_takeFrom_12 : decode cX5_takeFrom 12 = .ok (.invokestatic 39, 3) := by decide +kernel
theorem dX5_takeFrom_15 : decode cX5_takeFrom 15 = .ok (.iconst 0, 1) := by decide +kernel
theorem dX5_takeFrom_16 : decode cX5_takeFrom 16 = .ok (.istore_n 2, 1) := by decide +kernel
theorem dX5_takeFrom_17 : decode cX5_takeFrom 17 = .ok (.iload_n 2, 1) := by decide +kernel
theorem dX5_takeFrom_18 : decode cX5_takeFrom 18 = .ok (.iconst 4, 1) := by decide +kernel
theorem dX5_takeFrom_19 : decode cX5_takeFrom 19 = .ok (.if_icmp .ge 28, 3) := by decide +kernel
theorem dX5_takeFrom_22 : decode cX5_takeFrom 22 = .ok (.aload_n 1, 1) := by decide +kernel
theorem dX5_takeFrom_23 : decode cX5_takeFrom 23 = .ok (.getfield 17, 3) := by decide +kernel
theorem dX5_takeFrom_26 : decode cX5_takeFrom 26 = .ok (.iload_n 2, 1) := by decide +kernel
theorem dX5_takeFrom_27 : decode cX5_takeFrom 27 = .ok (.aaload, 1) := by decide +kernel
theorem dX5_takeFrom_28 : decode cX5_takeFrom 28 = .ok (.iconst 0, 1) := by decide +kernel
theorem dX5_takeFrom_29 : decode cX5_takeFrom 29 = .ok (.aload_n 0, 1) := by decide +kernel
theorem dX5_takeFrom_30 : decode cX5_takeFrom 30 = .ok (.getfield 17, 3) := by decide +kernel
theorem dX5_takeFrom_33 : decode cX5_takeFrom 33 = .ok (.iload_n 2, 1) := by decide +kernel
theorem dX5_takeFrom_34 : decode cX5_takeFrom 34 = .ok (.aaload, 1) := by decide +kernel
theorem dX5_takeFrom_35 : decode cX5_takeFrom 35 = .ok (.iconst 0, 1) := by decide +kernel
theorem dX5_takeFrom_36 : decode cX5_takeFrom 36 = .ok (.bipush 6, 2) := by decide +kernel
theorem dX5_takeFrom_38 : decode cX5_takeFrom 38 = .ok (.invokestatic 39, 3) := by decide +kernel
theorem dX5_takeFrom_41 : decode cX5_takeFrom 41 = .ok (.iinc 2 1, 3) := by decide +kernel
theorem dX5_takeFrom_44 : decode cX5_takeFrom 44 = .ok (.goto (-27), 3) := by decide +kernel
theorem dX5_takeFrom_47 : decode cX5_takeFrom 47 = .ok (.aload_n 0, 1) := by decide +kernel
theorem dX5_takeFrom_48 : decode cX5_takeFrom 48 = .ok (.aload_n 1, 1) := by decide +kernel
theorem dX5_takeFrom_49 : decode cX5_takeFrom 49 = .ok (.getfield 45, 3) := by decide +kernel
theorem dX5_takeFrom_52 : decode cX5_takeFrom 52 = .ok (.putfield 45, 3) := by decide +kernel
theorem dX5_takeFrom_55 : decode cX5_takeFrom 55 = .ok (.aload_n 0, 1) := by decide +kernel
theorem dX5_takeFrom_56 : decode cX5_takeFrom 56 = .ok (.aload_n 1, 1) := by decide +kernel
theorem dX5_takeFrom_57 : decode cX5_takeFrom 57 = .ok (.getfield 49, 3) := by decide +kernel
theorem dX5_takeFrom_60 : decode cX5_takeFrom 60 = .ok (.putfield 49, 3) := by decide +kernel
theorem dX5_takeFrom_63 : decode cX5_takeFrom 63 = .ok (.aload_n 0, 1) := by decide +kernel
theorem dX5_takeFrom_64 : decode cX5_takeFrom 64 = .ok (.aload_n 1, 1) := by decide +kernel
theorem dX5_takeFrom_65 : decode cX5_takeFrom 65 = .ok (.getfield 52, 3) := by decide +kernel
theorem dX5_takeFrom_68 : decode cX5_takeFrom 68 = .ok (.putfield 52, 3) := by decide +kernel
theorem dX5_takeFrom_71 : decode cX5_takeFrom 71 = .ok (.return_, 1) := by decide +kernel
theorem dX5_has_0 : decode cX5_has 0 = .ok (.iload_n 1, 1) := by decide +kernel
theorem dX5_has_1 : decode cX5_has 1 = .ok (.iconst 0, 1) := by decide +kernel
theorem dX5_has_2 : decode cX5_has 2 = .ok (.aload_n 0, 1) := by decide +kernel
theorem dX5_has_3 : decode cX5_has 3 = .ok (.getfield 45, 3) := by decide +kernel
theorem dX5_has_6 : decode cX5_has 6 = .ok (.iconst 1, 1) := by decide +kernel
theorem dX5_has_7 : decode cX5_has 7 = .ok (.isub, 1) := by decide +kernel
theorem dX5_has_8 : decode cX5_has 8 = .ok (.invokestatic 55, 3) := by decide +kernel
theorem dX5_has_11 : decode cX5_has 11 = .ok (.ireturn, 1) := by decide +kernel
theorem dX5_admit_0 : decode cX5_admit 0 = .ok (.aload_n 0, 1) := by decide +kernel
theorem dX5_admit_1 : decode cX5_admit 1 = .ok (.getfield 45, 3) := by decide +kernel
theorem dX5_admit_4 : decode cX5_admit 4 = .ok (.bipush 6, 2) := by decide +kernel
theorem dX5_admit_6 : decode cX5_admit 6 = .ok (.if_icmp .lt 6, 3) := by decide +kernel
theorem dX5_admit_9 : decode cX5_admit 9 = .ok (.bipush (-4), 2) := by decide +kernel
theorem dX5_admit_11 : decode cX5_admit 11 = .ok (.ireturn, 1) := by decide +kernel
theorem dX5_admit_12 : decode cX5_admit 12 = .ok (.aload_n 0, 1) := by decide +kernel
theorem dX5_admit_13 : decode cX5_admit 13 = .ok (.getfield 17, 3) := by decide +kernel
theorem dX5_admit_16 : decode cX5_admit 16 = .ok (.iconst 2, 1) := by decide +kernel
theorem dX5_admit_17 : decode cX5_admit 17 = .ok (.aaload, 1) := by decide +kernel
theorem dX5_admit_18 : decode cX5_admit 18 = .ok (.aload_n 0, 1) := by decide +kernel
theorem dX5_admit_19 : decode cX5_admit 19 = .ok (.getfield 45, 3) := by decide +kernel
theorem dX5_admit_22 : decode cX5_admit 22 = .ok (.iload_n 1, 1) := by decide +kernel
theorem dX5_admit_23 : decode cX5_admit 23 = .ok (.bipush 10, 2) := by decide +kernel
theorem dX5_admit_25 : decode cX5_admit 25 = .ok (.idiv, 1) := by decide +kernel
theorem dX5_admit_26 : decode cX5_admit 26 = .ok (.iastore, 1) := by decide +kernel
theorem dX5_admit_27 : decode cX5_admit 27 = .ok (.aload_n 0, 1) := by decide +kernel
theorem dX5_admit_28 : decode cX5_admit 28 = .ok (.getfield 17, 3) := by decide +kernel
theorem dX5_admit_31 : decode cX5_admit 31 = .ok (.iconst 3, 1) := by decide +kernel
theorem dX5_admit_32 : decode cX5_admit 32 = .ok (.aaload, 1) := by decide +kernel
theorem dX5_admit_33 : decode cX5_admit 33 = .ok (.aload_n 0, 1) := by decide +kernel
theorem dX5_admit_34 : decode cX5_admit 34 = .ok (.getfield 45, 3) := by decide +kernel
theorem dX5_admit_37 : decode cX5_admit 37 = .ok (.iload_n 1, 1) := by decide +kernel
theorem dX5_admit_38 : decode cX5_admit 38 = .ok (.bipush 10, 2) := by decide +kernel
theorem dX5_admit_40 : decode cX5_admit 40 = .ok (.irem, 1) := by decide +kernel
theorem dX5_admit_41 : decode cX5_admit 41 = .ok (.iastore, 1) := by decide +kernel
theorem dX5_admit_42 : decode cX5_admit 42 = .ok (.aload_n 0, 1) := by decide +kernel
theorem dX5_admit_43 : decode cX5_admit 43 = .ok (.getfield 17, 3) := by decide +kernel
theorem dX5_admit_46 : decode cX5_admit 46 = .ok (.iconst 0, 1) := by decide +kernel
theorem dX5_admit_47 : decode cX5_admit 47 = .ok (.aaload, 1) := by decide +kernel
theorem dX5_admit_48 : decode cX5_admit 48 = .ok (.aload_n 0, 1) := by decide +kernel
theorem dX5_admit_49 : decode cX5_admit 49 = .ok (.getfield 45, 3) := by decide +kernel
theorem dX5_admit_52 : decode cX5_admit 52 = .ok (.iload_n 2, 1) := by decide +kernel
theorem dX5_admit_53 : decode cX5_admit 53 = .ok (.bipush 100, 2) := by decide +kernel
theorem dX5_admit_55 : decode cX5_admit 55 = .ok (.idiv, 1) := by decide +kernel
theorem dX5_admit_56 : decode cX5_admit 56 = .ok (.iastore, 1) := by decide +kernel
theorem dX5_admit_57 : decode cX5_admit 57 = .ok (.aload_n 0, 1) := by decide +kernel
theorem dX5_admit_58 : decode cX5_admit 58 = .ok (.getfield 17, 3) := by decide +kernel
theorem dX5_admit_61 : decode cX5_admit 61 = .ok (.iconst 1, 1) := by decide +kernel
theorem dX5_admit_62 : decode cX5_admit 62 = .ok (.aaload, 1) := by decide +kernel
theorem dX5_admit_63 : decode cX5_admit 63 = .ok (.aload_n 0, 1) := by decide +kernel
theorem dX5_admit_64 : decode cX5_admit 64 = .ok (.getfield 45, 3) := by decide +kernel
theorem dX5_admit_67 : decode cX5_admit 67 = .ok (.iload_n 2, 1) := by decide +kernel
theorem dX5_admit_68 : decode cX5_admit 68 = .ok (.bipush 100, 2) := by decide +kernel
theorem dX5_admit_70 : decode cX5_admit 70 = .ok (.irem, 1) := by decide +kernel
theorem dX5_admit_71 : decode cX5_admit 71 = .ok (.iastore, 1) := by decide +kernel
theorem dX5_admit_72 : decode cX5_admit 72 = .ok (.aload_n 0, 1) := by decide +kernel
theorem dX5_admit_73 : decode cX5_admit 73 = .ok (.dup, 1) := by decide +kernel
theorem dX5_admit_74 : decode cX5_admit 74 = .ok (.getfield 45, 3) := by decide +kernel
theorem dX5_admit_77 : decode cX5_admit 77 = .ok (.iconst 1, 1) := by decide +kernel
theorem dX5_admit_78 : decode cX5_admit 78 = .ok (.iadd, 1) := by decide +kernel
theorem dX5_admit_79 : decode cX5_admit 79 = .ok (.putfield 45, 3) := by decide +kernel
theorem dX5_admit_82 : decode cX5_admit 82 = .ok (.aload_n 0, 1) := by decide +kernel
theorem dX5_admit_83 : decode cX5_admit 83 = .ok (.getfield 45, 3) := by decide +kernel
theorem dX5_admit_86 : decode cX5_admit 86 = .ok (.iconst 1, 1) := by decide +kernel
theorem dX5_admit_87 : decode cX5_admit 87 = .ok (.isub, 1) := by decide +kernel
theorem dX5_admit_88 : decode cX5_admit 88 = .ok (.ireturn, 1) := by decide +kernel
theorem dX5_dismiss_0 : decode cX5_dismiss 0 = .ok (.iload_n 1, 1) := by decide +kernel
theorem dX5_dismiss_1 : decode cX5_dismiss 1 = .ok (.iconst 1, 1) := by decide +kernel
theorem dX5_dismiss_2 : decode cX5_dismiss 2 = .ok (.iadd, 1) := by decide +kernel
theorem dX5_dismiss_3 : decode cX5_dismiss 3 = .ok (.istore_n 2, 1) := by decide +kernel
theorem dX5_dismiss_4 : decode cX5_dismiss 4 = .ok (.iload_n 2, 1) := by decide +kernel
theorem dX5_dismiss_5 : decode cX5_dismiss 5 = .ok (.aload_n 0, 1) := by decide +kernel
theorem dX5_dismiss_6 : decode cX5_dismiss 6 = .ok (.getfield 45, 3) := by decide +kernel
theorem dX5_dismiss_9 : decode cX5_dismiss 9 = .ok (.if_icmp .ge 40, 3) := by decide +kernel
theorem dX5_dismiss_12 : decode cX5_dismiss 12 = .ok (.iconst 0, 1) := by decide +kernel
theorem dX5_dismiss_13 : decode cX5_dismiss 13 = .ok (.istore_n 3, 1) := by decide +kernel
theorem dX5_dismiss_14 : decode cX5_dismiss 14 = .ok (.iload_n 3, 1) := by decide +kernel
theorem dX5_dismiss_15 : decode cX5_dismiss 15 = .ok (.iconst 4, 1) := by decide +kernel
theorem dX5_dismiss_16 : decode cX5_dismiss 16 = .ok (.if_icmp .ge 27, 3) := by decide +kernel
theorem dX5_dismiss_19 : decode cX5_dismiss 19 = .ok (.aload_n 0, 1) := by decide +kernel
theorem dX5_dismiss_20 : decode cX5_dismiss 20 = .ok (.getfield 17, 3) := by decide +kernel
theorem dX5_dismiss_23 : decode cX5_dismiss 23 = .ok (.iload_n 3, 1) := by decide +kernel
theorem dX5_dismiss_24 : decode cX5_dismiss 24 = .ok (.aaload, 1) := by decide +kernel
theorem dX5_dismiss_25 : decode cX5_dismiss 25 = .ok (.iload_n 2, 1) := by decide +kernel
theorem dX5_dismiss_26 : decode cX5_dismiss 26 = .ok (.iconst 1, 1) := by decide +kernel
theorem dX5_dismiss_27 : decode cX5_dismiss 27 = .ok (.isub, 1) := by decide +kernel
theorem dX5_dismiss_28 : decode cX5_dismiss 28 = .ok (.aload_n 0, 1) := by decide +kernel
theorem dX5_dismiss_29 : decode cX5_dismiss 29 = .ok (.getfield 17, 3) := by decide +kernel
theorem dX5_dismiss_32 : decode cX5_dismiss 32 = .ok (.iload_n 3, 1) := by decide +kernel
theorem dX5_dismiss_33 : decode cX5_dismiss 33 = .ok (.aaload, 1) := by decide +kernel
theorem dX5_dismiss_34 : decode cX5_dismiss 34 = .ok (.iload_n 2, 1) := by decide +kernel
theorem dX5_dismiss_35 : decode cX5_dismiss 35 = .ok (.iaload, 1) := by decide +kernel
theorem dX5_dismiss_36 : decode cX5_dismiss 36 = .ok (.iastore, 1) := by decide +kernel
theorem dX5_dismiss_37 : decode cX5_dismiss 37 = .ok (.iinc 3 1, 3) := by decide +kernel
theorem dX5_dismiss_40 : decode cX5_dismiss 40 = .ok (.goto (-26), 3) := by decide +kernel
theorem dX5_dismiss_43 : decode cX5_dismiss 43 = .ok (.iinc 2 1, 3) := by decide +kernel
theorem dX5_dismiss_46 : decode cX5_dismiss 46 = .ok (.goto (-42), 3) := by decide +kernel
theorem dX5_dismiss_49 : decode cX5_dismiss 49 = .ok (.aload_n 0, 1) := by decide +kernel
theorem dX5_dismiss_50 : decode cX5_dismiss 50 = .ok (.dup, 1) := by decide +kernel
theorem dX5_dismiss_51 : decode cX5_dismiss 51 = .ok (.getfield 45, 3) := by decide +kernel
theorem dX5_dismiss_54 : decode cX5_dismiss 54 = .ok (.iconst 1, 1) := by decide +kernel
theorem dX5_dismiss_55 : decode cX5_dismiss 55 = .ok (.isub, 1) := by decide +kernel
theorem dX5_dismiss_56 : decode cX5_dismiss 56 = .ok (.putfield 45, 3) := by decide +kernel
theorem dX5_dismiss_59 : decode cX5_dismiss 59 = .ok (.return_, 1) := by decide +kernel
theorem dX5_total_0 : decode cX5_total 0 = .ok (.iconst 0, 1) := by decide +kernel
theorem dX5_total_1 : decode cX5_total 1 = .ok (.istore_n 3, 1) := by decide +kernel
theorem dX5_total_2 : decode cX5_total 2 = .ok (.iload_n 1, 1) := by decide +kernel
theorem dX5_total_3 : decode cX5_total 3 = .ok (.istore 4, 2) := by decide +kernel
theorem dX5_total_5 : decode cX5_total 5 = .ok (.iload 4, 2) := by decide +kernel
theorem dX5_total_7 : decode cX5_total 7 = .ok (.iload_n 2, 1) := by decide +kernel
theorem dX5_total_8 : decode cX5_total 8 = .ok (.if_icmp .ge 19, 3) := by decide +kernel
theorem dX5_total_11 : decode cX5_total 11 = .ok (.iload_n 3, 1) := by decide +kernel
theorem dX5_total_12 : decode cX5_total 12 = .ok (.aload_n 0, 1) := by decide +kernel
theorem dX5_total_13 : decode cX5_total 13 = .ok (.getfield 9, 3) := by decide +kernel
theorem dX5_total_16 : decode cX5_total 16 = .ok (.iload 4, 2) := by decide +kernel
theorem dX5_total_18 : decode cX5_total 18 = .ok (.iaload, 1) := by decide +kernel
theorem dX5_total_19 : decode cX5_total 19 = .ok (.iadd, 1) := by decide +kernel
theorem dX5_total_20 : decode cX5_total 20 = .ok (.istore_n 3, 1) := by decide +kernel
theorem dX5_total_21 : decode cX5_total 21 = .ok (.iinc 4 1, 3) := by decide +kernel
theorem dX5_total_24 : decode cX5_total 24 = .ok (.goto (-19), 3) := by decide +kernel
theorem dX5_total_27 : decode cX5_total 27 = .ok (.iload_n 3, 1) := by decide +kernel
theorem dX5_total_28 : decode cX5_total 28 = .ok (.ireturn, 1) := by decide +kernel
theorem dX5_totalOf_0 : decode cX5_totalOf 0 = .ok (.iconst 0, 1) := by decide +kernel
theorem dX5_totalOf_1 : decode cX5_totalOf 1 = .ok (.istore_n 3, 1) := by decide +kernel
theorem dX5_totalOf_2 : decode cX5_totalOf 2 = .ok (.iconst 0, 1) := by decide +kernel
theorem dX5_totalOf_3 : decode cX5_totalOf 3 = .ok (.istore 4, 2) := by decide +kernel
theorem dX5_totalOf_5 : decode cX5_totalOf 5 = .ok (.iload 4, 2) := by decide +kernel
theorem dX5_totalOf_7 : decode cX5_totalOf 7 = .ok (.bipush 36, 2) := by decide +kernel
theorem dX5_totalOf_9 : decode cX5_totalOf 9 = .ok (.if_icmp .ge 36, 3) := by decide +kernel
theorem dX5_totalOf_12 : decode cX5_totalOf 12 = .ok (.iload_n 3, 1) := by decide +kernel
theorem dX5_totalOf_13 : decode cX5_totalOf 13 = .ok (.lload_n 1, 1) := by decide +kernel
theorem dX5_totalOf_14 : decode cX5_totalOf 14 = .ok (.iload 4, 2) := by decide +kernel
theorem dX5_totalOf_16 : decode cX5_totalOf 16 = .ok (.lushr, 1) := by decide +kernel
theorem dX5_totalOf_17 : decode cX5_totalOf 17 = .ok (.ldc2_w 59, 3) := by decide +kernel
theorem dX5_totalOf_20 : decode cX5_totalOf 20 = .ok (.lrem, 1) := by decide +kernel
theorem dX5_totalOf_21 : decode cX5_totalOf 21 = .ok (.lconst 1, 1) := by decide +kernel
theorem dX5_totalOf_22 : decode cX5_totalOf 22 = .ok (.lcmp, 1) := by decide +kernel
theorem dX5_totalOf_23 : decode cX5_totalOf 23 = .ok (.ifCond .ne 13, 3) := by decide +kernel
theorem dX5_totalOf_26 : decode cX5_totalOf 26 = .ok (.aload_n 0, 1) := by decide +kernel
theorem dX5_totalOf_27 : decode cX5_totalOf 27 = .ok (.getfield 9, 3) := by decide +kernel
theorem dX5_totalOf_30 : decode cX5_totalOf 30 = .ok (.iload 4, 2) := by decide +kernel
theorem dX5_totalOf_32 : decode cX5_totalOf 32 = .ok (.iaload, 1) := by decide +kernel
theorem dX5_totalOf_33 : decode cX5_totalOf 33 = .ok (.goto 4, 3) := by decide +kernel
theorem dX5_totalOf_36 : decode cX5_totalOf 36 = .ok (.iconst 0, 1) := by decide +kernel
theorem dX5_totalOf_37 : decode cX5_totalOf 37 = .ok (.iadd, 1) := by decide +kernel
theorem dX5_totalOf_38 : decode cX5_totalOf 38 = .ok (.istore_n 3, 1) := by decide +kernel
theorem dX5_totalOf_39 : decode cX5_totalOf 39 = .ok (.iinc 4 1, 3) := by decide +kernel
theorem dX5_totalOf_42 : decode cX5_totalOf 42 = .ok (.goto (-37), 3) := by decide +kernel
theorem dX5_totalOf_45 : decode cX5_totalOf 45 = .ok (.iload_n 3, 1) := by decide +kernel
theorem dX5_totalOf_46 : decode cX5_totalOf 46 = .ok (.ireturn, 1) := by decide +kernel
theorem dX5_said_0 : decode cX5_said 0 = .ok (.aload_n 0, 1) := by decide +kernel
theorem dX5_said_1 : decode cX5_said 1 = .ok (.getfield 22, 3) := by decide +kernel
theorem dX5_said_4 : decode cX5_said 4 = .ok (.iconst 0, 1) := by decide +kernel
theorem dX5_said_5 : decode cX5_said 5 = .ok (.iload_n 3, 1) := by decide +kernel
theorem dX5_said_6 : decode cX5_said 6 = .ok (.bipush 6, 2) := by decide +kernel
theorem dX5_said_8 : decode cX5_said 8 = .ok (.irem, 1) := by decide +kernel
theorem dX5_said_9 : decode cX5_said 9 = .ok (.iastore, 1) := by decide +kernel
theorem dX5_said_10 : decode cX5_said 10 = .ok (.aload_n 0, 1) := by decide +kernel
theorem dX5_said_11 : decode cX5_said 11 = .ok (.getfield 22, 3) := by decide +kernel
theorem dX5_said_14 : decode cX5_said 14 = .ok (.iconst 1, 1) := by decide +kernel
theorem dX5_said_15 : decode cX5_said 15 = .ok (.iload_n 3, 1) := by decide +kernel
theorem dX5_said_16 : decode cX5_said 16 = .ok (.bipush 6, 2) := by decide +kernel
theorem dX5_said_18 : decode cX5_said 18 = .ok (.idiv, 1) := by decide +kernel
theorem dX5_said_19 : decode cX5_said 19 = .ok (.iastore, 1) := by decide +kernel
theorem dX5_said_20 : decode cX5_said 20 = .ok (.aload_n 0, 1) := by decide +kernel
theorem dX5_said_21 : decode cX5_said 21 = .ok (.getfield 22, 3) := by decide +kernel
theorem dX5_said_24 : decode cX5_said 24 = .ok (.iconst 2, 1) := by decide +kernel
theorem dX5_said_25 : decode cX5_said 25 = .ok (.aload_n 0, 1) := by decide +kernel
theorem dX5_said_26 : decode cX5_said 26 = .ok (.getfield 9, 3) := by decide +kernel
theorem dX5_said_29 : decode cX5_said 29 = .ok (.iload_n 3, 1) := by decide +kernel
theorem dX5_said_30 : decode cX5_said 30 = .ok (.iaload, 1) := by decide +kernel
theorem dX5_said_31 : decode cX5_said 31 = .ok (.iastore, 1) := by decide +kernel
theorem dX5_said_32 : decode cX5_said 32 = .ok (.aload_n 0, 1) := by decide +kernel
theorem dX5_said_33 : decode cX5_said 33 = .ok (.getfield 22, 3) := by decide +kernel
theorem dX5_said_36 : decode cX5_said 36 = .ok (.iconst 3, 1) := by decide +kernel
theorem dX5_said_37 : decode cX5_said 37 = .ok (.aload_n 0, 1) := by decide +kernel
theorem dX5_said_38 : decode cX5_said 38 = .ok (.getfield 49, 3) := by decide +kernel
theorem dX5_said_41 : decode cX5_said 41 = .ok (.iastore, 1) := by decide +kernel
theorem dX5_said_42 : decode cX5_said 42 = .ok (.aload_n 0, 1) := by decide +kernel
theorem dX5_said_43 : decode cX5_said 43 = .ok (.getfield 22, 3) := by decide +kernel
theorem dX5_said_46 : decode cX5_said 46 = .ok (.iconst 4, 1) := by decide +kernel
theorem dX5_said_47 : decode cX5_said 47 = .ok (.aload_n 0, 1) := by decide +kernel
theorem dX5_said_48 : decode cX5_said 48 = .ok (.getfield 17, 3) := by decide +kernel
theorem dX5_said_51 : decode cX5_said 51 = .ok (.iconst 1, 1) := by decide +kernel
theorem dX5_said_52 : decode cX5_said 52 = .ok (.aaload, 1) := by decide +kernel
theorem dX5_said_53 : decode cX5_said 53 = .ok (.iload_n 2, 1) := by decide +kernel
theorem dX5_said_54 : decode cX5_said 54 = .ok (.iaload, 1) := by decide +kernel
theorem dX5_said_55 : decode cX5_said 55 = .ok (.iastore, 1) := by decide +kernel
theorem dX5_said_56 : decode cX5_said 56 = .ok (.aload_n 0, 1) := by decide +kernel
theorem dX5_said_57 : decode cX5_said 57 = .ok (.getfield 22, 3) := by decide +kernel
theorem dX5_said_60 : decode cX5_said 60 = .ok (.iconst 5, 1) := by decide +kernel
theorem dX5_said_61 : decode cX5_said 61 = .ok (.aload_n 0, 1) := by decide +kernel
theorem dX5_said_62 : decode cX5_said 62 = .ok (.getfield 17, 3) := by decide +kernel
theorem dX5_said_65 : decode cX5_said 65 = .ok (.iconst 3, 1) := by decide +kernel
theorem dX5_said_66 : decode cX5_said 66 = .ok (.aaload, 1) := by decide +kernel
theorem dX5_said_67 : decode cX5_said 67 = .ok (.iload_n 2, 1) := by decide +kernel
theorem dX5_said_68 : decode cX5_said 68 = .ok (.iaload, 1) := by decide +kernel
theorem dX5_said_69 : decode cX5_said 69 = .ok (.iastore, 1) := by decide +kernel
theorem dX5_said_70 : decode cX5_said 70 = .ok (.aload_n 0, 1) := by decide +kernel
theorem dX5_said_71 : decode cX5_said 71 = .ok (.getfield 31, 3) := by decide +kernel
theorem dX5_said_74 : decode cX5_said 74 = .ok (.aload_n 0, 1) := by decide +kernel
theorem dX5_said_75 : decode cX5_said 75 = .ok (.getfield 52, 3) := by decide +kernel
theorem dX5_said_78 : decode cX5_said 78 = .ok (.aaload, 1) := by decide +kernel
theorem dX5_said_79 : decode cX5_said 79 = .ok (.iload_n 1, 1) := by decide +kernel
theorem dX5_said_80 : decode cX5_said 80 = .ok (.aload_n 0, 1) := by decide +kernel
theorem dX5_said_81 : decode cX5_said 81 = .ok (.getfield 22, 3) := by decide +kernel
theorem dX5_said_84 : decode cX5_said 84 = .ok (.invokevirtual 61, 3) := by decide +kernel
theorem dX5_said_87 : decode cX5_said 87 = .ok (.ireturn, 1) := by decide +kernel
theorem dX5_kindOf_0 : decode cX5_kindOf 0 = .ok (.aload_n 0, 1) := by decide +kernel
theorem dX5_kindOf_1 : decode cX5_kindOf 1 = .ok (.getfield 35, 3) := by decide +kernel
theorem dX5_kindOf_4 : decode cX5_kindOf 4 = .ok (.aload_n 0, 1) := by decide +kernel
theorem dX5_kindOf_5 : decode cX5_kindOf 5 = .ok (.getfield 17, 3) := by decide +kernel
theorem dX5_kindOf_8 : decode cX5_kindOf 8 = .ok (.iconst 2, 1) := by decide +kernel
theorem dX5_kindOf_9 : decode cX5_kindOf 9 = .ok (.aaload, 1) := by decide +kernel
theorem dX5_kindOf_10 : decode cX5_kindOf 10 = .ok (.iload_n 1, 1) := by decide +kernel
theorem dX5_kindOf_11 : decode cX5_kindOf 11 = .ok (.iaload, 1) := by decide +kernel
theorem dX5_kindOf_12 : decode cX5_kindOf 12 = .ok (.aaload, 1) := by decide +kernel
theorem dX5_kindOf_13 : decode cX5_kindOf 13 = .ok (.areturn, 1) := by decide +kernel
theorem dX5_felt_0 : decode cX5_felt 0 = .ok (.aload_n 0, 1) := by decide +kernel
theorem dX5_felt_1 : decode cX5_felt 1 = .ok (.iload_n 1, 1) := by decide +kernel
theorem dX5_felt_2 : decode cX5_felt 2 = .ok (.invokevirtual 67, 3) := by decide +kernel
theorem dX5_felt_5 : decode cX5_felt 5 = .ok (.aload_n 0, 1) := by decide +kernel
theorem dX5_felt_6 : decode cX5_felt 6 = .ok (.iconst 2, 1) := by decide +kernel
theorem dX5_felt_7 : decode cX5_felt 7 = .ok (.iload_n 1, 1) := by decide +kernel
theorem dX5_felt_8 : decode cX5_felt 8 = .ok (.iload_n 2, 1) := by decide +kernel
theorem dX5_felt_9 : decode cX5_felt 9 = .ok (.invokevirtual 71, 3) := by decide +kernel
theorem dX5_felt_12 : decode cX5_felt 12 = .ok (.aload_n 0, 1) := by decide +kernel
theorem dX5_felt_13 : decode cX5_felt 13 = .ok (.getfield 17, 3) := by decide +kernel
theorem dX5_felt_16 : decode cX5_felt 16 = .ok (.iconst 3, 1) := by decide +kernel
theorem dX5_felt_17 : decode cX5_felt 17 = .ok (.aaload, 1) := by decide +kernel
theorem dX5_felt_18 : decode cX5_felt 18 = .ok (.iload_n 1, 1) := by decide +kernel
theorem dX5_felt_19 : decode cX5_felt 19 = .ok (.iaload, 1) := by decide +kernel
theorem dX5_felt_20 : decode cX5_felt 20 = .ok (.invokevirtual 75, 3) := by decide +kernel
theorem dX5_felt_23 : decode cX5_felt 23 = .ok (.ireturn, 1) := by decide +kernel
theorem dX5_wear_0 : decode cX5_wear 0 = .ok (.aload_n 0, 1) := by decide +kernel
theorem dX5_wear_1 : decode cX5_wear 1 = .ok (.iload_n 1, 1) := by decide +kernel
theorem dX5_wear_2 : decode cX5_wear 2 = .ok (.invokevirtual 67, 3) := by decide +kernel
theorem dX5_wear_5 : decode cX5_wear 5 = .ok (.aload_n 0, 1) := by decide +kernel
theorem dX5_wear_6 : decode cX5_wear 6 = .ok (.iconst 1, 1) := by decide +kernel
theorem dX5_wear_7 : decode cX5_wear 7 = .ok (.iload_n 1, 1) := by decide +kernel
theorem dX5_wear_8 : decode cX5_wear 8 = .ok (.iload_n 2, 1) := by decide +kernel
theorem dX5_wear_9 : decode cX5_wear 9 = .ok (.invokevirtual 71, 3) := by decide +kernel
theorem dX5_wear_12 : decode cX5_wear 12 = .ok (.aload_n 0, 1) := by decide +kernel
theorem dX5_wear_13 : decode cX5_wear 13 = .ok (.getfield 17, 3) := by decide +kernel
theorem dX5_wear_16 : decode cX5_wear 16 = .ok (.iconst 3, 1) := by decide +kernel
theorem dX5_wear_17 : decode cX5_wear 17 = .ok (.aaload, 1) := by decide +kernel
theorem dX5_wear_18 : decode cX5_wear 18 = .ok (.iload_n 1, 1) := by decide +kernel
theorem dX5_wear_19 : decode cX5_wear 19 = .ok (.iaload, 1) := by decide +kernel
theorem dX5_wear_20 : decode cX5_wear 20 = .ok (.aload_n 0, 1) := by decide +kernel
theorem dX5_wear_21 : decode cX5_wear 21 = .ok (.getfield 9, 3) := by decide +kernel
theorem dX5_wear_24 : decode cX5_wear 24 = .ok (.iload_n 2, 1) := by decide +kernel
theorem dX5_wear_25 : decode cX5_wear 25 = .ok (.iaload, 1) := by decide +kernel
theorem dX5_wear_26 : decode cX5_wear 26 = .ok (.invokevirtual 81, 3) := by decide +kernel
theorem dX5_wear_29 : decode cX5_wear 29 = .ok (.istore_n 3, 1) := by decide +kernel
theorem dX5_wear_30 : decode cX5_wear 30 = .ok (.aload_n 0, 1) := by decide +kernel
theorem dX5_wear_31 : decode cX5_wear 31 = .ok (.getfield 9, 3) := by decide +kernel
theorem dX5_wear_34 : decode cX5_wear 34 = .ok (.iload_n 2, 1) := by decide +kernel
theorem dX5_wear_35 : decode cX5_wear 35 = .ok (.iaload, 1) := by decide +kernel
theorem dX5_wear_36 : decode cX5_wear 36 = .ok (.iload_n 3, 1) := by decide +kernel
theorem dX5_wear_37 : decode cX5_wear 37 = .ok (.invokestatic 84, 3) := by decide +kernel
theorem dX5_wear_40 : decode cX5_wear 40 = .ok (.istore 4, 2) := by decide +kernel
theorem dX5_wear_42 : decode cX5_wear 42 = .ok (.aload_n 0, 1) := by decide +kernel
theorem dX5_wear_43 : decode cX5_wear 43 = .ok (.getfield 9, 3) := by decide +kernel
theorem dX5_wear_46 : decode cX5_wear 46 = .ok (.iload_n 2, 1) := by decide +kernel
theorem dX5_wear_47 : decode cX5_wear 47 = .ok (.dup2, 1) := by decide +kernel
theorem dX5_wear_48 : decode cX5_wear 48 = .ok (.iaload, 1) := by decide +kernel
theorem dX5_wear_49 : decode cX5_wear 49 = .ok (.iload 4, 2) := by decide +kernel
theorem dX5_wear_51 : decode cX5_wear 51 = .ok (.isub, 1) := by decide +kernel
theorem dX5_wear_52 : decode cX5_wear 52 = .ok (.iastore, 1) := by decide +kernel
theorem dX5_wear_53 : decode cX5_wear 53 = .ok (.iload 4, 2) := by decide +kernel
theorem dX5_wear_55 : decode cX5_wear 55 = .ok (.ireturn, 1) := by decide +kernel
theorem dX5_leftOn_0 : decode cX5_leftOn 0 = .ok (.aload_n 0, 1) := by decide +kernel
theorem dX5_leftOn_1 : decode cX5_leftOn 1 = .ok (.getfield 17, 3) := by decide +kernel
theorem dX5_leftOn_4 : decode cX5_leftOn 4 = .ok (.iconst 0, 1) := by decide +kernel
theorem dX5_leftOn_5 : decode cX5_leftOn 5 = .ok (.aaload, 1) := by decide +kernel
theorem dX5_leftOn_6 : decode cX5_leftOn 6 = .ok (.iload_n 1, 1) := by decide +kernel
theorem dX5_leftOn_7 : decode cX5_leftOn 7 = .ok (.iaload, 1) := by decide +kernel
theorem dX5_leftOn_8 : decode cX5_leftOn 8 = .ok (.istore_n 3, 1) := by decide +kernel
theorem dX5_leftOn_9 : decode cX5_leftOn 9 = .ok (.iload_n 3, 1) := by decide +kernel
theorem dX5_leftOn_10 : decode cX5_leftOn 10 = .ok (.iload_n 2, 1) := by decide +kernel
theorem dX5_leftOn_11 : decode cX5_leftOn 11 = .ok (.invokestatic 89, 3) := by decide +kernel
theorem dX5_leftOn_14 : decode cX5_leftOn 14 = .ok (.istore 4, 2) := by decide +kernel
theorem dX5_leftOn_16 : decode cX5_leftOn 16 = .ok (.iload 4, 2) := by decide +kernel
theorem dX5_leftOn_18 : decode cX5_leftOn 18 = .ok (.iconst 1, 1) := by decide +kernel
theorem dX5_leftOn_19 : decode cX5_leftOn 19 = .ok (.if_icmp .le 5, 3) := by decide +kernel
theorem dX5_leftOn_22 : decode cX5_leftOn 22 = .ok (.iconst 0, 1) := by decide +kernel
theorem dX5_leftOn_23 : decode cX5_leftOn 23 = .ok (.ireturn, 1) := by decide +kernel
theorem dX5_leftOn_24 : decode cX5_leftOn 24 = .ok (.aload_n 0, 1) := by decide +kernel
theorem dX5_leftOn_25 : decode cX5_leftOn 25 = .ok (.iload_n 1, 1) := by decide +kernel
theorem dX5_leftOn_26 : decode cX5_leftOn 26 = .ok (.invokevirtual 67, 3) := by decide +kernel
theorem dX5_leftOn_29 : decode cX5_leftOn 29 = .ok (.iload 4, 2) := by decide +kernel
theorem dX5_leftOn_31 : decode cX5_leftOn 31 = .ok (.aload_n 0, 1) := by decide +kernel
theorem dX5_leftOn_32 : decode cX5_leftOn 32 = .ok (.iconst 0, 1) := by decide +kernel
theorem dX5_leftOn_33 : decode cX5_leftOn 33 = .ok (.iload_n 1, 1) := by decide +kernel
theorem dX5_leftOn_34 : decode cX5_leftOn 34 = .ok (.iload_n 3, 1) := by decide +kernel
theorem dX5_leftOn_35 : decode cX5_leftOn 35 = .ok (.invokevirtual 71, 3) := by decide +kernel
theorem dX5_leftOn_38 : decode cX5_leftOn 38 = .ok (.aload_n 0, 1) := by decide +kernel
theorem dX5_leftOn_39 : decode cX5_leftOn 39 = .ok (.getfield 17, 3) := by decide +kernel
theorem dX5_leftOn_42 : decode cX5_leftOn 42 = .ok (.iconst 3, 1) := by decide +kernel
theorem dX5_leftOn_43 : decode cX5_leftOn 43 = .ok (.aaload, 1) := by decide +kernel
theorem dX5_leftOn_44 : decode cX5_leftOn 44 = .ok (.iload_n 1, 1) := by decide +kernel
theorem dX5_leftOn_45 : decode cX5_leftOn 45 = .ok (.iaload, 1) := by decide +kernel
theorem dX5_leftOn_46 : decode cX5_leftOn 46 = .ok (.invokevirtual 92, 3) := by decide +kernel
theorem dX5_leftOn_49 : decode cX5_leftOn 49 = .ok (.ireturn, 1) := by decide +kernel
theorem dX5_leftInAll_0 : decode cX5_leftInAll 0 = .ok (.iconst 0, 1) := by decide +kernel
theorem dX5_leftInAll_1 : decode cX5_leftInAll 1 = .ok (.istore_n 2, 1) := by decide +kernel
theorem dX5_leftInAll_2 : decode cX5_leftInAll 2 = .ok (.iconst 0, 1) := by decide +kernel
theorem dX5_leftInAll_3 : decode cX5_leftInAll 3 = .ok (.istore_n 3, 1) := by decide +kernel
theorem dX5_leftInAll_4 : decode cX5_leftInAll 4 = .ok (.iload_n 3, 1) := by decide +kernel
theorem dX5_leftInAll_5 : decode cX5_leftInAll 5 = .ok (.bipush 36, 2) := by decide +kernel
theorem dX5_leftInAll_7 : decode cX5_leftInAll 7 = .ok (.if_icmp .ge 18, 3) := by decide +kernel
theorem dX5_leftInAll_10 : decode cX5_leftInAll 10 = .ok (.iload_n 2, 1) := by decide +kernel
theorem dX5_leftInAll_11 : decode cX5_leftInAll 11 = .ok (.aload_n 0, 1) := by decide +kernel
theorem dX5_leftInAll_12 : decode cX5_leftInAll 12 = .ok (.iload_n 1, 1) := by decide +kernel
theorem dX5_leftInAll_13 : decode cX5_leftInAll 13 = .ok (.iload_n 3, 1) := by decide +kernel
theorem dX5_leftInAll_14 : decode cX5_leftInAll 14 = .ok (.invokevirtual 95, 3) := by decide +kernel
theorem dX5_leftInAll_17 : decode cX5_leftInAll 17 = .ok (.iadd, 1) := by decide +kernel
theorem dX5_leftInAll_18 : decode cX5_leftInAll 18 = .ok (.istore_n 2, 1) := by decide +kernel
theorem dX5_leftInAll_19 : decode cX5_leftInAll 19 = .ok (.iinc 3 1, 3) := by decide +kernel
theorem dX5_leftInAll_22 : decode cX5_leftInAll 22 = .ok (.goto (-18), 3) := by decide +kernel
theorem dX5_leftInAll_25 : decode cX5_leftInAll 25 = .ok (.iload_n 2, 1) := by decide +kernel
theorem dX5_leftInAll_26 : decode cX5_leftInAll 26 = .ok (.ireturn, 1) := by decide +kernel
theorem dX5_passDays_0 : decode cX5_passDays 0 = .ok (.iconst 0, 1) := by decide +kernel
theorem dX5_passDays_1 : decode cX5_passDays 1 = .ok (.istore_n 2, 1) := by decide +kernel
theorem dX5_passDays_2 : decode cX5_passDays 2 = .ok (.iload_n 2, 1) := by decide +kernel
theorem dX5_passDays_3 : decode cX5_passDays 3 = .ok (.iload_n 1, 1) := by decide +kernel
theorem dX5_passDays_4 : decode cX5_passDays 4 = .ok (.if_icmp .ge 13, 3) := by decide +kernel
theorem dX5_passDays_7 : decode cX5_passDays 7 = .ok (.aload_n 0, 1) := by decide +kernel
theorem dX5_passDays_8 : decode cX5_passDays 8 = .ok (.invokevirtual 98, 3) := by decide +kernel
theorem dX5_passDays_11 : decode cX5_passDays 11 = .ok (.iinc 2 1, 3) := by decide +kernel
theorem dX5_passDays_14 : decode cX5_passDays 14 = .ok (.goto (-12), 3) := by decide +kernel
theorem dX5_passDays_17 : decode cX5_passDays 17 = .ok (.return_, 1) := by decide +kernel
theorem dX5_passDay_0 : decode cX5_passDay 0 = .ok (.iconst 0, 1) := by decide +kernel
theorem dX5_passDay_1 : decode cX5_passDay 1 = .ok (.istore_n 1, 1) := by decide +kernel
theorem dX5_passDay_2 : decode cX5_passDay 2 = .ok (.iload_n 1, 1) := by decide +kernel
theorem dX5_passDay_3 : decode cX5_passDay 3 = .ok (.aload_n 0, 1) := by decide +kernel
theorem dX5_passDay_4 : decode cX5_passDay 4 = .ok (.getfield 45, 3) := by decide +kernel
theorem dX5_passDay_7 : decode cX5_passDay 7 = .ok (.if_icmp .ge 14, 3) := by decide +kernel
theorem dX5_passDay_10 : decode cX5_passDay 10 = .ok (.aload_n 0, 1) := by decide +kernel
theorem dX5_passDay_11 : decode cX5_passDay 11 = .ok (.iload_n 1, 1) := by decide +kernel
theorem dX5_passDay_12 : decode cX5_passDay 12 = .ok (.invokevirtual 101, 3) := by decide +kernel
theorem dX5_passDay_15 : decode cX5_passDay 15 = .ok (.iinc 1 1, 3) := by decide +kernel
theorem dX5_passDay_18 : decode cX5_passDay 18 = .ok (.goto (-16), 3) := by decide +kernel
theorem dX5_passDay_21 : decode cX5_passDay 21 = .ok (.aload_n 0, 1) := by decide +kernel
theorem dX5_passDay_22 : decode cX5_passDay 22 = .ok (.dup, 1) := by decide +kernel
theorem dX5_passDay_23 : decode cX5_passDay 23 = .ok (.getfield 49, 3) := by decide +kernel
theorem dX5_passDay_26 : decode cX5_passDay 26 = .ok (.iconst 1, 1) := by decide +kernel
theorem dX5_passDay_27 : decode cX5_passDay 27 = .ok (.iadd, 1) := by decide +kernel
theorem dX5_passDay_28 : decode cX5_passDay 28 = .ok (.putfield 49, 3) := by decide +kernel
theorem dX5_passDay_31 : decode cX5_passDay 31 = .ok (.return_, 1) := by decide +kernel
theorem dX5_leave_0 : decode cX5_leave 0 = .ok (.aload_n 0, 1) := by decide +kernel
theorem dX5_leave_1 : decode cX5_leave 1 = .ok (.getfield 17, 3) := by decide +kernel
theorem dX5_leave_4 : decode cX5_leave 4 = .ok (.iconst 0, 1) := by decide +kernel
theorem dX5_leave_5 : decode cX5_leave 5 = .ok (.aaload, 1) := by decide +kernel
theorem dX5_leave_6 : decode cX5_leave 6 = .ok (.iload_n 1, 1) := by decide +kernel
theorem dX5_leave_7 : decode cX5_leave 7 = .ok (.iaload, 1) := by decide +kernel
theorem dX5_leave_8 : decode cX5_leave 8 = .ok (.istore_n 2, 1) := by decide +kernel
theorem dX5_leave_9 : decode cX5_leave 9 = .ok (.aload_n 0, 1) := by decide +kernel
theorem dX5_leave_10 : decode cX5_leave 10 = .ok (.iconst 0, 1) := by decide +kernel
theorem dX5_leave_11 : decode cX5_leave 11 = .ok (.iload_n 1, 1) := by decide +kernel
theorem dX5_leave_12 : decode cX5_leave 12 = .ok (.iload_n 2, 1) := by decide +kernel
theorem dX5_leave_13 : decode cX5_leave 13 = .ok (.invokevirtual 71, 3) := by decide +kernel
theorem dX5_leave_16 : decode cX5_leave 16 = .ok (.istore_n 3, 1) := by decide +kernel
theorem dX5_leave_17 : decode cX5_leave 17 = .ok (.aload_n 0, 1) := by decide +kernel
theorem dX5_leave_18 : decode cX5_leave 18 = .ok (.iload_n 1, 1) := by decide +kernel
theorem dX5_leave_19 : decode cX5_leave 19 = .ok (.invokevirtual 67, 3) := by decide +kernel
theorem dX5_leave_22 : decode cX5_leave 22 = .ok (.iconst 1, 1) := by decide +kernel
theorem dX5_leave_23 : decode cX5_leave 23 = .ok (.iload_n 3, 1) := by decide +kernel
theorem dX5_leave_24 : decode cX5_leave 24 = .ok (.aload_n 0, 1) := by decide +kernel
theorem dX5_leave_25 : decode cX5_leave 25 = .ok (.getfield 17, 3) := by decide +kernel
theorem dX5_leave_28 : decode cX5_leave 28 = .ok (.iconst 3, 1) := by decide +kernel
theorem dX5_leave_29 : decode cX5_leave 29 = .ok (.aaload, 1) := by decide +kernel
theorem dX5_leave_30 : decode cX5_leave 30 = .ok (.iload_n 1, 1) := by decide +kernel
theorem dX5_leave_31 : decode cX5_leave 31 = .ok (.iaload, 1) := by decide +kernel
theorem dX5_leave_32 : decode cX5_leave 32 = .ok (.invokevirtual 92, 3) := by decide +kernel
theorem dX5_leave_35 : decode cX5_leave 35 = .ok (.istore 4, 2) := by decide +kernel
theorem dX5_leave_37 : decode cX5_leave 37 = .ok (.aload_n 0, 1) := by decide +kernel
theorem dX5_leave_38 : decode cX5_leave 38 = .ok (.iload_n 2, 1) := by decide +kernel
theorem dX5_leave_39 : decode cX5_leave 39 = .ok (.aload_n 0, 1) := by decide +kernel
theorem dX5_leave_40 : decode cX5_leave 40 = .ok (.iload_n 1, 1) := by decide +kernel
theorem dX5_leave_41 : decode cX5_leave 41 = .ok (.invokevirtual 67, 3) := by decide +kernel
theorem dX5_leave_44 : decode cX5_leave 44 = .ok (.iconst 0, 1) := by decide +kernel
theorem dX5_leave_45 : decode cX5_leave 45 = .ok (.iload_n 3, 1) := by decide +kernel
theorem dX5_leave_46 : decode cX5_leave 46 = .ok (.aload_n 0, 1) := by decide +kernel
theorem dX5_leave_47 : decode cX5_leave 47 = .ok (.getfield 17, 3) := by decide +kernel
theorem dX5_leave_50 : decode cX5_leave 50 = .ok (.iconst 3, 1) := by decide +kernel
theorem dX5_leave_51 : decode cX5_leave 51 = .ok (.aaload, 1) := by decide +kernel
theorem dX5_leave_52 : decode cX5_leave 52 = .ok (.iload_n 1, 1) := by decide +kernel
theorem dX5_leave_53 : decode cX5_leave 53 = .ok (.iaload, 1) := by decide +kernel
theorem dX5_leave_54 : decode cX5_leave 54 = .ok (.invokevirtual 92, 3) := by decide +kernel
theorem dX5_leave_57 : decode cX5_leave 57 = .ok (.invokevirtual 105, 3) := by decide +kernel
theorem dX5_leave_60 : decode cX5_leave 60 = .ok (.iconst 0, 1) := by decide +kernel
theorem dX5_leave_61 : decode cX5_leave 61 = .ok (.istore 5, 2) := by decide +kernel
theorem dX5_leave_63 : decode cX5_leave 63 = .ok (.iload 5, 2) := by decide +kernel
theorem dX5_leave_65 : decode cX5_leave 65 = .ok (.iconst 4, 1) := by decide +kernel
theorem dX5_leave_66 : decode cX5_leave 66 = .ok (.if_icmp .ge 31, 3) := by decide +kernel
theorem dX5_leave_69 : decode cX5_leave 69 = .ok (.iload_n 2, 1) := by decide +kernel
theorem dX5_leave_70 : decode cX5_leave 70 = .ok (.iload 5, 2) := by decide +kernel
theorem dX5_leave_72 : decode cX5_leave 72 = .ok (.invokestatic 109, 3) := by decide +kernel
theorem dX5_leave_75 : decode cX5_leave 75 = .ok (.istore 6, 2) := by decide +kernel
theorem dX5_leave_77 : decode cX5_leave 77 = .ok (.iload 6, 2) := by decide +kernel
theorem dX5_leave_79 : decode cX5_leave 79 = .ok (.iconst (-1), 1) := by decide +kernel
theorem dX5_leave_80 : decode cX5_leave 80 = .ok (.if_icmp .eq 11, 3) := by decide +kernel
theorem dX5_leave_83 : decode cX5_leave 83 = .ok (.aload_n 0, 1) := by decide +kernel
theorem dX5_leave_84 : decode cX5_leave 84 = .ok (.iload 6, 2) := by decide +kernel
theorem dX5_leave_86 : decode cX5_leave 86 = .ok (.iload 4, 2) := by decide +kernel
theorem dX5_leave_88 : decode cX5_leave 88 = .ok (.invokevirtual 105, 3) := by decide +kernel
theorem dX5_leave_91 : decode cX5_leave 91 = .ok (.iinc 5 1, 3) := by decide +kernel
theorem dX5_leave_94 : decode cX5_leave 94 = .ok (.goto (-31), 3) := by decide +kernel
theorem dX5_leave_97 : decode cX5_leave 97 = .ok (.return_, 1) := by decide +kernel
theorem dX5_thicken_0 : decode cX5_thicken 0 = .ok (.aload_n 0, 1) := by decide +kernel
theorem dX5_thicken_1 : decode cX5_thicken 1 = .ok (.getfield 9, 3) := by decide +kernel
theorem dX5_thicken_4 : decode cX5_thicken 4 = .ok (.iload_n 1, 1) := by decide +kernel
theorem dX5_thicken_5 : decode cX5_thicken 5 = .ok (.iconst 0, 1) := by decide +kernel
theorem dX5_thicken_6 : decode cX5_thicken 6 = .ok (.sipush 999, 3) := by decide +kernel
theorem dX5_thicken_9 : decode cX5_thicken 9 = .ok (.aload_n 0, 1) := by decide +kernel
theorem dX5_thicken_10 : decode cX5_thicken 10 = .ok (.getfield 9, 3) := by decide +kernel
theorem dX5_thicken_13 : decode cX5_thicken 13 = .ok (.iload_n 1, 1) := by decide +kernel
theorem dX5_thicken_14 : decode cX5_thicken 14 = .ok (.iaload, 1) := by decide +kernel
theorem dX5_thicken_15 : decode cX5_thicken 15 = .ok (.iload_n 2, 1) := by decide +kernel
theorem dX5_thicken_16 : decode cX5_thicken 16 = .ok (.iadd, 1) := by decide +kernel
theorem dX5_thicken_17 : decode cX5_thicken 17 = .ok (.invokestatic 84, 3) := by decide +kernel
theorem dX5_thicken_20 : decode cX5_thicken 20 = .ok (.invokestatic 112, 3) := by decide +kernel
theorem dX5_thicken_23 : decode cX5_thicken 23 = .ok (.iastore, 1) := by decide +kernel
theorem dX5_thicken_24 : decode cX5_thicken 24 = .ok (.return_, 1) := by decide +kernel
theorem dX5_leastFelt_0 : decode cX5_leastFelt 0 = .ok (.iconst 0, 1) := by decide +kernel
theorem dX5_leastFelt_1 : decode cX5_leastFelt 1 = .ok (.istore 4, 2) := by decide +kernel
theorem dX5_leastFelt_3 : decode cX5_leastFelt 3 = .ok (.iload 4, 2) := by decide +kernel
theorem dX5_leastFelt_5 : decode cX5_leastFelt 5 = .ok (.bipush 36, 2) := by decide +kernel
theorem dX5_leastFelt_7 : decode cX5_leastFelt 7 = .ok (.if_icmp .ge 23, 3) := by decide +kernel
theorem dX5_leastFelt_10 : decode cX5_leastFelt 10 = .ok (.aload_n 0, 1) := by decide +kernel
theorem dX5_leastFelt_11 : decode cX5_leastFelt 11 = .ok (.getfield 25, 3) := by decide +kernel
theorem dX5_leastFelt_14 : decode cX5_leastFelt 14 = .ok (.iload 4, 2) := by decide +kernel
theorem dX5_leastFelt_16 : decode cX5_leastFelt 16 = .ok (.aload_n 0, 1) := by decide +kernel
theorem dX5_leastFelt_17 : decode cX5_leastFelt 17 = .ok (.iload_n 1, 1) := by decide +kernel
theorem dX5_leastFelt_18 : decode cX5_leastFelt 18 = .ok (.iload 4, 2) := by decide +kernel
theorem dX5_leastFelt_20 : decode cX5_leastFelt 20 = .ok (.invokevirtual 115, 3) := by decide +kernel
theorem dX5_leastFelt_23 : decode cX5_leastFelt 23 = .ok (.iastore, 1) := by decide +kernel
theorem dX5_leastFelt_24 : decode cX5_leastFelt 24 = .ok (.iinc 4 1, 3) := by decide +kernel
theorem dX5_leastFelt_27 : decode cX5_leastFelt 27 = .ok (.goto (-24), 3) := by decide +kernel
theorem dX5_leastFelt_30 : decode cX5_leastFelt 30 = .ok (.aload_n 0, 1) := by decide +kernel
theorem dX5_leastFelt_31 : decode cX5_leastFelt 31 = .ok (.getfield 28, 3) := by decide +kernel
theorem dX5_leastFelt_34 : decode cX5_leastFelt 34 = .ok (.ldc 118, 2) := by decide +kernel
theorem dX5_leastFelt_36 : decode cX5_leastFelt 36 = .ok (.invokestatic 119, 3) := by decide +kernel
theorem dX5_leastFelt_39 : decode cX5_leastFelt 39 = .ok (.aload_n 0, 1) := by decide +kernel
theorem dX5_leastFelt_40 : decode cX5_leastFelt 40 = .ok (.getfield 28, 3) := by decide +kernel
theorem dX5_leastFelt_43 : decode cX5_leastFelt 43 = .ok (.iload_n 2, 1) := by decide +kernel
theorem dX5_leastFelt_44 : decode cX5_leastFelt 44 = .ok (.aload_n 0, 1) := by decide +kernel
theorem dX5_leastFelt_45 : decode cX5_leastFelt 45 = .ok (.getfield 25, 3) := by decide +kernel
theorem dX5_leastFelt_48 : decode cX5_leastFelt 48 = .ok (.iload_n 2, 1) := by decide +kernel
theorem dX5_leastFelt_49 : decode cX5_leastFelt 49 = .ok (.iaload, 1) := by decide +kernel
theorem dX5_leastFelt_50 : decode cX5_leastFelt 50 = .ok (.iastore, 1) := by decide +kernel
theorem dX5_leastFelt_51 : decode cX5_leastFelt 51 = .ok (.iconst 1, 1) := by decide +kernel
theorem dX5_leastFelt_52 : decode cX5_leastFelt 52 = .ok (.istore 4, 2) := by decide +kernel
theorem dX5_leastFelt_54 : decode cX5_leastFelt 54 = .ok (.iconst 0, 1) := by decide +kernel
theorem dX5_leastFelt_55 : decode cX5_leastFelt 55 = .ok (.istore 5, 2) := by decide +kernel
theorem dX5_leastFelt_57 : decode cX5_leastFelt 57 = .ok (.iload 5, 2) := by decide +kernel
theorem dX5_leastFelt_59 : decode cX5_leastFelt 59 = .ok (.bipush 36, 2) := by decide +kernel
theorem dX5_leastFelt_61 : decode cX5_leastFelt 61 = .ok (.if_icmp .ge 45, 3) := by decide +kernel
theorem dX5_leastFelt_64 : decode cX5_leastFelt 64 = .ok (.iload 4, 2) := by decide +kernel
theorem dX5_leastFelt_66 : decode cX5_leastFelt 66 = .ok (.ifCond .eq 40, 3) := by decide +kernel
theorem dX5_leastFelt_69 : decode cX5_leastFelt 69 = .ok (.iconst 0, 1) := by decide +kernel
theorem dX5_leastFelt_70 : decode cX5_leastFelt 70 = .ok (.istore 4, 2) := by decide +kernel
theorem dX5_leastFelt_72 : decode cX5_leastFelt 72 = .ok (.iconst 0, 1) := by decide +kernel
theorem dX5_leastFelt_73 : decode cX5_leastFelt 73 = .ok (.istore 6, 2) := by decide +kernel
theorem dX5_leastFelt_75 : decode cX5_leastFelt 75 = .ok (.iload 6, 2) := by decide +kernel
theorem dX5_leastFelt_77 : decode cX5_leastFelt 77 = .ok (.bipush 36, 2) := by decide +kernel
theorem dX5_leastFelt_79 : decode cX5_leastFelt 79 = .ok (.if_icmp .ge 21, 3) := by decide +kernel
theorem dX5_leastFelt_82 : decode cX5_leastFelt 82 = .ok (.aload_n 0, 1) := by decide +kernel
theorem dX5_leastFelt_83 : decode cX5_leastFelt 83 = .ok (.iload 6, 2) := by decide +kernel
theorem dX5_leastFelt_85 : decode cX5_leastFelt 85 = .ok (.invokevirtual 125, 3) := by decide +kernel
theorem dX5_leastFelt_88 : decode cX5_leastFelt 88 = .ok (.ifCond .eq 6, 3) := by decide +kernel
theorem dX5_leastFelt_91 : decode cX5_leastFelt 91 = .ok (.iconst 1, 1) := by decide +kernel
theorem dX5_leastFelt_92 : decode cX5_leastFelt 92 = .ok (.istore 4, 2) := by decide +kernel
theorem dX5_leastFelt_94 : decode cX5_leastFelt 94 = .ok (.iinc 6 1, 3) := by decide +kernel
theorem dX5_leastFelt_97 : decode cX5_leastFelt 97 = .ok (.goto (-22), 3) := by decide +kernel
theorem dX5_leastFelt_100 : decode cX5_leastFelt 100 = .ok (.iinc 5 1, 3) := by decide +kernel
theorem dX5_leastFelt_103 : decode cX5_leastFelt 103 = .ok (.goto (-46), 3) := by decide +kernel
theorem dX5_leastFelt_106 : decode cX5_leastFelt 106 = .ok (.aload_n 0, 1) := by decide +kernel
theorem dX5_leastFelt_107 : decode cX5_leastFelt 107 = .ok (.getfield 28, 3) := by decide +kernel
theorem dX5_leastFelt_110 : decode cX5_leastFelt 110 = .ok (.iload_n 3, 1) := by decide +kernel
theorem dX5_leastFelt_111 : decode cX5_leastFelt 111 = .ok (.iaload, 1) := by decide +kernel
theorem dX5_leastFelt_112 : decode cX5_leastFelt 112 = .ok (.ireturn, 1) := by decide +kernel
theorem dX5_relax_0 : decode cX5_relax 0 = .ok (.iconst 0, 1) := by decide +kernel
theorem dX5_relax_1 : decode cX5_relax 1 = .ok (.istore_n 2, 1) := by decide +kernel
theorem dX5_relax_2 : decode cX5_relax 2 = .ok (.iconst 0, 1) := by decide +kernel
theorem dX5_relax_3 : decode cX5_relax 3 = .ok (.istore_n 3, 1) := by decide +kernel
theorem dX5_relax_4 : decode cX5_relax 4 = .ok (.iload_n 3, 1) := by decide +kernel
theorem dX5_relax_5 : decode cX5_relax 5 = .ok (.iconst 4, 1) := by decide +kernel
theorem dX5_relax_6 : decode cX5_relax 6 = .ok (.if_icmp .ge 79, 3) := by decide +kernel
theorem dX5_relax_9 : decode cX5_relax 9 = .ok (.iload_n 1, 1) := by decide +kernel
theorem dX5_relax_10 : decode cX5_relax 10 = .ok (.iload_n 3, 1) := by decide +kernel
theorem dX5_relax_11 : decode cX5_relax 11 = .ok (.invokestatic 109, 3) := by decide +kernel
theorem dX5_relax_14 : decode cX5_relax 14 = .ok (.istore 4, 2) := by decide +kernel
theorem dX5_relax_16 : decode cX5_relax 16 = .ok (.iload 4, 2) := by decide +kernel
theorem dX5_relax_18 : decode cX5_relax 18 = .ok (.iconst (-1), 1) := by decide +kernel
theorem dX5_relax_19 : decode cX5_relax 19 = .ok (.if_icmp .eq 60, 3) := by decide +kernel
theorem dX5_relax_22 : decode cX5_relax 22 = .ok (.aload_n 0, 1) := by decide +kernel
theorem dX5_relax_23 : decode cX5_relax 23 = .ok (.getfield 28, 3) := by decide +kernel
theorem dX5_relax_26 : decode cX5_relax 26 = .ok (.iload 4, 2) := by decide +kernel
theorem dX5_relax_28 : decode cX5_relax 28 = .ok (.iaload, 1) := by decide +kernel
theorem dX5_relax_29 : decode cX5_relax 29 = .ok (.ldc 118, 2) := by decide +kernel
theorem dX5_relax_31 : decode cX5_relax 31 = .ok (.if_icmp .eq 48, 3) := by decide +kernel
theorem dX5_relax_34 : decode cX5_relax 34 = .ok (.aload_n 0, 1) := by decide +kernel
theorem dX5_relax_35 : decode cX5_relax 35 = .ok (.getfield 28, 3) := by decide +kernel
theorem dX5_relax_38 : decode cX5_relax 38 = .ok (.iload 4, 2) := by decide +kernel
theorem dX5_relax_40 : decode cX5_relax 40 = .ok (.iaload, 1) := by decide +kernel
theorem dX5_relax_41 : decode cX5_relax 41 = .ok (.aload_n 0, 1) := by decide +kernel
theorem dX5_relax_42 : decode cX5_relax 42 = .ok (.getfield 25, 3) := by decide +kernel
theorem dX5_relax_45 : decode cX5_relax 45 = .ok (.iload_n 1, 1) := by decide +kernel
theorem dX5_relax_46 : decode cX5_relax 46 = .ok (.iaload, 1) := by decide +kernel
theorem dX5_relax_47 : decode cX5_relax 47 = .ok (.iadd, 1) := by decide +kernel
theorem dX5_relax_48 : decode cX5_relax 48 = .ok (.aload_n 0, 1) := by decide +kernel
theorem dX5_relax_49 : decode cX5_relax 49 = .ok (.getfield 28, 3) := by decide +kernel
theorem dX5_relax_52 : decode cX5_relax 52 = .ok (.iload_n 1, 1) := by decide +kernel
theorem dX5_relax_53 : decode cX5_relax 53 = .ok (.iaload, 1) := by decide +kernel
theorem dX5_relax_54 : decode cX5_relax 54 = .ok (.if_icmp .ge 25, 3) := by decide +kernel
theorem dX5_relax_57 : decode cX5_relax 57 = .ok (.aload_n 0, 1) := by decide +kernel
theorem dX5_relax_58 : decode cX5_relax 58 = .ok (.getfield 28, 3) := by decide +kernel
theorem dX5_relax_61 : decode cX5_relax 61 = .ok (.iload_n 1, 1) := by decide +kernel
theorem dX5_relax_62 : decode cX5_relax 62 = .ok (.aload_n 0, 1) := by decide +kernel
theorem dX5_relax_63 : decode cX5_relax 63 = .ok (.getfield 28, 3) := by decide +kernel
theorem dX5_relax_66 : decode cX5_relax 66 = .ok (.iload 4, 2) := by decide +kernel
theorem dX5_relax_68 : decode cX5_relax 68 = .ok (.iaload, 1) := by decide +kernel
theorem dX5_relax_69 : decode cX5_relax 69 = .ok (.aload_n 0, 1) := by decide +kernel
theorem dX5_relax_70 : decode cX5_relax 70 = .ok (.getfield 25, 3) := by decide +kernel
theorem dX5_relax_73 : decode cX5_relax 73 = .ok (.iload_n 1, 1) := by decide +kernel
theorem dX5_relax_74 : decode cX5_relax 74 = .ok (.iaload, 1) := by decide +kernel
theorem dX5_relax_75 : decode cX5_relax 75 = .ok (.iadd, 1) := by decide +kernel
theorem dX5_relax_76 : decode cX5_relax 76 = .ok (.iastore, 1) := by decide +kernel
theorem dX5_relax_77 : decode cX5_relax 77 = .ok (.iconst 1, 1) := by decide +kernel
theorem dX5_relax_78 : decode cX5_relax 78 = .ok (.istore_n 2, 1) := by decide +kernel
theorem dX5_relax_79 : decode cX5_relax 79 = .ok (.iinc 3 1, 3) := by decide +kernel
theorem dX5_relax_82 : decode cX5_relax 82 = .ok (.goto (-78), 3) := by decide +kernel
theorem dX5_relax_85 : decode cX5_relax 85 = .ok (.iload_n 2, 1) := by decide +kernel
theorem dX5_relax_86 : decode cX5_relax 86 = .ok (.ireturn, 1) := by decide +kernel
theorem dX5_fewestCells_0 : decode cX5_fewestCells 0 = .ok (.lconst 0, 1) := by decide +kernel
theorem dX5_fewestCells_1 : decode cX5_fewestCells 1 = .ok (.lstore 5, 2) := by decide +kernel
theorem dX5_fewestCells_3 : decode cX5_fewestCells 3 = .ok (.iconst 0, 1) := by decide +kernel
theorem dX5_fewestCells_4 : decode cX5_fewestCells 4 = .ok (.istore 7, 2) := by decide +kernel
theorem dX5_fewestCells_6 : decode cX5_fewestCells 6 = .ok (.iload 7, 2) := by decide +kernel
theorem dX5_fewestCells_8 : decode cX5_fewestCells 8 = .ok (.bipush 36, 2) := by decide +kernel
theorem dX5_fewestCells_10 : decode cX5_fewestCells 10 = .ok (.if_icmp .ge 30, 3) := by decide +kernel
theorem dX5_fewestCells_13 : decode cX5_fewestCells 13 = .ok (.aload_n 0, 1) := by decide +kernel
theorem dX5_fewestCells_14 : decode cX5_fewestCells 14 = .ok (.iload_n 1, 1) := by decide +kernel
theorem dX5_fewestCells_15 : decode cX5_fewestCells 15 = .ok (.iload 7, 2) := by decide +kernel
theorem dX5_fewestCells_17 : decode cX5_fewestCells 17 = .ok (.invokevirtual 115, 3) := by decide +kernel
theorem dX5_fewestCells_20 : decode cX5_fewestCells 20 = .ok (.iload 4, 2) := by decide +kernel
theorem dX5_fewestCells_22 : decode cX5_fewestCells 22 = .ok (.if_icmp .gt 12, 3) := by decide +kernel
theorem dX5_fewestCells_25 : decode cX5_fewestCells 25 = .ok (.lload 5, 2) := by decide +kernel
theorem dX5_fewestCells_27 : decode cX5_fewestCells 27 = .ok (.lconst 1, 1) := by decide +kernel
theorem dX5_fewestCells_28 : decode cX5_fewestCells 28 = .ok (.iload 7, 2) := by decide +kernel
theorem dX5_fewestCells_30 : decode cX5_fewestCells 30 = .ok (.lshl, 1) := by decide +kernel
theorem dX5_fewestCells_31 : decode cX5_fewestCells 31 = .ok (.lor, 1) := by decide +kernel
theorem dX5_fewestCells_32 : decode cX5_fewestCells 32 = .ok (.lstore 5, 2) := by decide +kernel
theorem dX5_fewestCells_34 : decode cX5_fewestCells 34 = .ok (.iinc 7 1, 3) := by decide +kernel
theorem dX5_fewestCells_37 : decode cX5_fewestCells 37 = .ok (.goto (-31), 3) := by decide +kernel
theorem dX5_fewestCells_40 : decode cX5_fewestCells 40 = .ok (.lconst 1, 1) := by decide +kernel
theorem dX5_fewestCells_41 : decode cX5_fewestCells 41 = .ok (.iload_n 2, 1) := by decide +kernel
theorem dX5_fewestCells_42 : decode cX5_fewestCells 42 = .ok (.lshl, 1) := by decide +kernel
theorem dX5_fewestCells_43 : decode cX5_fewestCells 43 = .ok (.lload 5, 2) := by decide +kernel
theorem dX5_fewestCells_45 : decode cX5_fewestCells 45 = .ok (.land, 1) := by decide +kernel
theorem dX5_fewestCells_46 : decode cX5_fewestCells 46 = .ok (.lstore 7, 2) := by decide +kernel
theorem dX5_fewestCells_48 : decode cX5_fewestCells 48 = .ok (.iconst 1, 1) := by decide +kernel
theorem dX5_fewestCells_49 : decode cX5_fewestCells 49 = .ok (.istore 9, 2) := by decide +kernel
theorem dX5_fewestCells_51 : decode cX5_fewestCells 51 = .ok (.iload 9, 2) := by decide +kernel
theorem dX5_fewestCells_53 : decode cX5_fewestCells 53 = .ok (.bipush 36, 2) := by decide +kernel
theorem dX5_fewestCells_55 : decode cX5_fewestCells 55 = .ok (.if_icmp .gt 35, 3) := by decide +kernel
theorem dX5_fewestCells_58 : decode cX5_fewestCells 58 = .ok (.lload 7, 2) := by decide +kernel
theorem dX5_fewestCells_60 : decode cX5_fewestCells 60 = .ok (.iload_n 3, 1) := by decide +kernel
theorem dX5_fewestCells_61 : decode cX5_fewestCells 61 = .ok (.lushr, 1) := by decide +kernel
theorem dX5_fewestCells_62 : decode cX5_fewestCells 62 = .ok (.ldc2_w 59, 3) := by decide +kernel
theorem dX5_fewestCells_65 : decode cX5_fewestCells 65 = .ok (.lrem, 1) := by decide +kernel
theorem dX5_fewestCells_66 : decode cX5_fewestCells 66 = .ok (.lconst 1, 1) := by decide +kernel
theorem dX5_fewestCells_67 : decode cX5_fewestCells 67 = .ok (.lcmp, 1) := by decide +kernel
theorem dX5_fewestCells_68 : decode cX5_fewestCells 68 = .ok (.ifCond .ne 6, 3) := by decide +kernel
theorem dX5_fewestCells_71 : decode cX5_fewestCells 71 = .ok (.iload 9, 2) := by decide +kernel
theorem dX5_fewestCells_73 : decode cX5_fewestCells 73 = .ok (.ireturn, 1) := by decide +kernel
theorem dX5_fewestCells_74 : decode cX5_fewestCells 74 = .ok (.lload 7, 2) := by decide +kernel
theorem dX5_fewestCells_76 : decode cX5_fewestCells 76 = .ok (.invokestatic 129, 3) := by decide +kernel
theorem dX5_fewestCells_79 : decode cX5_fewestCells 79 = .ok (.lload 5, 2) := by decide +kernel
theorem dX5_fewestCells_81 : decode cX5_fewestCells 81 = .ok (.land, 1) := by decide +kernel
theorem dX5_fewestCells_82 : decode cX5_fewestCells 82 = .ok (.lstore 7, 2) := by decide +kernel
theorem dX5_fewestCells_84 : decode cX5_fewestCells 84 = .ok (.iinc 9 1, 3) := by decide +kernel
theorem dX5_fewestCells_87 : decode cX5_fewestCells 87 = .ok (.goto (-36), 3) := by decide +kernel
theorem dX5_fewestCells_90 : decode cX5_fewestCells 90 = .ok (.iconst (-1), 1) := by decide +kernel
theorem dX5_fewestCells_91 : decode cX5_fewestCells 91 = .ok (.ireturn, 1) := by decide +kernel
theorem dX5_thickBy_0 : decode cX5_thickBy 0 = .ok (.lconst 0, 1) := by decide +kernel
theorem dX5_thickBy_1 : decode cX5_thickBy 1 = .ok (.lstore_n 2, 1) := by decide +kernel
theorem dX5_thickBy_2 : decode cX5_thickBy 2 = .ok (.iconst 0, 1) := by decide +kernel
theorem dX5_thickBy_3 : decode cX5_thickBy 3 = .ok (.istore 4, 2) := by decide +kernel
theorem dX5_thickBy_5 : decode cX5_thickBy 5 = .ok (.iload 4, 2) := by decide +kernel
theorem dX5_thickBy_7 : decode cX5_thickBy 7 = .ok (.bipush 36, 2) := by decide +kernel
theorem dX5_thickBy_9 : decode cX5_thickBy 9 = .ok (.if_icmp .ge 27, 3) := by decide +kernel
theorem dX5_thickBy_12 : decode cX5_thickBy 12 = .ok (.aload_n 0, 1) := by decide +kernel
theorem dX5_thickBy_13 : decode cX5_thickBy 13 = .ok (.getfield 9, 3) := by decide +kernel
theorem dX5_thickBy_16 : decode cX5_thickBy 16 = .ok (.iload 4, 2) := by decide +kernel
theorem dX5_thickBy_18 : decode cX5_thickBy 18 = .ok (.iaload, 1) := by decide +kernel
theorem dX5_thickBy_19 : decode cX5_thickBy 19 = .ok (.iload_n 1, 1) := by decide +kernel
theorem dX5_thickBy_20 : decode cX5_thickBy 20 = .ok (.if_icmp .lt 10, 3) := by decide +kernel
theorem dX5_thickBy_23 : decode cX5_thickBy 23 = .ok (.lload_n 2, 1) := by decide +kernel
theorem dX5_thickBy_24 : decode cX5_thickBy 24 = .ok (.lconst 1, 1) := by decide +kernel
theorem dX5_thickBy_25 : decode cX5_thickBy 25 = .ok (.iload 4, 2) := by decide +kernel
theorem dX5_thickBy_27 : decode cX5_thickBy 27 = .ok (.lshl, 1) := by decide +kernel
theorem dX5_thickBy_28 : decode cX5_thickBy 28 = .ok (.lor, 1) := by decide +kernel
theorem dX5_thickBy_29 : decode cX5_thickBy 29 = .ok (.lstore_n 2, 1) := by decide +kernel
theorem dX5_thickBy_30 : decode cX5_thickBy 30 = .ok (.iinc 4 1, 3) := by decide +kernel
theorem dX5_thickBy_33 : decode cX5_thickBy 33 = .ok (.goto (-28), 3) := by decide +kernel
theorem dX5_thickBy_36 : decode cX5_thickBy 36 = .ok (.lload_n 2, 1) := by decide +kernel
theorem dX5_thickBy_37 : decode cX5_thickBy 37 = .ok (.lreturn, 1) := by decide +kernel
theorem dX5_heaps_0 : decode cX5_heaps 0 = .ok (.aload_n 0, 1) := by decide +kernel
theorem dX5_heaps_1 : decode cX5_heaps 1 = .ok (.iload_n 1, 1) := by decide +kernel
theorem dX5_heaps_2 : decode cX5_heaps 2 = .ok (.invokevirtual 133, 3) := by decide +kernel
theorem dX5_heaps_5 : decode cX5_heaps 5 = .ok (.lstore_n 2, 1) := by decide +kernel
theorem dX5_heaps_6 : decode cX5_heaps 6 = .ok (.iconst 0, 1) := by decide +kernel
theorem dX5_heaps_7 : decode cX5_heaps 7 = .ok (.istore 4, 2) := by decide +kernel
theorem dX5_heaps_9 : decode cX5_heaps 9 = .ok (.iconst 0, 1) := by decide +kernel
theorem dX5_heaps_10 : decode cX5_heaps 10 = .ok (.istore 5, 2) := by decide +kernel
theorem dX5_heaps_12 : decode cX5_heaps 12 = .ok (.iload 5, 2) := by decide +kernel
theorem dX5_heaps_14 : decode cX5_heaps 14 = .ok (.bipush 36, 2) := by decide +kernel
theorem dX5_heaps_16 : decode cX5_heaps 16 = .ok (.if_icmp .ge 40, 3) := by decide +kernel
theorem dX5_heaps_19 : decode cX5_heaps 19 = .ok (.lload_n 2, 1) := by decide +kernel
theorem dX5_heaps_20 : decode cX5_heaps 20 = .ok (.iload 5, 2) := by decide +kernel
theorem dX5_heaps_22 : decode cX5_heaps 22 = .ok (.lushr, 1) := by decide +kernel
theorem dX5_heaps_23 : decode cX5_heaps 23 = .ok (.ldc2_w 59, 3) := by decide +kernel
theorem dX5_heaps_26 : decode cX5_heaps 26 = .ok (.lrem, 1) := by decide +kernel
theorem dX5_heaps_27 : decode cX5_heaps 27 = .ok (.lconst 1, 1) := by decide +kernel
theorem dX5_heaps_28 : decode cX5_heaps 28 = .ok (.lcmp, 1) := by decide +kernel
theorem dX5_heaps_29 : decode cX5_heaps 29 = .ok (.ifCond .ne 21, 3) := by decide +kernel
theorem dX5_heaps_32 : decode cX5_heaps 32 = .ok (.lload_n 2, 1) := by decide +kernel
theorem dX5_heaps_33 : decode cX5_heaps 33 = .ok (.lconst 1, 1) := by decide +kernel
theorem dX5_heaps_34 : decode cX5_heaps 34 = .ok (.iload 5, 2) := by decide +kernel
theorem dX5_heaps_36 : decode cX5_heaps 36 = .ok (.lshl, 1) := by decide +kernel
theorem dX5_heaps_37 : decode cX5_heaps 37 = .ok (.lload_n 2, 1) := by decide +kernel
theorem dX5_heaps_38 : decode cX5_heaps 38 = .ok (.invokestatic 137, 3) := by decide +kernel
theorem dX5_heaps_41 : decode cX5_heaps 41 = .ok (.ldc2_w 141, 3) := by decide +kernel
theorem dX5_heaps_44 : decode cX5_heaps 44 = .ok (.lxor, 1) := by decide +kernel
theorem dX5_heaps_45 : decode cX5_heaps 45 = .ok (.land, 1) := by decide +kernel
theorem dX5_heaps_46 : decode cX5_heaps 46 = .ok (.lstore_n 2, 1) := by decide +kernel
theorem dX5_heaps_47 : decode cX5_heaps 47 = .ok (.iinc 4 1, 3) := by decide +kernel
theorem dX5_heaps_50 : decode cX5_heaps 50 = .ok (.iinc 5 1, 3) := by decide +kernel
theorem dX5_heaps_53 : decode cX5_heaps 53 = .ok (.goto (-41), 3) := by decide +kernel
theorem dX5_heaps_56 : decode cX5_heaps 56 = .ok (.iload 4, 2) := by decide +kernel
theorem dX5_heaps_58 : decode cX5_heaps 58 = .ok (.ireturn, 1) := by decide +kernel
theorem dX5_thickestCell_0 : decode cX5_thickestCell 0 = .ok (.iconst 0, 1) := by decide +kernel
theorem dX5_thickestCell_1 : decode cX5_thickestCell 1 = .ok (.istore_n 1, 1) := by decide +kernel
theorem dX5_thickestCell_2 : decode cX5_thickestCell 2 = .ok (.iconst 1, 1) := by decide +kernel
theorem dX5_thickestCell_3 : decode cX5_thickestCell 3 = .ok (.istore_n 2, 1) := by decide +kernel
theorem dX5_thickestCell_4 : decode cX5_thickestCell 4 = .ok (.iload_n 2, 1) := by decide +kernel
theorem dX5_thickestCell_5 : decode cX5_thickestCell 5 = .ok (.bipush 36, 2) := by decide +kernel
theorem dX5_thickestCell_7 : decode cX5_thickestCell 7 = .ok (.if_icmp .ge 30, 3) := by decide +kernel
theorem dX5_thickestCell_10 : decode cX5_thickestCell 10 = .ok (.aload_n 0, 1) := by decide +kernel
theorem dX5_thickestCell_11 : decode cX5_thickestCell 11 = .ok (.getfield 9, 3) := by decide +kernel
theorem dX5_thickestCell_14 : decode cX5_thickestCell 14 = .ok (.iload_n 2, 1) := by decide +kernel
theorem dX5_thickestCell_15 : decode cX5_thickestCell 15 = .ok (.iaload, 1) := by decide +kernel
theorem dX5_thickestCell_16 : decode cX5_thickestCell 16 = .ok (.aload_n 0, 1) := by decide +kernel
theorem dX5_thickestCell_17 : decode cX5_thickestCell 17 = .ok (.getfield 9, 3) := by decide +kernel
theorem dX5_thickestCell_20 : decode cX5_thickestCell 20 = .ok (.iload_n 1, 1) := by decide +kernel
theorem dX5_thickestCell_21 : decode cX5_thickestCell 21 = .ok (.iaload, 1) := by decide +kernel
theorem dX5_thickestCell_22 : decode cX5_thickestCell 22 = .ok (.if_icmp .le 7, 3) := by decide +kernel
theorem dX5_thickestCell_25 : decode cX5_thickestCell 25 = .ok (.iload_n 2, 1) := by decide +kernel
theorem dX5_thickestCell_26 : decode cX5_thickestCell 26 = .ok (.goto 4, 3) := by decide +kernel
theorem dX5_thickestCell_29 : decode cX5_thickestCell 29 = .ok (.iload_n 1, 1) := by decide +kernel
theorem dX5_thickestCell_30 : decode cX5_thickestCell 30 = .ok (.istore_n 1, 1) := by decide +kernel
theorem dX5_thickestCell_31 : decode cX5_thickestCell 31 = .ok (.iinc 2 1, 3) := by decide +kernel
theorem dX5_thickestCell_34 : decode cX5_thickestCell 34 = .ok (.goto (-30), 3) := by decide +kernel
theorem dX5_thickestCell_37 : decode cX5_thickestCell 37 = .ok (.iload_n 1, 1) := by decide +kernel
theorem dX5_thickestCell_38 : decode cX5_thickestCell 38 = .ok (.ireturn, 1) := by decide +kernel
theorem dX5_thinnestCell_0 : decode cX5_thinnestCell 0 = .ok (.iconst 0, 1) := by decide +kernel
theorem dX5_thinnestCell_1 : decode cX5_thinnestCell 1 = .ok (.istore_n 1, 1) := by decide +kernel
theorem dX5_thinnestCell_2 : decode cX5_thinnestCell 2 = .ok (.iconst 1, 1) := by decide +kernel
theorem dX5_thinnestCell_3 : decode cX5_thinnestCell 3 = .ok (.istore_n 2, 1) := by decide +kernel
theorem dX5_thinnestCell_4 : decode cX5_thinnestCell 4 = .ok (.iload_n 2, 1) := by decide +kernel
theorem dX5_thinnestCell_5 : decode cX5_thinnestCell 5 = .ok (.bipush 36, 2) := by decide +kernel
theorem dX5_thinnestCell_7 : decode cX5_thinnestCell 7 = .ok (.if_icmp .ge 30, 3) := by decide +kernel
theorem dX5_thinnestCell_10 : decode cX5_thinnestCell 10 = .ok (.aload_n 0, 1) := by decide +kernel
theorem dX5_thinnestCell_11 : decode cX5_thinnestCell 11 = .ok (.getfield 9, 3) := by decide +kernel
theorem dX5_thinnestCell_14 : decode cX5_thinnestCell 14 = .ok (.iload_n 2, 1) := by decide +kernel
theorem dX5_thinnestCell_15 : decode cX5_thinnestCell 15 = .ok (.iaload, 1) := by decide +kernel
theorem dX5_thinnestCell_16 : decode cX5_thinnestCell 16 = .ok (.aload_n 0, 1) := by decide +kernel
theorem dX5_thinnestCell_17 : decode cX5_thinnestCell 17 = .ok (.getfield 9, 3) := by decide +kernel
theorem dX5_thinnestCell_20 : decode cX5_thinnestCell 20 = .ok (.iload_n 1, 1) := by decide +kernel
theorem dX5_thinnestCell_21 : decode cX5_thinnestCell 21 = .ok (.iaload, 1) := by decide +kernel
theorem dX5_thinnestCell_22 : decode cX5_thinnestCell 22 = .ok (.if_icmp .ge 7, 3) := by decide +kernel
theorem dX5_thinnestCell_25 : decode cX5_thinnestCell 25 = .ok (.iload_n 2, 1) := by decide +kernel
theorem dX5_thinnestCell_26 : decode cX5_thinnestCell 26 = .ok (.goto 4, 3) := by decide +kernel
theorem dX5_thinnestCell_29 : decode cX5_thinnestCell 29 = .ok (.iload_n 1, 1) := by decide +kernel
theorem dX5_thinnestCell_30 : decode cX5_thinnestCell 30 = .ok (.istore_n 1, 1) := by decide +kernel
theorem dX5_thinnestCell_31 : decode cX5_thinnestCell 31 = .ok (.iinc 2 1, 3) := by decide +kernel
theorem dX5_thinnestCell_34 : decode cX5_thinnestCell 34 = .ok (.goto (-30), 3) := by decide +kernel
theorem dX5_thinnestCell_37 : decode cX5_thinnestCell 37 = .ok (.iload_n 1, 1) := by decide +kernel
theorem dX5_thinnestCell_38 : decode cX5_thinnestCell 38 = .ok (.ireturn, 1) := by decide +kernel
theorem dX5_wander_0 : decode cX5_wander 0 = .ok (.iload_n 1, 1) := by decide +kernel
theorem dX5_wander_1 : decode cX5_wander 1 = .ok (.iconst 1, 1) := by decide +kernel
theorem dX5_wander_2 : decode cX5_wander 2 = .ok (.iadd, 1) := by decide +kernel
theorem dX5_wander_3 : decode cX5_wander 3 = .ok (.i2l, 1) := by decide +kernel
theorem dX5_wander_4 : decode cX5_wander 4 = .ok (.lstore 5, 2) := by decide +kernel
theorem dX5_wander_6 : decode cX5_wander 6 = .ok (.iconst 0, 1) := by decide +kernel
theorem dX5_wander_7 : decode cX5_wander 7 = .ok (.istore 7, 2) := by decide +kernel
theorem dX5_wander_9 : decode cX5_wander 9 = .ok (.aload_n 0, 1) := by decide +kernel
theorem dX5_wander_10 : decode cX5_wander 10 = .ok (.iload_n 3, 1) := by decide +kernel
theorem dX5_wander_11 : decode cX5_wander 11 = .ok (.putfield 143, 3) := by decide +kernel
theorem dX5_wander_14 : decode cX5_wander 14 = .ok (.iconst 0, 1) := by decide +kernel
theorem dX5_wander_15 : decode cX5_wander 15 = .ok (.istore 8, 2) := by decide +kernel
theorem dX5_wander_17 : decode cX5_wander 17 = .ok (.iload 8, 2) := by decide +kernel
theorem dX5_wander_19 : decode cX5_wander 19 = .ok (.iload 4, 2) := by decide +kernel
theorem dX5_wander_21 : decode cX5_wander 21 = .ok (.if_icmp .ge 80, 3) := by decide +kernel
theorem dX5_wander_24 : decode cX5_wander 24 = .ok (.iload 7, 2) := by decide +kernel
theorem dX5_wander_26 : decode cX5_wander 26 = .ok (.aload_n 0, 1) := by decide +kernel
theorem dX5_wander_27 : decode cX5_wander 27 = .ok (.iload_n 2, 1) := by decide +kernel
theorem dX5_wander_28 : decode cX5_wander 28 = .ok (.aload_n 0, 1) := by decide +kernel
theorem dX5_wander_29 : decode cX5_wander 29 = .ok (.getfield 143, 3) := by decide +kernel
theorem dX5_wander_32 : decode cX5_wander 32 = .ok (.invokevirtual 115, 3) := by decide +kernel
theorem dX5_wander_35 : decode cX5_wander 35 = .ok (.iadd, 1) := by decide +kernel
theorem dX5_wander_36 : decode cX5_wander 36 = .ok (.istore 7, 2) := by decide +kernel
theorem dX5_wander_38 : decode cX5_wander 38 = .ok (.aload_n 0, 1) := by decide +kernel
theorem dX5_wander_39 : decode cX5_wander 39 = .ok (.iload_n 2, 1) := by decide +kernel
theorem dX5_wander_40 : decode cX5_wander 40 = .ok (.aload_n 0, 1) := by decide +kernel
theorem dX5_wander_41 : decode cX5_wander 41 = .ok (.getfield 143, 3) := by decide +kernel
theorem dX5_wander_44 : decode cX5_wander 44 = .ok (.invokevirtual 146, 3) := by decide +kernel
theorem dX5_wander_47 : decode cX5_wander 47 = .ok (.pop, 1) := by decide +kernel
theorem dX5_wander_48 : decode cX5_wander 48 = .ok (.lload 5, 2) := by decide +kernel
theorem dX5_wander_50 : decode cX5_wander 50 = .ok (.ldc2_w 149, 3) := by decide +kernel
theorem dX5_wander_53 : decode cX5_wander 53 = .ok (.lmul, 1) := by decide +kernel
theorem dX5_wander_54 : decode cX5_wander 54 = .ok (.ldc2_w 151, 3) := by decide +kernel
theorem dX5_wander_57 : decode cX5_wander 57 = .ok (.lrem, 1) := by decide +kernel
theorem dX5_wander_58 : decode cX5_wander 58 = .ok (.lstore 5, 2) := by decide +kernel
theorem dX5_wander_60 : decode cX5_wander 60 = .ok (.aload_n 0, 1) := by decide +kernel
theorem dX5_wander_61 : decode cX5_wander 61 = .ok (.getfield 143, 3) := by decide +kernel
theorem dX5_wander_64 : decode cX5_wander 64 = .ok (.lload 5, 2) := by decide +kernel
theorem dX5_wander_66 : decode cX5_wander 66 = .ok (.ldc2_w 153, 3) := by decide +kernel
theorem dX5_wander_69 : decode cX5_wander 69 = .ok (.lrem, 1) := by decide +kernel
theorem dX5_wander_70 : decode cX5_wander 70 = .ok (.l2i, 1) := by decide +kernel
theorem dX5_wander_71 : decode cX5_wander 71 = .ok (.invokestatic 109, 3) := by decide +kernel
theorem dX5_wander_74 : decode cX5_wander 74 = .ok (.istore 9, 2) := by decide +kernel
theorem dX5_wander_76 : decode cX5_wander 76 = .ok (.aload_n 0, 1) := by decide +kernel
theorem dX5_wander_77 : decode cX5_wander 77 = .ok (.iload 9, 2) := by decide +kernel
theorem dX5_wander_79 : decode cX5_wander 79 = .ok (.iconst (-1), 1) := by decide +kernel
theorem dX5_wander_80 : decode cX5_wander 80 = .ok (.if_icmp .ne 10, 3) := by decide +kernel
theorem dX5_wander_83 : decode cX5_wander 83 = .ok (.aload_n 0, 1) := by decide +kernel
theorem dX5_wander_84 : decode cX5_wander 84 = .ok (.getfield 143, 3) := by decide +kernel
theorem dX5_wander_87 : decode cX5_wander 87 = .ok (.goto 5, 3) := by decide +kernel
theorem dX5_wander_90 : decode cX5_wander 90 = .ok (.iload 9, 2) := by decide +kernel
theorem dX5_wander_92 : decode cX5_wander 92 = .ok (.putfield 143, 3) := by decide +kernel
theorem dX5_wander_95 : decode cX5_wander 95 = .ok (.iinc 8 1, 3) := by decide +kernel
theorem dX5_wander_98 : decode cX5_wander 98 = .ok (.goto (-81), 3) := by decide +kernel
theorem dX5_wander_101 : decode cX5_wander 101 = .ok (.iload 7, 2) := by decide +kernel
theorem dX5_wander_103 : decode cX5_wander 103 = .ok (.ireturn, 1) := by decide +kernel
theorem dX6_init_0 : decode cX6_init 0 = .ok (.aload_n 0, 1) := by decide +kernel
theorem dX6_init_1 : decode cX6_init 1 = .ok (.invokespecial 3, 3) := by decide +kernel
theorem dX6_init_4 : decode cX6_init 4 = .ok (.aload_n 0, 1) := by decide +kernel
theorem dX6_init_5 : decode cX6_init 5 = .ok (.bipush 40, 2) := by decide +kernel
theorem dX6_init_7 : decode cX6_init 7 = .ok (.newarray .int, 2) := by decide +kernel
theorem dX6_init_9 : decode cX6_init 9 = .ok (.putfield 9, 3) := by decide +kernel
theorem dX6_init_12 : decode cX6_init 12 = .ok (.aload_n 0, 1) := by decide +kernel
theorem dX6_init_13 : decode cX6_init 13 = .ok (.iconst (-1), 1) := by decide +kernel
theorem dX6_init_14 : decode cX6_init 14 = .ok (.putfield 15, 3) := by decide +kernel
theorem dX6_init_17 : decode cX6_init 17 = .ok (.return_, 1) := by decide +kernel
theorem dX6_become_0 : decode cX6_become 0 = .ok (.aload_n 0, 1) := by decide +kernel
theorem dX6_become_1 : decode cX6_become 1 = .ok (.iload_n 1, 1) := by decide +kernel
theorem dX6_become_2 : decode cX6_become 2 = .ok (.putfield 15, 3) := by decide +kernel
theorem dX6_become_5 : decode cX6_become 5 = .ok (.aload_n 0, 1) := by decide +kernel
theorem dX6_become_6 : decode cX6_become 6 = .ok (.iload_n 2, 1) := by decide +kernel
theorem dX6_become_7 : decode cX6_become 7 = .ok (.putfield 19, 3) := by decide +kernel
theorem dX6_become_10 : decode cX6_become 10 = .ok (.aload_n 0, 1) := by decide +kernel
theorem dX6_become_11 : decode cX6_become 11 = .ok (.getfield 9, 3) := by decide +kernel
theorem dX6_become_14 : decode cX6_become 14 = .ok (.iconst 0, 1) := by decide +kernel
theorem dX6_become_15 : decode cX6_become 15 = .ok (.invokestatic 22, 3) := by decide +kernel
theorem dX6_become_18 : decode cX6_become 18 = .ok (.return_, 1) := by decide +kernel
theorem dX6_write_0 : decode cX6_write 0 = .ok (.aload_n 0, 1) := by decide +kernel
theorem dX6_write_1 : decode cX6_write 1 = .ok (.getfield 15, 3) := by decide +kernel
theorem dX6_write_4 : decode cX6_write 4 = .ok (.ifCond .ne 14, 3) := by decide +kernel
theorem dX6_write_7 : decode cX6_write 7 = .ok (.aload_n 0, 1) := by decide +kernel
theorem dX6_write_8 : decode cX6_write 8 = .ok (.getfield 9, 3) := by decide +kernel
theorem dX6_write_11 : decode cX6_write 11 = .ok (.iload_n 1, 1) := by decide +kernel
theorem dX6_write_12 : decode cX6_write 12 = .ok (.iload_n 2, 1) := by decide +kernel
theorem dX6_write_13 : decode cX6_write 13 = .ok (.i2b, 1) := by decide +kernel
theorem dX6_write_14 : decode cX6_write 14 = .ok (.iastore, 1) := by decide +kernel
theorem dX6_write_15 : decode cX6_write 15 = .ok (.goto 29, 3) := by decide +kernel
theorem dX6_write_18 : decode cX6_write 18 = .ok (.aload_n 0, 1) := by decide +kernel
theorem dX6_write_19 : decode cX6_write 19 = .ok (.getfield 15, 3) := by decide +kernel
theorem dX6_write_22 : decode cX6_write 22 = .ok (.iconst 1, 1) := by decide +kernel
theorem dX6_write_23 : decode cX6_write 23 = .ok (.if_icmp .ne 14, 3) := by decide +kernel
theorem dX6_write_26 : decode cX6_write 26 = .ok (.aload_n 0, 1) := by decide +kernel
theorem dX6_write_27 : decode cX6_write 27 = .ok (.getfield 9, 3) := by decide +kernel
theorem dX6_write_30 : decode cX6_write 30 = .ok (.iload_n 1, 1) := by decide +kernel
theorem dX6_write_31 : decode cX6_write 31 = .ok (.iload_n 2, 1) := by decide +kernel
theorem dX6_write_32 : decode cX6_write 32 = .ok (.i2s, 1) := by decide +kernel
theorem dX6_write_33 : decode cX6_write 33 = .ok (.iastore, 1) := by decide +kernel
theorem dX6_write_34 : decode cX6_write 34 = .ok (.goto 10, 3) := by decide +kernel
theorem dX6_write_37 : decode cX6_write 37 = .ok (.aload_n 0, 1) := by decide +kernel
theorem dX6_write_38 : decode cX6_write 38 = .ok (.getfield 9, 3) := by decide +kernel
theorem dX6_write_41 : decode cX6_write 41 = .ok (.iload_n 1, 1) := by decide +kernel
theorem dX6_write_42 : decode cX6_write 42 = .ok (.iload_n 2, 1) := by decide +kernel
theorem dX6_write_43 : decode cX6_write 43 = .ok (.iastore, 1) := by decide +kernel
theorem dX6_write_44 : decode cX6_write 44 = .ok (.return_, 1) := by decide +kernel
theorem dX6_holdsRange_0 : decode cX6_holdsRange 0 = .ok (.iload_n 1, 1) := by decide +kernel
theorem dX6_holdsRange_1 : decode cX6_holdsRange 1 = .ok (.ifCond .lt 29, 3) := by decide +kernel
theorem dX6_holdsRange_4 : decode cX6_holdsRange 4 = .ok (.iload_n 2, 1) := by decide +kernel
theorem dX6_holdsRange_5 : decode cX6_holdsRange 5 = .ok (.ifCond .lt 25, 3) := by decide +kernel
theorem dX6_holdsRange_8 : decode cX6_holdsRange 8 = .ok (.iload_n 1, 1) := by decide +kernel
theorem dX6_holdsRange_9 : decode cX6_holdsRange 9 = .ok (.aload_n 0, 1) := by decide +kernel
theorem dX6_holdsRange_10 : decode cX6_holdsRange 10 = .ok (.getfield 19, 3) := by decide +kernel
theorem dX6_holdsRange_13 : decode cX6_holdsRange 13 = .ok (.if_icmp .gt 17, 3) := by decide +kernel
theorem dX6_holdsRange_16 : decode cX6_holdsRange 16 = .ok (.iload_n 2, 1) := by decide +kernel
theorem dX6_holdsRange_17 : decode cX6_holdsRange 17 = .ok (.aload_n 0, 1) := by decide +kernel
theorem dX6_holdsRange_18 : decode cX6_holdsRange 18 = .ok (.getfield 19, 3) := by decide +kernel
theorem dX6_holdsRange_21 : decode cX6_holdsRange 21 = .ok (.iload_n 1, 1) := by decide +kernel
theorem dX6_holdsRange_22 : decode cX6_holdsRange 22 = .ok (.isub, 1) := by decide +kernel
theorem dX6_holdsRange_23 : decode cX6_holdsRange 23 = .ok (.if_icmp .gt 7, 3) := by decide +kernel
theorem dX6_holdsRange_26 : decode cX6_holdsRange 26 = .ok (.iconst 1, 1) := by decide +kernel
theorem dX6_holdsRange_27 : decode cX6_holdsRange 27 = .ok (.goto 4, 3) := by decide +kernel
theorem dX6_holdsRange_30 : decode cX6_holdsRange 30 = .ok (.iconst 0, 1) := by decide +kernel
theorem dX6_holdsRange_31 : decode cX6_holdsRange 31 = .ok (.ireturn, 1) := by decide +kernel
theorem dX6_tellsWalk_0 : decode cX6_tellsWalk 0 = .ok (.iconst 0, 1) := by decide +kernel
theorem dX6_tellsWalk_1 : decode cX6_tellsWalk 1 = .ok (.istore_n 1, 1) := by decide +kernel
theorem dX6_tellsWalk_2 : decode cX6_tellsWalk 2 = .ok (.iload_n 1, 1) := by decide +kernel
theorem dX6_tellsWalk_3 : decode cX6_tellsWalk 3 = .ok (.aload_n 0, 1) := by decide +kernel
theorem dX6_tellsWalk_4 : decode cX6_tellsWalk 4 = .ok (.getfield 19, 3) := by decide +kernel
theorem dX6_tellsWalk_7 : decode cX6_tellsWalk 7 = .ok (.if_icmp .ge 48, 3) := by decide +kernel
theorem dX6_tellsWalk_10 : decode cX6_tellsWalk 10 = .ok (.aload_n 0, 1) := by decide +kernel
theorem dX6_tellsWalk_11 : decode cX6_tellsWalk 11 = .ok (.getfield 9, 3) := by decide +kernel
theorem dX6_tellsWalk_14 : decode cX6_tellsWalk 14 = .ok (.iload_n 1, 1) := by decide +kernel
theorem dX6_tellsWalk_15 : decode cX6_tellsWalk 15 = .ok (.iaload, 1) := by decide +kernel
theorem dX6_tellsWalk_16 : decode cX6_tellsWalk 16 = .ok (.invokestatic 28, 3) := by decide +kernel
theorem dX6_tellsWalk_19 : decode cX6_tellsWalk 19 = .ok (.ifCond .eq 28, 3) := by decide +kernel
theorem dX6_tellsWalk_22 : decode cX6_tellsWalk 22 = .ok (.iload_n 1, 1) := by decide +kernel
theorem dX6_tellsWalk_23 : decode cX6_tellsWalk 23 = .ok (.ifCond .le 26, 3) := by decide +kernel
theorem dX6_tellsWalk_26 : decode cX6_tellsWalk 26 = .ok (.aload_n 0, 1) := by decide +kernel
theorem dX6_tellsWalk_27 : decode cX6_tellsWalk 27 = .ok (.getfield 9, 3) := by decide +kernel
theorem dX6_tellsWalk_30 : decode cX6_tellsWalk 30 = .ok (.iload_n 1, 1) := by decide +kernel
theorem dX6_tellsWalk_31 : decode cX6_tellsWalk 31 = .ok (.iconst 1, 1) := by decide +kernel
theorem dX6_tellsWalk_32 : decode cX6_tellsWalk 32 = .ok (.isub, 1) := by decide +kernel
theorem dX6_tellsWalk_33 : decode cX6_tellsWalk 33 = .ok (.iaload, 1) := by decide +kernel
theorem dX6_tellsWalk_34 : decode cX6_tellsWalk 34 = .ok (.aload_n 0, 1) := by decide +kernel
theorem dX6_tellsWalk_35 : decode cX6_tellsWalk 35 = .ok (.getfield 9, 3) := by decide +kernel
theorem dX6_tellsWalk_38 : decode cX6_tellsWalk 38 = .ok (.iload_n 1, 1) := by decide +kernel
theorem dX6_tellsWalk_39 : decode cX6_tellsWalk 39 = .ok (.iaload, 1) := by decide +kernel
theorem dX6_tellsWalk_40 : decode cX6_tellsWalk 40 = .ok (.invokestatic 32, 3) := by decide +kernel
theorem dX6_tellsWalk_43 : decode cX6_tellsWalk 43 = .ok (.iconst 1, 1) := by decide +kernel
theorem dX6_tellsWalk_44 : decode cX6_tellsWalk 44 = .ok (.if_icmp .eq 5, 3) := by decide +kernel
theorem dX6_tellsWalk_47 : decode cX6_tellsWalk 47 = .ok (.iconst 0, 1) := by decide +kernel
theorem dX6_tellsWalk_48 : decode cX6_tellsWalk 48 = .ok (.ireturn, 1) := by decide +kernel
theorem dX6_tellsWalk_49 : decode cX6_tellsWalk 49 = .ok (.iinc 1 1, 3) := by decide +kernel
theorem dX6_tellsWalk_52 : decode cX6_tellsWalk 52 = .ok (.goto (-50), 3) := by decide +kernel
theorem dX6_tellsWalk_55 : decode cX6_tellsWalk 55 = .ok (.iconst 1, 1) := by decide +kernel
theorem dX6_tellsWalk_56 : decode cX6_tellsWalk 56 = .ok (.ireturn, 1) := by decide +kernel
theorem dX7_init_0 : decode cX7_init 0 = .ok (.aload_n 0, 1) := by decide +kernel
theorem dX7_init_1 : decode cX7_init 1 = .ok (.invokespecial 1, 3) := by decide +kernel
theorem dX7_init_4 : decode cX7_init 4 = .ok (.return_, 1) := by decide +kernel
theorem dX7_drops_0 : decode cX7_drops 0 = .ok (.iload_n 1, 1) := by decide +kernel
theorem dX7_drops_1 : decode cX7_drops 1 = .ok (.ifCond .ne 8, 3) := by decide +kernel
theorem dX7_drops_4 : decode cX7_drops 4 = .ok (.iload_n 3, 1) := by decide +kernel
theorem dX7_drops_5 : decode cX7_drops 5 = .ok (.ineg, 1) := by decide +kernel
theorem dX7_drops_6 : decode cX7_drops 6 = .ok (.goto 10, 3) := by decide +kernel
theorem dX7_drops_9 : decode cX7_drops 9 = .ok (.aload_n 0, 1) := by decide +kernel
theorem dX7_drops_10 : decode cX7_drops 10 = .ok (.iload_n 1, 1) := by decide +kernel
theorem dX7_drops_11 : decode cX7_drops 11 = .ok (.iload_n 2, 1) := by decide +kernel
theorem dX7_drops_12 : decode cX7_drops 12 = .ok (.iload_n 3, 1) := by decide +kernel
theorem dX7_drops_13 : decode cX7_drops 13 = .ok (.invokespecial 7, 3) := by decide +kernel
theorem dX7_drops_16 : decode cX7_drops 16 = .ok (.ireturn, 1) := by decide +kernel
theorem dX7_feels_0 : decode cX7_feels 0 = .ok (.aload_n 0, 1) := by decide +kernel
theorem dX7_feels_1 : decode cX7_feels 1 = .ok (.iload_n 1, 1) := by decide +kernel
theorem dX7_feels_2 : decode cX7_feels 2 = .ok (.iload_n 2, 1) := by decide +kernel
theorem dX7_feels_3 : decode cX7_feels 3 = .ok (.invokespecial 11, 3) := by decide +kernel
theorem dX7_feels_6 : decode cX7_feels 6 = .ok (.iconst 4, 1) := by decide +kernel
theorem dX7_feels_7 : decode cX7_feels 7 = .ok (.idiv, 1) := by decide +kernel
theorem dX7_feels_8 : decode cX7_feels 8 = .ok (.ireturn, 1) := by decide +kernel
theorem dX7_isOf_0 : decode cX7_isOf 0 = .ok (.iload_n 1, 1) := by decide +kernel
theorem dX7_isOf_1 : decode cX7_isOf 1 = .ok (.iconst 4, 1) := by decide +kernel
theorem dX7_isOf_2 : decode cX7_isOf 2 = .ok (.if_icmp .eq 11, 3) := by decide +kernel
theorem dX7_isOf_5 : decode cX7_isOf 5 = .ok (.aload_n 0, 1) := by decide +kernel
theorem dX7_isOf_6 : decode cX7_isOf 6 = .ok (.iload_n 1, 1) := by decide +kernel
theorem dX7_isOf_7 : decode cX7_isOf 7 = .ok (.invokespecial 15, 3) := by decide +kernel
theorem dX7_isOf_10 : decode cX7_isOf 10 = .ok (.ifCond .eq 7, 3) := by decide +kernel
theorem dX7_isOf_13 : decode cX7_isOf 13 = .ok (.iconst 1, 1) := by decide +kernel
theorem dX7_isOf_14 : decode cX7_isOf 14 = .ok (.goto 4, 3) := by decide +kernel
theorem dX7_isOf_17 : decode cX7_isOf 17 = .ok (.iconst 0, 1) := by decide +kernel
theorem dX7_isOf_18 : decode cX7_isOf 18 = .ok (.ireturn, 1) := by decide +kernel
theorem dX8_init_0 : decode cX8_init 0 = .ok (.aload_n 0, 1) := by decide +kernel
theorem dX8_init_1 : decode cX8_init 1 = .ok (.invokespecial 3, 3) := by decide +kernel
theorem dX8_init_4 : decode cX8_init 4 = .ok (.aload_n 0, 1) := by decide +kernel
theorem dX8_init_5 : decode cX8_init 5 = .ok (.bipush 31, 2) := by decide +kernel
theorem dX8_init_7 : decode cX8_init 7 = .ok (.newarray .int, 2) := by decide +kernel
theorem dX8_init_9 : decode cX8_init 9 = .ok (.putfield 11, 3) := by decide +kernel
theorem dX8_init_12 : decode cX8_init 12 = .ok (.aload_n 0, 1) := by decide +kernel
theorem dX8_init_13 : decode cX8_init 13 = .ok (.iconst 4, 1) := by decide +kernel
theorem dX8_init_14 : decode cX8_init 14 = .ok (.newarray .int, 2) := by decide +kernel
theorem dX8_init_16 : decode cX8_init 16 = .ok (.dup, 1) := by decide +kernel
theorem dX8_init_17 : decode cX8_init 17 = .ok (.iconst 0, 1) := by decide +kernel
theorem dX8_init_18 : decode cX8_init 18 = .ok (.iconst 0, 1) := by decide +kernel
theorem dX8_init_19 : decode cX8_init 19 = .ok (.iastore, 1) := by decide +kernel
theorem dX8_init_20 : decode cX8_init 20 = .ok (.dup, 1) := by decide +kernel
theorem dX8_init_21 : decode cX8_init 21 = .ok (.iconst 1, 1) := by decide +kernel
theorem dX8_init_22 : decode cX8_init 22 = .ok (.iconst 1, 1) := by decide +kernel
theorem dX8_init_23 : decode cX8_init 23 = .ok (.iastore, 1) := by decide +kernel
theorem dX8_init_24 : decode cX8_init 24 = .ok (.dup, 1) := by decide +kernel
theorem dX8_init_25 : decode cX8_init 25 = .ok (.iconst 2, 1) := by decide +kernel
theorem dX8_init_26 : decode cX8_init 26 = .ok (.iconst 2, 1) := by decide +kernel
theorem dX8_init_27 : decode cX8_init 27 = .ok (.iastore, 1) := by decide +kernel
theorem dX8_init_28 : decode cX8_init 28 = .ok (.dup, 1) := by decide +kernel
theorem dX8_init_29 : decode cX8_init 29 = .ok (.iconst 3, 1) := by decide +kernel
theorem dX8_init_30 : decode cX8_init 30 = .ok (.iconst 3, 1) := by decide +kernel
theorem dX8_init_31 : decode cX8_init 31 = .ok (.iastore, 1) := by decide +kernel
theorem dX8_init_32 : decode cX8_init 32 = .ok (.putfield 15, 3) := by decide +kernel
theorem dX8_init_35 : decode cX8_init 35 = .ok (.aload_n 0, 1) := by decide +kernel
theorem dX8_init_36 : decode cX8_init 36 = .ok (.iconst 3, 1) := by decide +kernel
theorem dX8_init_37 : decode cX8_init 37 = .ok (.newarray .int, 2) := by decide +kernel
theorem dX8_init_39 : decode cX8_init 39 = .ok (.dup, 1) := by decide +kernel
theorem dX8_init_40 : decode cX8_init 40 = .ok (.iconst 0, 1) := by decide +kernel
theorem dX8_init_41 : decode cX8_init 41 = .ok (.bipush (-5), 2) := by decide +kernel
theorem dX8_init_43 : decode cX8_init 43 = .ok (.iastore, 1) := by decide +kernel
theorem dX8_init_44 : decode cX8_init 44 = .ok (.dup, 1) := by decide +kernel
theorem dX8_init_45 : decode cX8_init 45 = .ok (.iconst 1, 1) := by decide +kernel
theorem dX8_init_46 : decode cX8_init 46 = .ok (.iconst 1, 1) := by decide +kernel
theorem dX8_init_47 : decode cX8_init 47 = .ok (.iastore, 1) := by decide +kernel
theorem dX8_init_48 : decode cX8_init 48 = .ok (.dup, 1) := by decide +kernel
theorem dX8_init_49 : decode cX8_init 49 = .ok (.iconst 2, 1) := by decide +kernel
theorem dX8_init_50 : decode cX8_init 50 = .ok (.bipush (-3), 2) := by decide +kernel
theorem dX8_init_52 : decode cX8_init 52 = .ok (.iastore, 1) := by decide +kernel
theorem dX8_init_53 : decode cX8_init 53 = .ok (.putfield 20, 3) := by decide +kernel
theorem dX8_init_56 : decode cX8_init 56 = .ok (.return_, 1) := by decide +kernel
theorem dX8_become_0 : decode cX8_become 0 = .ok (.aload_n 0, 1) := by decide +kernel
theorem dX8_become_1 : decode cX8_become 1 = .ok (.aload_n 1, 1) := by decide +kernel
theorem dX8_become_2 : decode cX8_become 2 = .ok (.getfield 23, 3) := by decide +kernel
theorem dX8_become_5 : decode cX8_become 5 = .ok (.aload_n 1, 1) := by decide +kernel
theorem dX8_become_6 : decode cX8_become 6 = .ok (.getfield 24, 3) := by decide +kernel
theorem dX8_become_9 : decode cX8_become 9 = .ok (.invokestatic 28, 3) := by decide +kernel
theorem dX8_become_12 : decode cX8_become 12 = .ok (.putfield 20, 3) := by decide +kernel
theorem dX8_become_15 : decode cX8_become 15 = .ok (.aload_n 1, 1) := by decide +kernel
theorem dX8_become_16 : decode cX8_become 16 = .ok (.getfield 34, 3) := by decide +kernel
theorem dX8_become_19 : decode cX8_become 19 = .ok (.iconst 0, 1) := by decide +kernel
theorem dX8_become_20 : decode cX8_become 20 = .ok (.aload_n 0, 1) := by decide +kernel
theorem dX8_become_21 : decode cX8_become 21 = .ok (.getfield 15, 3) := by decide +kernel
theorem dX8_become_24 : decode cX8_become 24 = .ok (.iconst 0, 1) := by decide +kernel
theorem dX8_become_25 : decode cX8_become 25 = .ok (.iconst 3, 1) := by decide +kernel
theorem dX8_become_26 : decode cX8_become 26 = .ok (.invokestatic 35, 3) := by decide +kernel
theorem dX8_become_29 : decode cX8_become 29 = .ok (.aload_n 0, 1) := by decide +kernel
theorem dX8_become_30 : decode cX8_become 30 = .ok (.getfield 15, 3) := by decide +kernel
theorem dX8_become_33 : decode cX8_become 33 = .ok (.iconst 3, 1) := by decide +kernel
theorem dX8_become_34 : decode cX8_become 34 = .ok (.aload_n 1, 1) := by decide +kernel
theorem dX8_become_35 : decode cX8_become 35 = .ok (.getfield 24, 3) := by decide +kernel
theorem dX8_become_38 : decode cX8_become 38 = .ok (.iastore, 1) := by decide +kernel
theorem dX8_become_39 : decode cX8_become 39 = .ok (.return_, 1) := by decide +kernel
theorem dX8_says_0 : decode cX8_says 0 = .ok (.iconst 0, 1) := by decide +kernel
theorem dX8_says_1 : decode cX8_says 1 = .ok (.istore_n 3, 1) := by decide +kernel
theorem dX8_says_2 : decode cX8_says 2 = .ok (.aload_n 0, 1) := by decide +kernel
theorem dX8_says_3 : decode cX8_says 3 = .ok (.getfield 15, 3) := by decide +kernel
theorem dX8_says_6 : decode cX8_says 6 = .ok (.iload_n 1, 1) := by decide +kernel
theorem dX8_says_7 : decode cX8_says 7 = .ok (.iaload, 1) := by decide +kernel
theorem dX8_says_8 : decode cX8_says 8 = .ok (.istore 4, 2) := by decide +kernel
theorem dX8_says_10 : decode cX8_says 10 = .ok (.iload 4, 2) := by decide +kernel
theorem dX8_says_12 : decode cX8_says 12 = .ok (.aload_n 0, 1) := by decide +kernel
theorem dX8_says_13 : decode cX8_says 13 = .ok (.getfield 15, 3) := by decide +kernel
theorem dX8_says_16 : decode cX8_says 16 = .ok (.iload_n 1, 1) := by decide +kernel
theorem dX8_says_17 : decode cX8_says 17 = .ok (.iconst 1, 1) := by decide +kernel
theorem dX8_says_18 : decode cX8_says 18 = .ok (.iadd, 1) := by decide +kernel
theorem dX8_says_19 : decode cX8_says 19 = .ok (.iaload, 1) := by decide +kernel
theorem dX8_says_20 : decode cX8_says 20 = .ok (.if_icmp .ge 146, 3) := by decide +kernel
theorem dX8_says_23 : decode cX8_says 23 = .ok (.iload 4, 2) := by decide +kernel
theorem dX8_says_25 : decode cX8_says 25 = .ok (.aload_n 0, 1) := by decide +kernel
theorem dX8_says_26 : decode cX8_says 26 = .ok (.getfield 20, 3) := by decide +kernel
theorem dX8_says_29 : decode cX8_says 29 = .ok (.arraylength, 1) := by decide +kernel
theorem dX8_says_30 : decode cX8_says 30 = .ok (.if_icmp .ge 136, 3) := by decide +kernel
theorem dX8_says_33 : decode cX8_says 33 = .ok (.aload_n 0, 1) := by decide +kernel
theorem dX8_says_34 : decode cX8_says 34 = .ok (.getfield 20, 3) := by decide +kernel
theorem dX8_says_37 : decode cX8_says 37 = .ok (.iload 4, 2) := by decide +kernel
theorem dX8_says_39 : decode cX8_says 39 = .ok (.iaload, 1) := by decide +kernel
theorem dX8_says_40 : decode cX8_says 40 = .ok (.istore 5, 2) := by decide +kernel
theorem dX8_says_42 : decode cX8_says 42 = .ok (.iload 5, 2) := by decide +kernel
theorem dX8_says_44 : decode cX8_says 44 = .ok (.bipush (-6), 2) := by decide +kernel
theorem dX8_says_46 : decode cX8_says 46 = .ok (.if_icmp .lt 37, 3) := by decide +kernel
theorem dX8_says_49 : decode cX8_says 49 = .ok (.iload_n 3, 1) := by decide +kernel
theorem dX8_says_50 : decode cX8_says 50 = .ok (.bipush 31, 2) := by decide +kernel
theorem dX8_says_52 : decode cX8_says 52 = .ok (.if_icmp .ge 108, 3) := by decide +kernel
theorem dX8_says_55 : decode cX8_says 55 = .ok (.aload_n 0, 1) := by decide +kernel
theorem dX8_says_56 : decode cX8_says 56 = .ok (.getfield 11, 3) := by decide +kernel
theorem dX8_says_59 : decode cX8_says 59 = .ok (.iload_n 3, 1) := by decide +kernel
theorem dX8_says_60 : decode cX8_says 60 = .ok (.iload 5, 2) := by decide +kernel
theorem dX8_says_62 : decode cX8_says 62 = .ok (.ifCond .lt 8, 3) := by decide +kernel
theorem dX8_says_65 : decode cX8_says 65 = .ok (.iload 5, 2) := by decide +kernel
theorem dX8_says_67 : decode cX8_says 67 = .ok (.goto 9, 3) := by decide +kernel
theorem dX8_says_70 : decode cX8_says 70 = .ok (.aload_n 2, 1) := by decide +kernel
theorem dX8_says_71 : decode cX8_says 71 = .ok (.iconst (-1), 1) := by decide +kernel
theorem dX8_says_72 : decode cX8_says 72 = .ok (.iload 5, 2) := by decide +kernel
theorem dX8_says_74 : decode cX8_says 74 = .ok (.isub, 1) := by decide +kernel
theorem dX8_says_75 : decode cX8_says 75 = .ok (.iaload, 1) := by decide +kernel
theorem dX8_says_76 : decode cX8_says 76 = .ok (.iastore, 1) := by decide +kernel
theorem dX8_says_77 : decode cX8_says 77 = .ok (.iinc 3 1, 3) := by decide +kernel
theorem dX8_says_80 : decode cX8_says 80 = .ok (.goto 80, 3) := by decide +kernel
theorem dX8_says_83 : decode cX8_says 83 = .ok (.iload 5, 2) := by decide +kernel
theorem dX8_says_85 : decode cX8_says 85 = .ok (.bipush (-9), 2) := by decide +kernel
theorem dX8_says_87 : decode cX8_says 87 = .ok (.if_icmp .eq 10, 3) := by decide +kernel
theorem dX8_says_90 : decode cX8_says 90 = .ok (.iload 5, 2) := by decide +kernel
theorem dX8_says_92 : decode cX8_says 92 = .ok (.bipush (-10), 2) := by decide +kernel
theorem dX8_says_94 : decode cX8_says 94 = .ok (.if_icmp .ne 31, 3) := by decide +kernel
theorem dX8_says_97 : decode cX8_says 97 = .ok (.iload_n 3, 1) := by decide +kernel
theorem dX8_says_98 : decode cX8_says 98 = .ok (.ifCond .le 62, 3) := by decide +kernel
theorem dX8_says_101 : decode cX8_says 101 = .ok (.aload_n 0, 1) := by decide +kernel
theorem dX8_says_102 : decode cX8_says 102 = .ok (.getfield 11, 3) := by decide +kernel
theorem dX8_says_105 : decode cX8_says 105 = .ok (.iload_n 3, 1) := by decide +kernel
theorem dX8_says_106 : decode cX8_says 106 = .ok (.iconst 1, 1) := by decide +kernel
theorem dX8_says_107 : decode cX8_says 107 = .ok (.isub, 1) := by decide +kernel
theorem dX8_says_108 : decode cX8_says 108 = .ok (.iload 5, 2) := by decide +kernel
theorem dX8_says_110 : decode cX8_says 110 = .ok (.aload_n 0, 1) := by decide +kernel
theorem dX8_says_111 : decode cX8_says 111 = .ok (.getfield 11, 3) := by decide +kernel
theorem dX8_says_114 : decode cX8_says 114 = .ok (.iload_n 3, 1) := by decide +kernel
theorem dX8_says_115 : decode cX8_says 115 = .ok (.iconst 1, 1) := by decide +kernel
theorem dX8_says_116 : decode cX8_says 116 = .ok (.isub, 1) := by decide +kernel
theorem dX8_says_117 : decode cX8_says 117 = .ok (.iaload, 1) := by decide +kernel
theorem dX8_says_118 : decode cX8_says 118 = .ok (.invokestatic 41, 3) := by decide +kernel
theorem dX8_says_121 : decode cX8_says 121 = .ok (.iastore, 1) := by decide +kernel
theorem dX8_says_122 : decode cX8_says 122 = .ok (.goto 38, 3) := by decide +kernel
theorem dX8_says_125 : decode cX8_says 125 = .ok (.iload_n 3, 1) := by decide +kernel
theorem dX8_says_126 : decode cX8_says 126 = .ok (.iconst 1, 1) := by decide +kernel
theorem dX8_says_127 : decode cX8_says 127 = .ok (.if_icmp .le 33, 3) := by decide +kernel
theorem dX8_says_130 : decode cX8_says 130 = .ok (.iinc 3 (-1), 3) := by decide +kernel
theorem dX8_says_133 : decode cX8_says 133 = .ok (.aload_n 0, 1) := by decide +kernel
theorem dX8_says_134 : decode cX8_says 134 = .ok (.getfield 11, 3) := by decide +kernel
theorem dX8_says_137 : decode cX8_says 137 = .ok (.iload_n 3, 1) := by decide +kernel
theorem dX8_says_138 : decode cX8_says 138 = .ok (.iconst 1, 1) := by decide +kernel
theorem dX8_says_139 : decode cX8_says 139 = .ok (.isub, 1) := by decide +kernel
theorem dX8_says_140 : decode cX8_says 140 = .ok (.iload 5, 2) := by decide +kernel
theorem dX8_says_142 : decode cX8_says 142 = .ok (.aload_n 0, 1) := by decide +kernel
theorem dX8_says_143 : decode cX8_says 143 = .ok (.getfield 11, 3) := by decide +kernel
theorem dX8_says_146 : decode cX8_says 146 = .ok (.iload_n 3, 1) := by decide +kernel
theorem dX8_says_147 : decode cX8_says 147 = .ok (.iconst 1, 1) := by decide +kernel
theorem dX8_says_148 : decode cX8_says 148 = .ok (.isub, 1) := by decide +kernel
theorem dX8_says_149 : decode cX8_says 149 = .ok (.iaload, 1) := by decide +kernel
theorem dX8_says_150 : decode cX8_says 150 = .ok (.aload_n 0, 1) := by decide +kernel
theorem dX8_says_151 : decode cX8_says 151 = .ok (.getfield 11, 3) := by decide +kernel
theorem dX8_says_154 : decode cX8_says 154 = .ok (.iload_n 3, 1) := by decide +kernel
theorem dX8_says_155 : decode cX8_says 155 = .ok (.iaload, 1) := by decide +kernel
theorem dX8_says_156 : decode cX8_says 156 = .ok (.invokestatic 45, 3) := by decide +kernel
theorem dX8_says_159 : decode cX8_says 159 = .ok (.iastore, 1) := by decide +kernel
theorem dX8_says_160 : decode cX8_says 160 = .ok (.iinc 4 1, 3) := by decide +kernel
theorem dX8_says_163 : decode cX8_says 163 = .ok (.goto (-153), 3) := by decide +kernel
theorem dX8_says_166 : decode cX8_says 166 = .ok (.iload_n 3, 1) := by decide +kernel
theorem dX8_says_167 : decode cX8_says 167 = .ok (.ifCond .le 14, 3) := by decide +kernel
theorem dX8_says_170 : decode cX8_says 170 = .ok (.aload_n 0, 1) := by decide +kernel
theorem dX8_says_171 : decode cX8_says 171 = .ok (.getfield 11, 3) := by decide +kernel
theorem dX8_says_174 : decode cX8_says 174 = .ok (.iload_n 3, 1) := by decide +kernel
theorem dX8_says_175 : decode cX8_says 175 = .ok (.iconst 1, 1) := by decide +kernel
theorem dX8_says_176 : decode cX8_says 176 = .ok (.isub, 1) := by decide +kernel
theorem dX8_says_177 : decode cX8_says 177 = .ok (.iaload, 1) := by decide +kernel
theorem dX8_says_178 : decode cX8_says 178 = .ok (.goto 4, 3) := by decide +kernel
theorem dX8_says_181 : decode cX8_says 181 = .ok (.iconst 0, 1) := by decide +kernel
theorem dX8_says_182 : decode cX8_says 182 = .ok (.istore 4, 2) := by decide +kernel
theorem dX8_says_184 : decode cX8_says 184 = .ok (.iload_n 1, 1) := by decide +kernel
theorem dX8_says_185 : decode cX8_says 185 = .ok (.ifCond .ne 8, 3) := by decide +kernel
theorem dX8_says_188 : decode cX8_says 188 = .ok (.bipush (-99), 2) := by decide +kernel
theorem dX8_says_190 : decode cX8_says 190 = .ok (.goto 4, 3) := by decide +kernel
theorem dX8_says_193 : decode cX8_says 193 = .ok (.iconst 0, 1) := by decide +kernel
theorem dX8_says_194 : decode cX8_says 194 = .ok (.bipush 99, 2) := by decide +kernel
theorem dX8_says_196 : decode cX8_says 196 = .ok (.iload 4, 2) := by decide +kernel
theorem dX8_says_198 : decode cX8_says 198 = .ok (.invokestatic 49, 3) := by decide +kernel
theorem dX8_says_201 : decode cX8_says 201 = .ok (.invokestatic 54, 3) := by decide +kernel
theorem dX8_says_204 : decode cX8_says 204 = .ok (.ireturn, 1) := by decide +kernel
theorem dX8_ofOne_0 : decode cX8_ofOne 0 = .ok (.iload_n 0, 1) := by decide +kernel
theorem dX8_ofOne_1 : decode cX8_ofOne 1 = .ok (.bipush (-10), 2) := by decide +kernel
theorem dX8_ofOne_3 : decode cX8_ofOne 3 = .ok (.if_icmp .ne 6, 3) := by decide +kernel
theorem dX8_ofOne_6 : decode cX8_ofOne 6 = .ok (.iload_n 1, 1) := by decide +kernel
theorem dX8_ofOne_7 : decode cX8_ofOne 7 = .ok (.ineg, 1) := by decide +kernel
theorem dX8_ofOne_8 : decode cX8_ofOne 8 = .ok (.ireturn, 1) := by decide +kernel
theorem dX8_ofOne_9 : decode cX8_ofOne 9 = .ok (.iload_n 1, 1) := by decide +kernel
theorem dX8_ofOne_10 : decode cX8_ofOne 10 = .ok (.ifCond .ne 7, 3) := by decide +kernel
theorem dX8_ofOne_13 : decode cX8_ofOne 13 = .ok (.iconst 1, 1) := by decide +kernel
theorem dX8_ofOne_14 : decode cX8_ofOne 14 = .ok (.goto 4, 3) := by decide +kernel
theorem dX8_ofOne_17 : decode cX8_ofOne 17 = .ok (.iconst 0, 1) := by decide +kernel
theorem dX8_ofOne_18 : decode cX8_ofOne 18 = .ok (.ireturn, 1) := by decide +kernel
theorem dX8_ofTwo_0 : decode cX8_ofTwo 0 = .ok (.iload_n 0, 1) := by decide +kernel
theorem dX8_ofTwo_1 : decode cX8_ofTwo 1 = .ok (.ineg, 1) := by decide +kernel
theorem dX8_ofTwo_2 : decode cX8_ofTwo 2 = .ok (.lookupswitch 116 #[(7, 58), (8, 72), (43, 108), (45, 112), (60, 86), (61, 97)], 58) := by decide +kernel
theorem dX8_ofTwo_60 : decode cX8_ofTwo 60 = .ok (.iload_n 1, 1) := by decide +kernel
theorem dX8_ofTwo_61 : decode cX8_ofTwo 61 = .ok (.ifCond .ne 7, 3) := by decide +kernel
theorem dX8_ofTwo_64 : decode cX8_ofTwo 64 = .ok (.iload_n 2, 1) := by decide +kernel
theorem dX8_ofTwo_65 : decode cX8_ofTwo 65 = .ok (.ifCond .eq 7, 3) := by decide +kernel
theorem dX8_ofTwo_68 : decode cX8_ofTwo 68 = .ok (.iconst 1, 1) := by decide +kernel
theorem dX8_ofTwo_69 : decode cX8_ofTwo 69 = .ok (.goto 4, 3) := by decide +kernel
theorem dX8_ofTwo_72 : decode cX8_ofTwo 72 = .ok (.iconst 0, 1) := by decide +kernel
theorem dX8_ofTwo_73 : decode cX8_ofTwo 73 = .ok (.ireturn, 1) := by decide +kernel
theorem dX8_ofTwo_74 : decode cX8_ofTwo 74 = .ok (.iload_n 1, 1) := by decide +kernel
theorem dX8_ofTwo_75 : decode cX8_ofTwo 75 = .ok (.ifCond .eq 11, 3) := by decide +kernel
theorem dX8_ofTwo_78 : decode cX8_ofTwo 78 = .ok (.iload_n 2, 1) := by decide +kernel
theorem dX8_ofTwo_79 : decode cX8_ofTwo 79 = .ok (.ifCond .eq 7, 3) := by decide +kernel
theorem dX8_ofTwo_82 : decode cX8_ofTwo 82 = .ok (.iconst 1, 1) := by decide +kernel
theorem dX8_ofTwo_83 : decode cX8_ofTwo 83 = .ok (.goto 4, 3) := by decide +kernel
theorem dX8_ofTwo_86 : decode cX8_ofTwo 86 = .ok (.iconst 0, 1) := by decide +kernel
theorem dX8_ofTwo_87 : decode cX8_ofTwo 87 = .ok (.ireturn, 1) := by decide +kernel
theorem dX8_ofTwo_88 : decode cX8_ofTwo 88 = .ok (.iload_n 1, 1) := by decide +kernel
theorem dX8_ofTwo_89 : decode cX8_ofTwo 89 = .ok (.iload_n 2, 1) := by decide +kernel
theorem dX8_ofTwo_90 : decode cX8_ofTwo 90 = .ok (.if_icmp .ge 7, 3) := by decide +kernel
theorem dX8_ofTwo_93 : decode cX8_ofTwo 93 = .ok (.iconst 1, 1) := by decide +kernel
theorem dX8_ofTwo_94 : decode cX8_ofTwo 94 = .ok (.goto 4, 3) := by decide +kernel
theorem dX8_ofTwo_97 : decode cX8_ofTwo 97 = .ok (.iconst 0, 1) := by decide +kernel
theorem dX8_ofTwo_98 : decode cX8_ofTwo 98 = .ok (.ireturn, 1) := by decide +kernel
theorem dX8_ofTwo_99 : decode cX8_ofTwo 99 = .ok (.iload_n 1, 1) := by decide +kernel
theorem dX8_ofTwo_100 : decode cX8_ofTwo 100 = .ok (.iload_n 2, 1) := by decide +kernel
theorem dX8_ofTwo_101 : decode cX8_ofTwo 101 = .ok (.if_icmp .ne 7, 3) := by decide +kernel
theorem dX8_ofTwo_104 : decode cX8_ofTwo 104 = .ok (.iconst 1, 1) := by decide +kernel
theorem dX8_ofTwo_105 : decode cX8_ofTwo 105 = .ok (.goto 4, 3) := by decide +kernel
theorem dX8_ofTwo_108 : decode cX8_ofTwo 108 = .ok (.iconst 0, 1) := by decide +kernel
theorem dX8_ofTwo_109 : decode cX8_ofTwo 109 = .ok (.ireturn, 1) := by decide +kernel
theorem dX8_ofTwo_110 : decode cX8_ofTwo 110 = .ok (.iload_n 1, 1) := by decide +kernel
theorem dX8_ofTwo_111 : decode cX8_ofTwo 111 = .ok (.iload_n 2, 1) := by decide +kernel
theorem dX8_ofTwo_112 : decode cX8_ofTwo 112 = .ok (.iadd, 1) := by decide +kernel
theorem dX8_ofTwo_113 : decode cX8_ofTwo 113 = .ok (.ireturn, 1) := by decide +kernel
theorem dX8_ofTwo_114 : decode cX8_ofTwo 114 = .ok (.iload_n 1, 1) := by decide +kernel
theorem dX8_ofTwo_115 : decode cX8_ofTwo 115 = .ok (.iload_n 2, 1) := by decide +kernel
theorem dX8_ofTwo_116 : decode cX8_ofTwo 116 = .ok (.isub, 1) := by decide +kernel
theorem dX8_ofTwo_117 : decode cX8_ofTwo 117 = .ok (.ireturn, 1) := by decide +kernel
theorem dX8_ofTwo_118 : decode cX8_ofTwo 118 = .ok (.iload_n 1, 1) := by decide +kernel
theorem dX8_ofTwo_119 : decode cX8_ofTwo 119 = .ok (.iload_n 2, 1) := by decide +kernel
theorem dX8_ofTwo_120 : decode cX8_ofTwo 120 = .ok (.imul, 1) := by decide +kernel
theorem dX8_ofTwo_121 : decode cX8_ofTwo 121 = .ok (.ireturn, 1) := by decide +kernel
theorem dX9_init_0 : decode cX9_init 0 = .ok (.aload_n 0, 1) := by decide +kernel
theorem dX9_init_1 : decode cX9_init 1 = .ok (.invokespecial 1, 3) := by decide +kernel
theorem dX9_init_4 : decode cX9_init 4 = .ok (.return_, 1) := by decide +kernel
theorem dX9_drops_0 : decode cX9_drops 0 = .ok (.iload_n 1, 1) := by decide +kernel
theorem dX9_drops_1 : decode cX9_drops 1 = .ok (.ifCond .ne 11, 3) := by decide +kernel
theorem dX9_drops_4 : decode cX9_drops 4 = .ok (.iload_n 2, 1) := by decide +kernel
theorem dX9_drops_5 : decode cX9_drops 5 = .ok (.iconst 2, 1) := by decide +kernel
theorem dX9_drops_6 : decode cX9_drops 6 = .ok (.iload_n 3, 1) := by decide +kernel
theorem dX9_drops_7 : decode cX9_drops 7 = .ok (.imul, 1) := by decide +kernel
theorem dX9_drops_8 : decode cX9_drops 8 = .ok (.iadd, 1) := by decide +kernel
theorem dX9_drops_9 : decode cX9_drops 9 = .ok (.goto 10, 3) := by decide +kernel
theorem dX9_drops_12 : decode cX9_drops 12 = .ok (.aload_n 0, 1) := by decide +kernel
theorem dX9_drops_13 : decode cX9_drops 13 = .ok (.iload_n 1, 1) := by decide +kernel
theorem dX9_drops_14 : decode cX9_drops 14 = .ok (.iload_n 2, 1) := by decide +kernel
theorem dX9_drops_15 : decode cX9_drops 15 = .ok (.iload_n 3, 1) := by decide +kernel
theorem dX9_drops_16 : decode cX9_drops 16 = .ok (.invokespecial 7, 3) := by decide +kernel
theorem dX9_drops_19 : decode cX9_drops 19 = .ok (.ireturn, 1) := by decide +kernel
theorem dX9_wears_0 : decode cX9_wears 0 = .ok (.iload_n 3, 1) := by decide +kernel
theorem dX9_wears_1 : decode cX9_wears 1 = .ok (.bipush 50, 2) := by decide +kernel
theorem dX9_wears_3 : decode cX9_wears 3 = .ok (.if_icmp .le 7, 3) := by decide +kernel
theorem dX9_wears_6 : decode cX9_wears 6 = .ok (.iconst 0, 1) := by decide +kernel
theorem dX9_wears_7 : decode cX9_wears 7 = .ok (.goto 10, 3) := by decide +kernel
theorem dX9_wears_10 : decode cX9_wears 10 = .ok (.aload_n 0, 1) := by decide +kernel
theorem dX9_wears_11 : decode cX9_wears 11 = .ok (.iload_n 1, 1) := by decide +kernel
theorem dX9_wears_12 : decode cX9_wears 12 = .ok (.iload_n 2, 1) := by decide +kernel
theorem dX9_wears_13 : decode cX9_wears 13 = .ok (.iload_n 3, 1) := by decide +kernel
theorem dX9_wears_14 : decode cX9_wears 14 = .ok (.invokespecial 11, 3) := by decide +kernel
theorem dX9_wears_17 : decode cX9_wears 17 = .ok (.ireturn, 1) := by decide +kernel
theorem dX9_isOf_0 : decode cX9_isOf 0 = .ok (.iload_n 1, 1) := by decide +kernel
theorem dX9_isOf_1 : decode cX9_isOf 1 = .ok (.iconst 3, 1) := by decide +kernel
theorem dX9_isOf_2 : decode cX9_isOf 2 = .ok (.if_icmp .eq 11, 3) := by decide +kernel
theorem dX9_isOf_5 : decode cX9_isOf 5 = .ok (.aload_n 0, 1) := by decide +kernel
theorem dX9_isOf_6 : decode cX9_isOf 6 = .ok (.iload_n 1, 1) := by decide +kernel
theorem dX9_isOf_7 : decode cX9_isOf 7 = .ok (.invokespecial 14, 3) := by decide +kernel
theorem dX9_isOf_10 : decode cX9_isOf 10 = .ok (.ifCond .eq 7, 3) := by decide +kernel
theorem dX9_isOf_13 : decode cX9_isOf 13 = .ok (.iconst 1, 1) := by decide +kernel
theorem dX9_isOf_14 : decode cX9_isOf 14 = .ok (.goto 4, 3) := by decide +kernel
theorem dX9_isOf_17 : decode cX9_isOf 17 = .ok (.iconst 0, 1) := by decide +kernel
theorem dX9_isOf_18 : decode cX9_isOf 18 = .ok (.ireturn, 1) := by decide +kernel
theorem dX10_init_0 : decode cX10_init 0 = .ok (.aload_n 0, 1) := by decide +kernel
theorem dX10_init_1 : decode cX10_init 1 = .ok (.invokespecial 3, 3) := by decide +kernel
theorem dX10_init_4 : decode cX10_init 4 = .ok (.bipush 6, 2) := by decide +kernel
theorem dX10_init_6 : decode cX10_init 6 = .ok (.anewarray 9, 3) := by decide +kernel
theorem dX10_init_9 : decode cX10_init 9 = .ok (.astore_n 1, 1) := by decide +kernel
theorem dX10_init_10 : decode cX10_init 10 = .ok (.iconst 0, 1) := by decide +kernel
theorem dX10_init_11 : decode cX10_init 11 = .ok (.istore_n 2, 1) := by decide +kernel
theorem dX10_init_12 : decode cX10_init 12 = .ok (.iload_n 2, 1) := by decide +kernel
theorem dX10_init_13 : decode cX10_init 13 = .ok (.bipush 6, 2) := by decide +kernel
theorem dX10_init_15 : decode cX10_init 15 = .ok (.if_icmp .ge 19, 3) := by decide +kernel
theorem dX10_init_18 : decode cX10_init 18 = .ok (.aload_n 1, 1) := by decide +kernel
theorem dX10_init_19 : decode cX10_init 19 = .ok (.iload_n 2, 1) := by decide +kernel
theorem dX10_init_20 : decode cX10_init 20 = .ok (.new 9, 3) := by decide +kernel
theorem dX10_init_23 : decode cX10_init 23 = .ok (.dup, 1) := by decide +kernel
theorem dX10_init_24 : decode cX10_init 24 = .ok (.invokespecial 11, 3) := by decide +kernel
theorem dX10_init_27 : decode cX10_init 27 = .ok (.aastore, 1) := by decide +kernel
theorem dX10_init_28 : decode cX10_init 28 = .ok (.iinc 2 1, 3) := by decide +kernel
theorem dX10_init_31 : decode cX10_init 31 = .ok (.goto (-19), 3) := by decide +kernel
theorem dX10_init_34 : decode cX10_init 34 = .ok (.bipush 6, 2) := by decide +kernel
theorem dX10_init_36 : decode cX10_init 36 = .ok (.anewarray 12, 3) := by decide +kernel
theorem dX10_init_39 : decode cX10_init 39 = .ok (.dup, 1) := by decide +kernel
theorem dX10_init_40 : decode cX10_init 40 = .ok (.iconst 0, 1) := by decide +kernel
theorem dX10_init_41 : decode cX10_init 41 = .ok (.new 12, 3) := by decide +kernel
theorem dX10_init_44 : decode cX10_init 44 = .ok (.dup, 1) := by decide +kernel
theorem dX10_init_45 : decode cX10_init 45 = .ok (.invokespecial 14, 3) := by decide +kernel
theorem dX10_init_48 : decode cX10_init 48 = .ok (.aastore, 1) := by decide +kernel
theorem dX10_init_49 : decode cX10_init 49 = .ok (.dup, 1) := by decide +kernel
theorem dX10_init_50 : decode cX10_init 50 = .ok (.iconst 1, 1) := by decide +kernel
theorem dX10_init_51 : decode cX10_init 51 = .ok (.new 15, 3) := by decide +kernel
theorem dX10_init_54 : decode cX10_init 54 = .ok (.dup, 1) := by decide +kernel
theorem dX10_init_55 : decode cX10_init 55 = .ok (.invokespecial 17, 3) := by decide +kernel
theorem dX10_init_58 : decode cX10_init 58 = .ok (.aastore, 1) := by decide +kernel
theorem dX10_init_59 : decode cX10_init 59 = .ok (.dup, 1) := by decide +kernel
theorem dX10_init_60 : decode cX10_init 60 = .ok (.iconst 2, 1) := by decide +kernel
theorem dX10_init_61 : decode cX10_init 61 = .ok (.new 18, 3) := by decide +kernel
theorem dX10_init_64 : decode cX10_init 64 = .ok (.dup, 1) := by decide +kernel
theorem dX10_init_65 : decode cX10_init 65 = .ok (.invokespecial 20, 3) := by decide +kernel
theorem dX10_init_68 : decode cX10_init 68 = .ok (.aastore, 1) := by decide +kernel
theorem dX10_init_69 : decode cX10_init 69 = .ok (.dup, 1) := by decide +kernel
theorem dX10_init_70 : decode cX10_init 70 = .ok (.iconst 3, 1) := by decide +kernel
theorem dX10_init_71 : decode cX10_init 71 = .ok (.new 21, 3) := by decide +kernel
theorem dX10_init_74 : decode cX10_init 74 = .ok (.dup, 1) := by decide +kernel
theorem dX10_init_75 : decode cX10_init 75 = .ok (.invokespecial 23, 3) := by decide +kernel
theorem dX10_init_78 : decode cX10_init 78 = .ok (.aastore, 1) := by decide +kernel
theorem dX10_init_79 : decode cX10_init 79 = .ok (.dup, 1) := by decide +kernel
theorem dX10_init_80 : decode cX10_init 80 = .ok (.iconst 4, 1) := by decide +kernel
theorem dX10_init_81 : decode cX10_init 81 = .ok (.new 24, 3) := by decide +kernel
theorem dX10_init_84 : decode cX10_init 84 = .ok (.dup, 1) := by decide +kernel
theorem dX10_init_85 : decode cX10_init 85 = .ok (.invokespecial 26, 3) := by decide +kernel
theorem dX10_init_88 : decode cX10_init 88 = .ok (.aastore, 1) := by decide +kernel
theorem dX10_init_89 : decode cX10_init 89 = .ok (.dup, 1) := by decide +kernel
theorem dX10_init_90 : decode cX10_init 90 = .ok (.iconst 5, 1) := by decide +kernel
theorem dX10_init_91 : decode cX10_init 91 = .ok (.new 27, 3) := by decide +kernel
theorem dX10_init_94 : decode cX10_init 94 = .ok (.dup, 1) := by decide +kernel
theorem dX10_init_95 : decode cX10_init 95 = .ok (.invokespecial 29, 3) := by decide +kernel
theorem dX10_init_98 : decode cX10_init 98 = .ok (.aastore, 1) := by decide +kernel
theorem dX10_init_99 : decode cX10_init 99 = .ok (.astore_n 2, 1) := by decide +kernel
theorem dX10_init_100 : decode cX10_init 100 = .ok (.aload_n 0, 1) := by decide +kernel
theorem dX10_init_101 : decode cX10_init 101 = .ok (.new 30, 3) := by decide +kernel
theorem dX10_init_104 : decode cX10_init 104 = .ok (.dup, 1) := by decide +kernel
theorem dX10_init_105 : decode cX10_init 105 = .ok (.invokespecial 32, 3) := by decide +kernel
theorem dX10_init_108 : decode cX10_init 108 = .ok (.putfield 33, 3) := by decide +kernel
theorem dX10_init_111 : decode cX10_init 111 = .ok (.aload_n 0, 1) := by decide +kernel
theorem dX10_init_112 : decode cX10_init 112 = .ok (.aload_n 1, 1) := by decide +kernel
theorem dX10_init_113 : decode cX10_init 113 = .ok (.putfield 37, 3) := by decide +kernel
theorem dX10_init_116 : decode cX10_init 116 = .ok (.aload_n 0, 1) := by decide +kernel
theorem dX10_init_117 : decode cX10_init 117 = .ok (.iconst 1, 1) := by decide +kernel
theorem dX10_init_118 : decode cX10_init 118 = .ok (.putfield 41, 3) := by decide +kernel
theorem dX10_init_121 : decode cX10_init 121 = .ok (.aload_n 0, 1) := by decide +kernel
theorem dX10_init_122 : decode cX10_init 122 = .ok (.aload_n 2, 1) := by decide +kernel
theorem dX10_init_123 : decode cX10_init 123 = .ok (.putfield 45, 3) := by decide +kernel
theorem dX10_init_126 : decode cX10_init 126 = .ok (.aload_n 0, 1) := by decide +kernel
theorem dX10_init_127 : decode cX10_init 127 = .ok (.iconst 4, 1) := by decide +kernel
theorem dX10_init_128 : decode cX10_init 128 = .ok (.anewarray 49, 3) := by decide +kernel
theorem dX10_init_131 : decode cX10_init 131 = .ok (.putfield 51, 3) := by decide +kernel
theorem dX10_init_134 : decode cX10_init 134 = .ok (.iconst 0, 1) := by decide +kernel
theorem dX10_init_135 : decode cX10_init 135 = .ok (.istore_n 3, 1) := by decide +kernel
theorem dX10_init_136 : decode cX10_init 136 = .ok (.iload_n 3, 1) := by decide +kernel
theorem dX10_init_137 : decode cX10_init 137 = .ok (.iconst 4, 1) := by decide +kernel
theorem dX10_init_138 : decode cX10_init 138 = .ok (.if_icmp .ge 22, 3) := by decide +kernel
theorem dX10_init_141 : decode cX10_init 141 = .ok (.aload_n 0, 1) := by decide +kernel
theorem dX10_init_142 : decode cX10_init 142 = .ok (.getfield 51, 3) := by decide +kernel
theorem dX10_init_145 : decode cX10_init 145 = .ok (.iload_n 3, 1) := by decide +kernel
theorem dX10_init_146 : decode cX10_init 146 = .ok (.new 49, 3) := by decide +kernel
theorem dX10_init_149 : decode cX10_init 149 = .ok (.dup, 1) := by decide +kernel
theorem dX10_init_150 : decode cX10_init 150 = .ok (.invokespecial 55, 3) := by decide +kernel
theorem dX10_init_153 : decode cX10_init 153 = .ok (.aastore, 1) := by decide +kernel
theorem dX10_init_154 : decode cX10_init 154 = .ok (.iinc 3 1, 3) := by decide +kernel
theorem dX10_init_157 : decode cX10_init 157 = .ok (.goto (-21), 3) := by decide +kernel
theorem dX10_init_160 : decode cX10_init 160 = .ok (.aload_n 0, 1) := by decide +kernel
theorem dX10_init_161 : decode cX10_init 161 = .ok (.new 56, 3) := by decide +kernel
theorem dX10_init_164 : decode cX10_init 164 = .ok (.dup, 1) := by decide +kernel
theorem dX10_init_165 : decode cX10_init 165 = .ok (.aload_n 1, 1) := by decide +kernel
theorem dX10_init_166 : decode cX10_init 166 = .ok (.aload_n 2, 1) := by decide +kernel
theorem dX10_init_167 : decode cX10_init 167 = .ok (.invokespecial 58, 3) := by decide +kernel
theorem dX10_init_170 : decode cX10_init 170 = .ok (.putfield 61, 3) := by decide +kernel
theorem dX10_init_173 : decode cX10_init 173 = .ok (.aload_n 0, 1) := by decide +kernel
theorem dX10_init_174 : decode cX10_init 174 = .ok (.new 56, 3) := by decide +kernel
theorem dX10_init_177 : decode cX10_init 177 = .ok (.dup, 1) := by decide +kernel
theorem dX10_init_178 : decode cX10_init 178 = .ok (.aload_n 1, 1) := by decide +kernel
theorem dX10_init_179 : decode cX10_init 179 = .ok (.aload_n 2, 1) := by decide +kernel
theorem dX10_init_180 : decode cX10_init 180 = .ok (.invokespecial 58, 3) := by decide +kernel
theorem dX10_init_183 : decode cX10_init 183 = .ok (.putfield 65, 3) := by decide +kernel
theorem dX10_init_186 : decode cX10_init 186 = .ok (.aload_n 0, 1) := by decide +kernel
theorem dX10_init_187 : decode cX10_init 187 = .ok (.new 56, 3) := by decide +kernel
theorem dX10_init_190 : decode cX10_init 190 = .ok (.dup, 1) := by decide +kernel
theorem dX10_init_191 : decode cX10_init 191 = .ok (.aload_n 1, 1) := by decide +kernel
theorem dX10_init_192 : decode cX10_init 192 = .ok (.aload_n 2, 1) := by decide +kernel
theorem dX10_init_193 : decode cX10_init 193 = .ok (.invokespecial 58, 3) := by decide +kernel
theorem dX10_init_196 : decode cX10_init 196 = .ok (.putfield 68, 3) := by decide +kernel
theorem dX10_init_199 : decode cX10_init 199 = .ok (.return_, 1) := by decide +kernel
theorem dX10_count_0 : decode cX10_count 0 = .ok (.iload_n 1, 1) := by decide +kernel
theorem dX10_count_1 : decode cX10_count 1 = .ok (.tableswitch 87 0 5 #[39, 47, 55, 66, 71, 79], 39) := by decide +kernel
theorem dX10_count_40 : decode cX10_count 40 = .ok (.aload_n 0, 1) := by decide +kernel
theorem dX10_count_41 : decode cX10_count 41 = .ok (.getfield 61, 3) := by decide +kernel
theorem dX10_count_44 : decode cX10_count 44 = .ok (.getfield 71, 3) := by decide +kernel
theorem dX10_count_47 : decode cX10_count 47 = .ok (.ireturn, 1) := by decide +kernel
theorem dX10_count_48 : decode cX10_count 48 = .ok (.aload_n 0, 1) := by decide +kernel
theorem dX10_count_49 : decode cX10_count 49 = .ok (.getfield 61, 3) := by decide +kernel
theorem dX10_count_52 : decode cX10_count 52 = .ok (.getfield 74, 3) := by decide +kernel
theorem dX10_count_55 : decode cX10_count 55 = .ok (.ireturn, 1) := by decide +kernel
theorem dX10_count_56 : decode cX10_count 56 = .ok (.aload_n 0, 1) := by decide +kernel
theorem dX10_count_57 : decode cX10_count 57 = .ok (.getfield 61, 3) := by decide +kernel
theorem dX10_count_60 : decode cX10_count 60 = .ok (.iconst 0, 1) := by decide +kernel
theorem dX10_count_61 : decode cX10_count 61 = .ok (.bipush 36, 2) := by decide +kernel
theorem dX10_count_63 : decode cX10_count 63 = .ok (.invokevirtual 77, 3) := by decide +kernel
theorem dX10_count_66 : decode cX10_count 66 = .ok (.ireturn, 1) := by decide +kernel
theorem dX10_count_67 : decode cX10_count 67 = .ok (.aload_n 0, 1) := by decide +kernel
theorem dX10_count_68 : decode cX10_count 68 = .ok (.getfield 41, 3) := by decide +kernel
theorem dX10_count_71 : decode cX10_count 71 = .ok (.ireturn, 1) := by decide +kernel
theorem dX10_count_72 : decode cX10_count 72 = .ok (.aload_n 0, 1) := by decide +kernel
theorem dX10_count_73 : decode cX10_count 73 = .ok (.getfield 61, 3) := by decide +kernel
theorem dX10_count_76 : decode cX10_count 76 = .ok (.getfield 81, 3) := by decide +kernel
theorem dX10_count_79 : decode cX10_count 79 = .ok (.ireturn, 1) := by decide +kernel
theorem dX10_count_80 : decode cX10_count 80 = .ok (.aload_n 0, 1) := by decide +kernel
theorem dX10_count_81 : decode cX10_count 81 = .ok (.getfield 33, 3) := by decide +kernel
theorem dX10_count_84 : decode cX10_count 84 = .ok (.getfield 84, 3) := by decide +kernel
theorem dX10_count_87 : decode cX10_count 87 = .ok (.ireturn, 1) := by decide +kernel
theorem dX10_count_88 : decode cX10_count 88 = .ok (.bipush (-2), 2) := by decide +kernel
theorem dX10_count_90 : decode cX10_count 90 = .ok (.ireturn, 1) := by decide +kernel
theorem dX10_lay_0 : decode cX10_lay 0 = .ok (.iload_n 1, 1) := by decide +kernel
theorem dX10_lay_1 : decode cX10_lay 1 = .ok (.invokestatic 87, 3) := by decide +kernel
theorem dX10_lay_4 : decode cX10_lay 4 = .ok (.ifCond .ne 6, 3) := by decide +kernel
theorem dX10_lay_7 : decode cX10_lay 7 = .ok (.bipush (-5), 2) := by decide +kernel
theorem dX10_lay_9 : decode cX10_lay 9 = .ok (.ireturn, 1) := by decide +kernel
theorem dX10_lay_10 : decode cX10_lay 10 = .ok (.iload_n 2, 1) := by decide +kernel
theorem dX10_lay_11 : decode cX10_lay 11 = .ok (.iconst 0, 1) := by decide +kernel
theorem dX10_lay_12 : decode cX10_lay 12 = .ok (.sipush 999, 3) := by decide +kernel
theorem dX10_lay_15 : decode cX10_lay 15 = .ok (.invokestatic 91, 3) := by decide +kernel
theorem dX10_lay_18 : decode cX10_lay 18 = .ok (.ifCond .ne 6, 3) := by decide +kernel
theorem dX10_lay_21 : decode cX10_lay 21 = .ok (.bipush (-7), 2) := by decide +kernel
theorem dX10_lay_23 : decode cX10_lay 23 = .ok (.ireturn, 1) := by decide +kernel
theorem dX10_lay_24 : decode cX10_lay 24 = .ok (.aload_n 0, 1) := by decide +kernel
theorem dX10_lay_25 : decode cX10_lay 25 = .ok (.getfield 61, 3) := by decide +kernel
theorem dX10_lay_28 : decode cX10_lay 28 = .ok (.getfield 95, 3) := by decide +kernel
theorem dX10_lay_31 : decode cX10_lay 31 = .ok (.iload_n 1, 1) := by decide +kernel
theorem dX10_lay_32 : decode cX10_lay 32 = .ok (.iaload, 1) := by decide +kernel
theorem dX10_lay_33 : decode cX10_lay 33 = .ok (.istore_n 3, 1) := by decide +kernel
theorem dX10_lay_34 : decode cX10_lay 34 = .ok (.aload_n 0, 1) := by decide +kernel
theorem dX10_lay_35 : decode cX10_lay 35 = .ok (.getfield 61, 3) := by decide +kernel
theorem dX10_lay_38 : decode cX10_lay 38 = .ok (.getfield 95, 3) := by decide +kernel
theorem dX10_lay_41 : decode cX10_lay 41 = .ok (.iload_n 1, 1) := by decide +kernel
theorem dX10_lay_42 : decode cX10_lay 42 = .ok (.iload_n 2, 1) := by decide +kernel
theorem dX10_lay_43 : decode cX10_lay 43 = .ok (.iastore, 1) := by decide +kernel
theorem dX10_lay_44 : decode cX10_lay 44 = .ok (.iload_n 3, 1) := by decide +kernel
theorem dX10_lay_45 : decode cX10_lay 45 = .ok (.ireturn, 1) := by decide +kernel
theorem dX10_under_0 : decode cX10_under 0 = .ok (.iload_n 1, 1) := by decide +kernel
theorem dX10_under_1 : decode cX10_under 1 = .ok (.invokestatic 87, 3) := by decide +kernel
theorem dX10_under_4 : decode cX10_under 4 = .ok (.ifCond .eq 15, 3) := by decide +kernel
theorem dX10_under_7 : decode cX10_under 7 = .ok (.aload_n 0, 1) := by decide +kernel
theorem dX10_under_8 : decode cX10_under 8 = .ok (.getfield 61, 3) := by decide +kernel
theorem dX10_under_11 : decode cX10_under 11 = .ok (.getfield 95, 3) := by decide +kernel
theorem dX10_under_14 : decode cX10_under 14 = .ok (.iload_n 1, 1) := by decide +kernel
theorem dX10_under_15 : decode cX10_under 15 = .ok (.iaload, 1) := by decide +kernel
theorem dX10_under_16 : decode cX10_under 16 = .ok (.goto 5, 3) := by decide +kernel
theorem dX10_under_19 : decode cX10_under 19 = .ok (.bipush (-5), 2) := by decide +kernel
theorem dX10_under_21 : decode cX10_under 21 = .ok (.ireturn, 1) := by decide +kernel
theorem dX10_feed_0 : decode cX10_feed 0 = .ok (.iload_n 1, 1) := by decide +kernel
theorem dX10_feed_1 : decode cX10_feed 1 = .ok (.iconst 1, 1) := by decide +kernel
theorem dX10_feed_2 : decode cX10_feed 2 = .ok (.iconst 5, 1) := by decide +kernel
theorem dX10_feed_3 : decode cX10_feed 3 = .ok (.invokestatic 91, 3) := by decide +kernel
theorem dX10_feed_6 : decode cX10_feed 6 = .ok (.ifCond .eq 41, 3) := by decide +kernel
theorem dX10_feed_9 : decode cX10_feed 9 = .ok (.iload_n 2, 1) := by decide +kernel
theorem dX10_feed_10 : decode cX10_feed 10 = .ok (.invokestatic 99, 3) := by decide +kernel
theorem dX10_feed_13 : decode cX10_feed 13 = .ok (.ifCond .eq 34, 3) := by decide +kernel
theorem dX10_feed_16 : decode cX10_feed 16 = .ok (.iload_n 3, 1) := by decide +kernel
theorem dX10_feed_17 : decode cX10_feed 17 = .ok (.invokestatic 99, 3) := by decide +kernel
theorem dX10_feed_20 : decode cX10_feed 20 = .ok (.ifCond .eq 27, 3) := by decide +kernel
theorem dX10_feed_23 : decode cX10_feed 23 = .ok (.iload 4, 2) := by decide +kernel
theorem dX10_feed_25 : decode cX10_feed 25 = .ok (.invokestatic 99, 3) := by decide +kernel
theorem dX10_feed_28 : decode cX10_feed 28 = .ok (.ifCond .eq 19, 3) := by decide +kernel
theorem dX10_feed_31 : decode cX10_feed 31 = .ok (.iload 5, 2) := by decide +kernel
theorem dX10_feed_33 : decode cX10_feed 33 = .ok (.invokestatic 99, 3) := by decide +kernel
theorem dX10_feed_36 : decode cX10_feed 36 = .ok (.ifCond .eq 11, 3) := by decide +kernel
theorem dX10_feed_39 : decode cX10_feed 39 = .ok (.iload 6, 2) := by decide +kernel
theorem dX10_feed_41 : decode cX10_feed 41 = .ok (.invokestatic 99, 3) := by decide +kernel
theorem dX10_feed_44 : decode cX10_feed 44 = .ok (.ifCond .ne 6, 3) := by decide +kernel
theorem dX10_feed_47 : decode cX10_feed 47 = .ok (.bipush (-2), 2) := by decide +kernel
theorem dX10_feed_49 : decode cX10_feed 49 = .ok (.ireturn, 1) := by decide +kernel
theorem dX10_feed_50 : decode cX10_feed 50 = .ok (.iload_n 1, 1) := by decide +kernel
theorem dX10_feed_51 : decode cX10_feed 51 = .ok (.sipush 160, 3) := by decide +kernel
theorem dX10_feed_54 : decode cX10_feed 54 = .ok (.aload_n 0, 1) := by decide +kernel
theorem dX10_feed_55 : decode cX10_feed 55 = .ok (.getfield 33, 3) := by decide +kernel
theorem dX10_feed_58 : decode cX10_feed 58 = .ok (.getfield 84, 3) := by decide +kernel
theorem dX10_feed_61 : decode cX10_feed 61 = .ok (.isub, 1) := by decide +kernel
theorem dX10_feed_62 : decode cX10_feed 62 = .ok (.if_icmp .le 6, 3) := by decide +kernel
theorem dX10_feed_65 : decode cX10_feed 65 = .ok (.bipush (-4), 2) := by decide +kernel
theorem dX10_feed_67 : decode cX10_feed 67 = .ok (.ireturn, 1) := by decide +kernel
theorem dX10_feed_68 : decode cX10_feed 68 = .ok (.aload_n 0, 1) := by decide +kernel
theorem dX10_feed_69 : decode cX10_feed 69 = .ok (.getfield 33, 3) := by decide +kernel
theorem dX10_feed_72 : decode cX10_feed 72 = .ok (.iload_n 2, 1) := by decide +kernel
theorem dX10_feed_73 : decode cX10_feed 73 = .ok (.invokevirtual 102, 3) := by decide +kernel
theorem dX10_feed_76 : decode cX10_feed 76 = .ok (.iload_n 1, 1) := by decide +kernel
theorem dX10_feed_77 : decode cX10_feed 77 = .ok (.iconst 1, 1) := by decide +kernel
theorem dX10_feed_78 : decode cX10_feed 78 = .ok (.if_icmp .le 11, 3) := by decide +kernel
theorem dX10_feed_81 : decode cX10_feed 81 = .ok (.aload_n 0, 1) := by decide +kernel
theorem dX10_feed_82 : decode cX10_feed 82 = .ok (.getfield 33, 3) := by decide +kernel
theorem dX10_feed_85 : decode cX10_feed 85 = .ok (.iload_n 3, 1) := by decide +kernel
theorem dX10_feed_86 : decode cX10_feed 86 = .ok (.invokevirtual 102, 3) := by decide +kernel
theorem dX10_feed_89 : decode cX10_feed 89 = .ok (.iload_n 1, 1) := by decide +kernel
theorem dX10_feed_90 : decode cX10_feed 90 = .ok (.iconst 2, 1) := by decide +kernel
theorem dX10_feed_91 : decode cX10_feed 91 = .ok (.if_icmp .le 12, 3) := by decide +kernel
theorem dX10_feed_94 : decode cX10_feed 94 = .ok (.aload_n 0, 1) := by decide +kernel
theorem dX10_feed_95 : decode cX10_feed 95 = .ok (.getfield 33, 3) := by decide +kernel
theorem dX10_feed_98 : decode cX10_feed 98 = .ok (.iload 4, 2) := by decide +kernel
theorem dX10_feed_100 : decode cX10_feed 100 = .ok (.invokevirtual 102, 3) := by decide +kernel
theorem dX10_feed_103 : decode cX10_feed 103 = .ok (.iload_n 1, 1) := by decide +kernel
theorem dX10_feed_104 : decode cX10_feed 104 = .ok (.iconst 3, 1) := by decide +kernel
theorem dX10_feed_105 : decode cX10_feed 105 = .ok (.if_icmp .le 12, 3) := by decide +kernel
theorem dX10_feed_108 : decode cX10_feed 108 = .ok (.aload_n 0, 1) := by decide +kernel
theorem dX10_feed_109 : decode cX10_feed 109 = .ok (.getfield 33, 3) := by decide +kernel
theorem dX10_feed_112 : decode cX10_feed 112 = .ok (.iload 5, 2) := by decide +kernel
theorem dX10_feed_114 : decode cX10_feed 114 = .ok (.invokevirtual 102, 3) := by decide +kernel
theorem dX10_feed_117 : decode cX10_feed 117 = .ok (.iload_n 1, 1) := by decide +kernel
theorem dX10_feed_118 : decode cX10_feed 118 = .ok (.iconst 4, 1) := by decide +kernel
theorem dX10_feed_119 : decode cX10_feed 119 = .ok (.if_icmp .le 12, 3) := by decide +kernel
theorem dX10_feed_122 : decode cX10_feed 122 = .ok (.aload_n 0, 1) := by decide +kernel
theorem dX10_feed_123 : decode cX10_feed 123 = .ok (.getfield 33, 3) := by decide +kernel
theorem dX10_feed_126 : decode cX10_feed 126 = .ok (.iload 6, 2) := by decide +kernel
theorem dX10_feed_128 : decode cX10_feed 128 = .ok (.invokevirtual 102, 3) := by decide +kernel
theorem dX10_feed_131 : decode cX10_feed 131 = .ok (.aload_n 0, 1) := by decide +kernel
theorem dX10_feed_132 : decode cX10_feed 132 = .ok (.getfield 33, 3) := by decide +kernel
theorem dX10_feed_135 : decode cX10_feed 135 = .ok (.getfield 84, 3) := by decide +kernel
theorem dX10_feed_138 : decode cX10_feed 138 = .ok (.ireturn, 1) := by decide +kernel
theorem dX10_text_0 : decode cX10_text 0 = .ok (.aload_n 0, 1) := by decide +kernel
theorem dX10_text_1 : decode cX10_text 1 = .ok (.getfield 41, 3) := by decide +kernel
theorem dX10_text_4 : decode cX10_text 4 = .ok (.bipush 6, 2) := by decide +kernel
theorem dX10_text_6 : decode cX10_text 6 = .ok (.if_icmp .lt 6, 3) := by decide +kernel
theorem dX10_text_9 : decode cX10_text 9 = .ok (.bipush (-4), 2) := by decide +kernel
theorem dX10_text_11 : decode cX10_text 11 = .ok (.ireturn, 1) := by decide +kernel
theorem dX10_text_12 : decode cX10_text 12 = .ok (.aload_n 0, 1) := by decide +kernel
theorem dX10_text_13 : decode cX10_text 13 = .ok (.getfield 33, 3) := by decide +kernel
theorem dX10_text_16 : decode cX10_text 16 = .ok (.invokevirtual 106, 3) := by decide +kernel
theorem dX10_text_19 : decode cX10_text 19 = .ok (.istore_n 1, 1) := by decide +kernel
theorem dX10_text_20 : decode cX10_text 20 = .ok (.aload_n 0, 1) := by decide +kernel
theorem dX10_text_21 : decode cX10_text 21 = .ok (.getfield 33, 3) := by decide +kernel
theorem dX10_text_24 : decode cX10_text 24 = .ok (.iconst 0, 1) := by decide +kernel
theorem dX10_text_25 : decode cX10_text 25 = .ok (.putfield 84, 3) := by decide +kernel
theorem dX10_text_28 : decode cX10_text 28 = .ok (.iload_n 1, 1) := by decide +kernel
theorem dX10_text_29 : decode cX10_text 29 = .ok (.ifCond .ne 14, 3) := by decide +kernel
theorem dX10_text_32 : decode cX10_text 32 = .ok (.bipush (-100), 2) := by decide +kernel
theorem dX10_text_34 : decode cX10_text 34 = .ok (.aload_n 0, 1) := by decide +kernel
theorem dX10_text_35 : decode cX10_text 35 = .ok (.getfield 33, 3) := by decide +kernel
theorem dX10_text_38 : decode cX10_text 38 = .ok (.getfield 110, 3) := by decide +kernel
theorem dX10_text_41 : decode cX10_text 41 = .ok (.isub, 1) := by decide +kernel
theorem dX10_text_42 : decode cX10_text 42 = .ok (.ireturn, 1) := by decide +kernel
theorem dX10_text_43 : decode cX10_text 43 = .ok (.aload_n 0, 1) := by decide +kernel
theorem dX10_text_44 : decode cX10_text 44 = .ok (.getfield 37, 3) := by decide +kernel
theorem dX10_text_47 : decode cX10_text 47 = .ok (.aload_n 0, 1) := by decide +kernel
theorem dX10_text_48 : decode cX10_text 48 = .ok (.getfield 41, 3) := by decide +kernel
theorem dX10_text_51 : decode cX10_text 51 = .ok (.aaload, 1) := by decide +kernel
theorem dX10_text_52 : decode cX10_text 52 = .ok (.aload_n 0, 1) := by decide +kernel
theorem dX10_text_53 : decode cX10_text 53 = .ok (.getfield 33, 3) := by decide +kernel
theorem dX10_text_56 : decode cX10_text 56 = .ok (.invokevirtual 113, 3) := by decide +kernel
theorem dX10_text_59 : decode cX10_text 59 = .ok (.aload_n 0, 1) := by decide +kernel
theorem dX10_text_60 : decode cX10_text 60 = .ok (.dup, 1) := by decide +kernel
theorem dX10_text_61 : decode cX10_text 61 = .ok (.getfield 41, 3) := by decide +kernel
theorem dX10_text_64 : decode cX10_text 64 = .ok (.iconst 1, 1) := by decide +kernel
theorem dX10_text_65 : decode cX10_text 65 = .ok (.iadd, 1) := by decide +kernel
theorem dX10_text_66 : decode cX10_text 66 = .ok (.putfield 41, 3) := by decide +kernel
theorem dX10_text_69 : decode cX10_text 69 = .ok (.aload_n 0, 1) := by decide +kernel
theorem dX10_text_70 : decode cX10_text 70 = .ok (.getfield 41, 3) := by decide +kernel
theorem dX10_text_73 : decode cX10_text 73 = .ok (.iconst 1, 1) := by decide +kernel
theorem dX10_text_74 : decode cX10_text 74 = .ok (.isub, 1) := by decide +kernel
theorem dX10_text_75 : decode cX10_text 75 = .ok (.ireturn, 1) := by decide +kernel
theorem dX10_force_0 : decode cX10_force 0 = .ok (.iload_n 1, 1) := by decide +kernel
theorem dX10_force_1 : decode cX10_force 1 = .ok (.iconst 0, 1) := by decide +kernel
theorem dX10_force_2 : decode cX10_force 2 = .ok (.aload_n 0, 1) := by decide +kernel
theorem dX10_force_3 : decode cX10_force 3 = .ok (.getfield 41, 3) := by decide +kernel
theorem dX10_force_6 : decode cX10_force 6 = .ok (.iconst 1, 1) := by decide +kernel
theorem dX10_force_7 : decode cX10_force 7 = .ok (.isub, 1) := by decide +kernel
theorem dX10_force_8 : decode cX10_force 8 = .ok (.invokestatic 91, 3) := by decide +kernel
theorem dX10_force_11 : decode cX10_force 11 = .ok (.ifCond .ne 6, 3) := by decide +kernel
theorem dX10_force_14 : decode cX10_force 14 = .ok (.bipush (-2), 2) := by decide +kernel
theorem dX10_force_16 : decode cX10_force 16 = .ok (.ireturn, 1) := by decide +kernel
theorem dX10_force_17 : decode cX10_force 17 = .ok (.aload_n 0, 1) := by decide +kernel
theorem dX10_force_18 : decode cX10_force 18 = .ok (.getfield 61, 3) := by decide +kernel
theorem dX10_force_21 : decode cX10_force 21 = .ok (.getfield 81, 3) := by decide +kernel
theorem dX10_force_24 : decode cX10_force 24 = .ok (.istore_n 2, 1) := by decide +kernel
theorem dX10_force_25 : decode cX10_force 25 = .ok (.aload_n 0, 1) := by decide +kernel
theorem dX10_force_26 : decode cX10_force 26 = .ok (.getfield 61, 3) := by decide +kernel
theorem dX10_force_29 : decode cX10_force 29 = .ok (.iload_n 1, 1) := by decide +kernel
theorem dX10_force_30 : decode cX10_force 30 = .ok (.putfield 81, 3) := by decide +kernel
theorem dX10_force_33 : decode cX10_force 33 = .ok (.iload_n 2, 1) := by decide +kernel
theorem dX10_force_34 : decode cX10_force 34 = .ok (.ireturn, 1) := by decide +kernel
theorem dX10_asks_0 : decode cX10_asks 0 = .ok (.iload_n 1, 1) := by decide +kernel
theorem dX10_asks_1 : decode cX10_asks 1 = .ok (.iconst 0, 1) := by decide +kernel
theorem dX10_asks_2 : decode cX10_asks 2 = .ok (.iconst 2, 1) := by decide +kernel
theorem dX10_asks_3 : decode cX10_asks 3 = .ok (.invokestatic 91, 3) := by decide +kernel
theorem dX10_asks_6 : decode cX10_asks 6 = .ok (.ifCond .eq 21, 3) := by decide +kernel
theorem dX10_asks_9 : decode cX10_asks 9 = .ok (.aload_n 0, 1) := by decide +kernel
theorem dX10_asks_10 : decode cX10_asks 10 = .ok (.getfield 61, 3) := by decide +kernel
theorem dX10_asks_13 : decode cX10_asks 13 = .ok (.iload_n 2, 1) := by decide +kernel
theorem dX10_asks_14 : decode cX10_asks 14 = .ok (.invokevirtual 117, 3) := by decide +kernel
theorem dX10_asks_17 : decode cX10_asks 17 = .ok (.ifCond .eq 10, 3) := by decide +kernel
theorem dX10_asks_20 : decode cX10_asks 20 = .ok (.iload_n 3, 1) := by decide +kernel
theorem dX10_asks_21 : decode cX10_asks 21 = .ok (.invokestatic 87, 3) := by decide +kernel
theorem dX10_asks_24 : decode cX10_asks 24 = .ok (.ifCond .ne 7, 3) := by decide +kernel
theorem dX10_asks_27 : decode cX10_asks 27 = .ok (.sipush (-1000), 3) := by decide +kernel
theorem dX10_asks_30 : decode cX10_asks 30 = .ok (.ireturn, 1) := by decide +kernel
theorem dX10_asks_31 : decode cX10_asks 31 = .ok (.aload_n 0, 1) := by decide +kernel
theorem dX10_asks_32 : decode cX10_asks 32 = .ok (.getfield 61, 3) := by decide +kernel
theorem dX10_asks_35 : decode cX10_asks 35 = .ok (.iload_n 1, 1) := by decide +kernel
theorem dX10_asks_36 : decode cX10_asks 36 = .ok (.iload_n 2, 1) := by decide +kernel
theorem dX10_asks_37 : decode cX10_asks 37 = .ok (.iload_n 3, 1) := by decide +kernel
theorem dX10_asks_38 : decode cX10_asks 38 = .ok (.invokevirtual 120, 3) := by decide +kernel
theorem dX10_asks_41 : decode cX10_asks 41 = .ok (.ireturn, 1) := by decide +kernel
theorem dX10_person_0 : decode cX10_person 0 = .ok (.iload_n 1, 1) := by decide +kernel
theorem dX10_person_1 : decode cX10_person 1 = .ok (.iconst 0, 1) := by decide +kernel
theorem dX10_person_2 : decode cX10_person 2 = .ok (.bipush 59, 2) := by decide +kernel
theorem dX10_person_4 : decode cX10_person 4 = .ok (.invokestatic 91, 3) := by decide +kernel
theorem dX10_person_7 : decode cX10_person 7 = .ok (.ifCond .eq 14, 3) := by decide +kernel
theorem dX10_person_10 : decode cX10_person 10 = .ok (.iload_n 2, 1) := by decide +kernel
theorem dX10_person_11 : decode cX10_person 11 = .ok (.iconst 0, 1) := by decide +kernel
theorem dX10_person_12 : decode cX10_person 12 = .ok (.sipush 3599, 3) := by decide +kernel
theorem dX10_person_15 : decode cX10_person 15 = .ok (.invokestatic 91, 3) := by decide +kernel
theorem dX10_person_18 : decode cX10_person 18 = .ok (.ifCond .ne 6, 3) := by decide +kernel
theorem dX10_person_21 : decode cX10_person 21 = .ok (.bipush (-2), 2) := by decide +kernel
theorem dX10_person_23 : decode cX10_person 23 = .ok (.ireturn, 1) := by decide +kernel
theorem dX10_person_24 : decode cX10_person 24 = .ok (.aload_n 0, 1) := by decide +kernel
theorem dX10_person_25 : decode cX10_person 25 = .ok (.getfield 61, 3) := by decide +kernel
theorem dX10_person_28 : decode cX10_person 28 = .ok (.iload_n 1, 1) := by decide +kernel
theorem dX10_person_29 : decode cX10_person 29 = .ok (.iload_n 2, 1) := by decide +kernel
theorem dX10_person_30 : decode cX10_person 30 = .ok (.invokevirtual 124, 3) := by decide +kernel
theorem dX10_person_33 : decode cX10_person 33 = .ok (.ireturn, 1) := by decide +kernel
theorem dX10_put_0 : decode cX10_put 0 = .ok (.aload_n 0, 1) := by decide +kernel
theorem dX10_put_1 : decode cX10_put 1 = .ok (.getfield 61, 3) := by decide +kernel
theorem dX10_put_4 : decode cX10_put 4 = .ok (.iload_n 1, 1) := by decide +kernel
theorem dX10_put_5 : decode cX10_put 5 = .ok (.invokevirtual 117, 3) := by decide +kernel
theorem dX10_put_8 : decode cX10_put 8 = .ok (.ifCond .ne 6, 3) := by decide +kernel
theorem dX10_put_11 : decode cX10_put 11 = .ok (.bipush (-5), 2) := by decide +kernel
theorem dX10_put_13 : decode cX10_put 13 = .ok (.ireturn, 1) := by decide +kernel
theorem dX10_put_14 : decode cX10_put 14 = .ok (.iload_n 2, 1) := by decide +kernel
theorem dX10_put_15 : decode cX10_put 15 = .ok (.iconst 0, 1) := by decide +kernel
theorem dX10_put_16 : decode cX10_put 16 = .ok (.iconst 1, 1) := by decide +kernel
theorem dX10_put_17 : decode cX10_put 17 = .ok (.invokestatic 91, 3) := by decide +kernel
theorem dX10_put_20 : decode cX10_put 20 = .ok (.ifCond .eq 22, 3) := by decide +kernel
theorem dX10_put_23 : decode cX10_put 23 = .ok (.iload_n 3, 1) := by decide +kernel
theorem dX10_put_24 : decode cX10_put 24 = .ok (.iconst 0, 1) := by decide +kernel
theorem dX10_put_25 : decode cX10_put 25 = .ok (.iload_n 2, 1) := by decide +kernel
theorem dX10_put_26 : decode cX10_put 26 = .ok (.ifCond .ne 8, 3) := by decide +kernel
theorem dX10_put_29 : decode cX10_put 29 = .ok (.bipush 35, 2) := by decide +kernel
theorem dX10_put_31 : decode cX10_put 31 = .ok (.goto 5, 3) := by decide +kernel
theorem dX10_put_34 : decode cX10_put 34 = .ok (.bipush 99, 2) := by decide +kernel
theorem dX10_put_36 : decode cX10_put 36 = .ok (.invokestatic 91, 3) := by decide +kernel
theorem dX10_put_39 : decode cX10_put 39 = .ok (.ifCond .ne 6, 3) := by decide +kernel
theorem dX10_put_42 : decode cX10_put 42 = .ok (.bipush (-7), 2) := by decide +kernel
theorem dX10_put_44 : decode cX10_put 44 = .ok (.ireturn, 1) := by decide +kernel
theorem dX10_put_45 : decode cX10_put 45 = .ok (.aload_n 0, 1) := by decide +kernel
theorem dX10_put_46 : decode cX10_put 46 = .ok (.getfield 61, 3) := by decide +kernel
theorem dX10_put_49 : decode cX10_put 49 = .ok (.getfield 127, 3) := by decide +kernel
theorem dX10_put_52 : decode cX10_put 52 = .ok (.iload_n 2, 1) := by decide +kernel
theorem dX10_put_53 : decode cX10_put 53 = .ok (.aaload, 1) := by decide +kernel
theorem dX10_put_54 : decode cX10_put 54 = .ok (.iload_n 1, 1) := by decide +kernel
theorem dX10_put_55 : decode cX10_put 55 = .ok (.iaload, 1) := by decide +kernel
theorem dX10_put_56 : decode cX10_put 56 = .ok (.istore 4, 2) := by decide +kernel
theorem dX10_put_58 : decode cX10_put 58 = .ok (.aload_n 0, 1) := by decide +kernel
theorem dX10_put_59 : decode cX10_put 59 = .ok (.getfield 61, 3) := by decide +kernel
theorem dX10_put_62 : decode cX10_put 62 = .ok (.getfield 127, 3) := by decide +kernel
theorem dX10_put_65 : decode cX10_put 65 = .ok (.iload_n 2, 1) := by decide +kernel
theorem dX10_put_66 : decode cX10_put 66 = .ok (.aaload, 1) := by decide +kernel
theorem dX10_put_67 : decode cX10_put 67 = .ok (.iload_n 1, 1) := by decide +kernel
theorem dX10_put_68 : decode cX10_put 68 = .ok (.iload_n 3, 1) := by decide +kernel
theorem dX10_put_69 : decode cX10_put 69 = .ok (.iastore, 1) := by decide +kernel
theorem dX10_put_70 : decode cX10_put 70 = .ok (.iload 4, 2) := by decide +kernel
theorem dX10_put_72 : decode cX10_put 72 = .ok (.ireturn, 1) := by decide +kernel
theorem dX10_told_0 : decode cX10_told 0 = .ok (.aload_n 0, 1) := by decide +kernel
theorem dX10_told_1 : decode cX10_told 1 = .ok (.getfield 61, 3) := by decide +kernel
theorem dX10_told_4 : decode cX10_told 4 = .ok (.iload_n 1, 1) := by decide +kernel
theorem dX10_told_5 : decode cX10_told 5 = .ok (.invokevirtual 117, 3) := by decide +kernel
theorem dX10_told_8 : decode cX10_told 8 = .ok (.ifCond .ne 6, 3) := by decide +kernel
theorem dX10_told_11 : decode cX10_told 11 = .ok (.bipush (-5), 2) := by decide +kernel
theorem dX10_told_13 : decode cX10_told 13 = .ok (.ireturn, 1) := by decide +kernel
theorem dX10_told_14 : decode cX10_told 14 = .ok (.iload_n 2, 1) := by decide +kernel
theorem dX10_told_15 : decode cX10_told 15 = .ok (.iconst 0, 1) := by decide +kernel
theorem dX10_told_16 : decode cX10_told 16 = .ok (.iconst 3, 1) := by decide +kernel
theorem dX10_told_17 : decode cX10_told 17 = .ok (.invokestatic 91, 3) := by decide +kernel
theorem dX10_told_20 : decode cX10_told 20 = .ok (.ifCond .eq 17, 3) := by decide +kernel
theorem dX10_told_23 : decode cX10_told 23 = .ok (.aload_n 0, 1) := by decide +kernel
theorem dX10_told_24 : decode cX10_told 24 = .ok (.getfield 61, 3) := by decide +kernel
theorem dX10_told_27 : decode cX10_told 27 = .ok (.getfield 127, 3) := by decide +kernel
theorem dX10_told_30 : decode cX10_told 30 = .ok (.iload_n 2, 1) := by decide +kernel
theorem dX10_told_31 : decode cX10_told 31 = .ok (.aaload, 1) := by decide +kernel
theorem dX10_told_32 : decode cX10_told 32 = .ok (.iload_n 1, 1) := by decide +kernel
theorem dX10_told_33 : decode cX10_told 33 = .ok (.iaload, 1) := by decide +kernel
theorem dX10_told_34 : decode cX10_told 34 = .ok (.goto 5, 3) := by decide +kernel
theorem dX10_told_37 : decode cX10_told 37 = .ok (.bipush (-7), 2) := by decide +kernel
theorem dX10_told_39 : decode cX10_told 39 = .ok (.ireturn, 1) := by decide +kernel
theorem dX10_day_0 : decode cX10_day 0 = .ok (.aload_n 0, 1) := by decide +kernel
theorem dX10_day_1 : decode cX10_day 1 = .ok (.getfield 61, 3) := by decide +kernel
theorem dX10_day_4 : decode cX10_day 4 = .ok (.getfield 74, 3) := by decide +kernel
theorem dX10_day_7 : decode cX10_day 7 = .ok (.sipush 999, 3) := by decide +kernel
theorem dX10_day_10 : decode cX10_day 10 = .ok (.if_icmp .lt 6, 3) := by decide +kernel
theorem dX10_day_13 : decode cX10_day 13 = .ok (.bipush (-3), 2) := by decide +kernel
theorem dX10_day_15 : decode cX10_day 15 = .ok (.ireturn, 1) := by decide +kernel
theorem dX10_day_16 : decode cX10_day 16 = .ok (.aload_n 0, 1) := by decide +kernel
theorem dX10_day_17 : decode cX10_day 17 = .ok (.getfield 61, 3) := by decide +kernel
theorem dX10_day_20 : decode cX10_day 20 = .ok (.invokevirtual 131, 3) := by decide +kernel
theorem dX10_day_23 : decode cX10_day 23 = .ok (.aload_n 0, 1) := by decide +kernel
theorem dX10_day_24 : decode cX10_day 24 = .ok (.getfield 61, 3) := by decide +kernel
theorem dX10_day_27 : decode cX10_day 27 = .ok (.iconst 0, 1) := by decide +kernel
theorem dX10_day_28 : decode cX10_day 28 = .ok (.bipush 36, 2) := by decide +kernel
theorem dX10_day_30 : decode cX10_day 30 = .ok (.invokevirtual 77, 3) := by decide +kernel
theorem dX10_day_33 : decode cX10_day 33 = .ok (.ireturn, 1) := by decide +kernel
theorem dX10_leaves_0 : decode cX10_leaves 0 = .ok (.aload_n 0, 1) := by decide +kernel
theorem dX10_leaves_1 : decode cX10_leaves 1 = .ok (.getfield 61, 3) := by decide +kernel
theorem dX10_leaves_4 : decode cX10_leaves 4 = .ok (.iload_n 1, 1) := by decide +kernel
theorem dX10_leaves_5 : decode cX10_leaves 5 = .ok (.invokevirtual 117, 3) := by decide +kernel
theorem dX10_leaves_8 : decode cX10_leaves 8 = .ok (.ifCond .ne 7, 3) := by decide +kernel
theorem dX10_leaves_11 : decode cX10_leaves 11 = .ok (.sipush (-1005), 3) := by decide +kernel
theorem dX10_leaves_14 : decode cX10_leaves 14 = .ok (.ireturn, 1) := by decide +kernel
theorem dX10_leaves_15 : decode cX10_leaves 15 = .ok (.iload_n 2, 1) := by decide +kernel
theorem dX10_leaves_16 : decode cX10_leaves 16 = .ok (.invokestatic 87, 3) := by decide +kernel
theorem dX10_leaves_19 : decode cX10_leaves 19 = .ok (.ifCond .eq 12, 3) := by decide +kernel
theorem dX10_leaves_22 : decode cX10_leaves 22 = .ok (.iload_n 3, 1) := by decide +kernel
theorem dX10_leaves_23 : decode cX10_leaves 23 = .ok (.iconst 0, 1) := by decide +kernel
theorem dX10_leaves_24 : decode cX10_leaves 24 = .ok (.iconst 1, 1) := by decide +kernel
theorem dX10_leaves_25 : decode cX10_leaves 25 = .ok (.invokestatic 91, 3) := by decide +kernel
theorem dX10_leaves_28 : decode cX10_leaves 28 = .ok (.ifCond .ne 7, 3) := by decide +kernel
theorem dX10_leaves_31 : decode cX10_leaves 31 = .ok (.sipush (-1007), 3) := by decide +kernel
theorem dX10_leaves_34 : decode cX10_leaves 34 = .ok (.ireturn, 1) := by decide +kernel
theorem dX10_leaves_35 : decode cX10_leaves 35 = .ok (.iload_n 3, 1) := by decide +kernel
theorem dX10_leaves_36 : decode cX10_leaves 36 = .ok (.ifCond .ne 15, 3) := by decide +kernel
theorem dX10_leaves_39 : decode cX10_leaves 39 = .ok (.aload_n 0, 1) := by decide +kernel
theorem dX10_leaves_40 : decode cX10_leaves 40 = .ok (.getfield 61, 3) := by decide +kernel
theorem dX10_leaves_43 : decode cX10_leaves 43 = .ok (.iload_n 1, 1) := by decide +kernel
theorem dX10_leaves_44 : decode cX10_leaves 44 = .ok (.iload_n 2, 1) := by decide +kernel
theorem dX10_leaves_45 : decode cX10_leaves 45 = .ok (.invokevirtual 134, 3) := by decide +kernel
theorem dX10_leaves_48 : decode cX10_leaves 48 = .ok (.goto 11, 3) := by decide +kernel
theorem dX10_leaves_51 : decode cX10_leaves 51 = .ok (.aload_n 0, 1) := by decide +kernel
theorem dX10_leaves_52 : decode cX10_leaves 52 = .ok (.getfield 61, 3) := by decide +kernel
theorem dX10_leaves_55 : decode cX10_leaves 55 = .ok (.iload_n 1, 1) := by decide +kernel
theorem dX10_leaves_56 : decode cX10_leaves 56 = .ok (.invokevirtual 137, 3) := by decide +kernel
theorem dX10_leaves_59 : decode cX10_leaves 59 = .ok (.ireturn, 1) := by decide +kernel
theorem dX10_run_0 : decode cX10_run 0 = .ok (.iload_n 1, 1) := by decide +kernel
theorem dX10_run_1 : decode cX10_run 1 = .ok (.iconst 0, 1) := by decide +kernel
