theorem dX10_run_2 : decode cX10_run 2 = .ok (.bipush 40, 2) := by decide +kernel
theorem dX10_run_4 : decode cX10_run 4 = .ok (.invokestatic 91, 3) := by decide +kernel
theorem dX10_run_7 : decode cX10_run 7 = .ok (.ifCond .eq 13, 3) := by decide +kernel
theorem dX10_run_10 : decode cX10_run 10 = .ok (.iload_n 2, 1) := by decide +kernel
theorem dX10_run_11 : decode cX10_run 11 = .ok (.iconst 0, 1) := by decide +kernel
theorem dX10_run_12 : decode cX10_run 12 = .ok (.bipush 36, 2) := by decide +kernel
theorem dX10_run_14 : decode cX10_run 14 = .ok (.invokestatic 91, 3) := by decide +kernel
theorem dX10_run_17 : decode cX10_run 17 = .ok (.ifCond .ne 6, 3) := by decide +kernel
theorem dX10_run_20 : decode cX10_run 20 = .ok (.bipush (-2), 2) := by decide +kernel
theorem dX10_run_22 : decode cX10_run 22 = .ok (.ireturn, 1) := by decide +kernel
theorem dX10_run_23 : decode cX10_run 23 = .ok (.aload_n 0, 1) := by decide +kernel
theorem dX10_run_24 : decode cX10_run 24 = .ok (.getfield 65, 3) := by decide +kernel
theorem dX10_run_27 : decode cX10_run 27 = .ok (.aload_n 0, 1) := by decide +kernel
theorem dX10_run_28 : decode cX10_run 28 = .ok (.getfield 61, 3) := by decide +kernel
theorem dX10_run_31 : decode cX10_run 31 = .ok (.invokevirtual 141, 3) := by decide +kernel
theorem dX10_run_34 : decode cX10_run 34 = .ok (.aload_n 0, 1) := by decide +kernel
theorem dX10_run_35 : decode cX10_run 35 = .ok (.getfield 65, 3) := by decide +kernel
theorem dX10_run_38 : decode cX10_run 38 = .ok (.iload_n 1, 1) := by decide +kernel
theorem dX10_run_39 : decode cX10_run 39 = .ok (.invokevirtual 145, 3) := by decide +kernel
theorem dX10_run_42 : decode cX10_run 42 = .ok (.iload_n 2, 1) := by decide +kernel
theorem dX10_run_43 : decode cX10_run 43 = .ok (.bipush 36, 2) := by decide +kernel
theorem dX10_run_45 : decode cX10_run 45 = .ok (.if_icmp .ge 15, 3) := by decide +kernel
theorem dX10_run_48 : decode cX10_run 48 = .ok (.aload_n 0, 1) := by decide +kernel
theorem dX10_run_49 : decode cX10_run 49 = .ok (.getfield 65, 3) := by decide +kernel
theorem dX10_run_52 : decode cX10_run 52 = .ok (.getfield 95, 3) := by decide +kernel
theorem dX10_run_55 : decode cX10_run 55 = .ok (.iload_n 2, 1) := by decide +kernel
theorem dX10_run_56 : decode cX10_run 56 = .ok (.iaload, 1) := by decide +kernel
theorem dX10_run_57 : decode cX10_run 57 = .ok (.goto 13, 3) := by decide +kernel
theorem dX10_run_60 : decode cX10_run 60 = .ok (.aload_n 0, 1) := by decide +kernel
theorem dX10_run_61 : decode cX10_run 61 = .ok (.getfield 65, 3) := by decide +kernel
theorem dX10_run_64 : decode cX10_run 64 = .ok (.iconst 0, 1) := by decide +kernel
theorem dX10_run_65 : decode cX10_run 65 = .ok (.bipush 36, 2) := by decide +kernel
theorem dX10_run_67 : decode cX10_run 67 = .ok (.invokevirtual 77, 3) := by decide +kernel
theorem dX10_run_70 : decode cX10_run 70 = .ok (.ireturn, 1) := by decide +kernel
theorem dX10_sinks_0 : decode cX10_sinks 0 = .ok (.iload_n 1, 1) := by decide +kernel
theorem dX10_sinks_1 : decode cX10_sinks 1 = .ok (.invokestatic 87, 3) := by decide +kernel
theorem dX10_sinks_4 : decode cX10_sinks 4 = .ok (.ifCond .ne 6, 3) := by decide +kernel
theorem dX10_sinks_7 : decode cX10_sinks 7 = .ok (.bipush (-5), 2) := by decide +kernel
theorem dX10_sinks_9 : decode cX10_sinks 9 = .ok (.ireturn, 1) := by decide +kernel
theorem dX10_sinks_10 : decode cX10_sinks 10 = .ok (.iload_n 2, 1) := by decide +kernel
theorem dX10_sinks_11 : decode cX10_sinks 11 = .ok (.iconst 0, 1) := by decide +kernel
theorem dX10_sinks_12 : decode cX10_sinks 12 = .ok (.sipush 999, 3) := by decide +kernel
theorem dX10_sinks_15 : decode cX10_sinks 15 = .ok (.invokestatic 91, 3) := by decide +kernel
theorem dX10_sinks_18 : decode cX10_sinks 18 = .ok (.ifCond .ne 6, 3) := by decide +kernel
theorem dX10_sinks_21 : decode cX10_sinks 21 = .ok (.bipush (-7), 2) := by decide +kernel
theorem dX10_sinks_23 : decode cX10_sinks 23 = .ok (.ireturn, 1) := by decide +kernel
theorem dX10_sinks_24 : decode cX10_sinks 24 = .ok (.aload_n 0, 1) := by decide +kernel
theorem dX10_sinks_25 : decode cX10_sinks 25 = .ok (.getfield 65, 3) := by decide +kernel
theorem dX10_sinks_28 : decode cX10_sinks 28 = .ok (.aload_n 0, 1) := by decide +kernel
theorem dX10_sinks_29 : decode cX10_sinks 29 = .ok (.getfield 61, 3) := by decide +kernel
theorem dX10_sinks_32 : decode cX10_sinks 32 = .ok (.invokevirtual 141, 3) := by decide +kernel
theorem dX10_sinks_35 : decode cX10_sinks 35 = .ok (.iconst 0, 1) := by decide +kernel
theorem dX10_sinks_36 : decode cX10_sinks 36 = .ok (.istore_n 3, 1) := by decide +kernel
theorem dX10_sinks_37 : decode cX10_sinks 37 = .ok (.iload_n 3, 1) := by decide +kernel
theorem dX10_sinks_38 : decode cX10_sinks 38 = .ok (.bipush 40, 2) := by decide +kernel
theorem dX10_sinks_40 : decode cX10_sinks 40 = .ok (.if_icmp .gt 31, 3) := by decide +kernel
theorem dX10_sinks_43 : decode cX10_sinks 43 = .ok (.aload_n 0, 1) := by decide +kernel
theorem dX10_sinks_44 : decode cX10_sinks 44 = .ok (.getfield 65, 3) := by decide +kernel
theorem dX10_sinks_47 : decode cX10_sinks 47 = .ok (.getfield 95, 3) := by decide +kernel
theorem dX10_sinks_50 : decode cX10_sinks 50 = .ok (.iload_n 1, 1) := by decide +kernel
theorem dX10_sinks_51 : decode cX10_sinks 51 = .ok (.iaload, 1) := by decide +kernel
theorem dX10_sinks_52 : decode cX10_sinks 52 = .ok (.iload_n 2, 1) := by decide +kernel
theorem dX10_sinks_53 : decode cX10_sinks 53 = .ok (.if_icmp .lt 5, 3) := by decide +kernel
theorem dX10_sinks_56 : decode cX10_sinks 56 = .ok (.iload_n 3, 1) := by decide +kernel
theorem dX10_sinks_57 : decode cX10_sinks 57 = .ok (.ireturn, 1) := by decide +kernel
theorem dX10_sinks_58 : decode cX10_sinks 58 = .ok (.aload_n 0, 1) := by decide +kernel
theorem dX10_sinks_59 : decode cX10_sinks 59 = .ok (.getfield 65, 3) := by decide +kernel
theorem dX10_sinks_62 : decode cX10_sinks 62 = .ok (.invokevirtual 131, 3) := by decide +kernel
theorem dX10_sinks_65 : decode cX10_sinks 65 = .ok (.iinc 3 1, 3) := by decide +kernel
theorem dX10_sinks_68 : decode cX10_sinks 68 = .ok (.goto (-31), 3) := by decide +kernel
theorem dX10_sinks_71 : decode cX10_sinks 71 = .ok (.iconst (-1), 1) := by decide +kernel
theorem dX10_sinks_72 : decode cX10_sinks 72 = .ok (.ireturn, 1) := by decide +kernel
theorem dX10_walk_0 : decode cX10_walk 0 = .ok (.aload_n 0, 1) := by decide +kernel
theorem dX10_walk_1 : decode cX10_walk 1 = .ok (.iload_n 1, 1) := by decide +kernel
theorem dX10_walk_2 : decode cX10_walk 2 = .ok (.iload_n 2, 1) := by decide +kernel
theorem dX10_walk_3 : decode cX10_walk 3 = .ok (.invokevirtual 148, 3) := by decide +kernel
theorem dX10_walk_6 : decode cX10_walk 6 = .ok (.istore 4, 2) := by decide +kernel
theorem dX10_walk_8 : decode cX10_walk 8 = .ok (.iload 4, 2) := by decide +kernel
theorem dX10_walk_10 : decode cX10_walk 10 = .ok (.ifCond .eq 6, 3) := by decide +kernel
theorem dX10_walk_13 : decode cX10_walk 13 = .ok (.iload 4, 2) := by decide +kernel
theorem dX10_walk_15 : decode cX10_walk 15 = .ok (.ireturn, 1) := by decide +kernel
theorem dX10_walk_16 : decode cX10_walk 16 = .ok (.iload_n 3, 1) := by decide +kernel
theorem dX10_walk_17 : decode cX10_walk 17 = .ok (.iconst 0, 1) := by decide +kernel
theorem dX10_walk_18 : decode cX10_walk 18 = .ok (.iconst 3, 1) := by decide +kernel
theorem dX10_walk_19 : decode cX10_walk 19 = .ok (.invokestatic 91, 3) := by decide +kernel
theorem dX10_walk_22 : decode cX10_walk 22 = .ok (.ifCond .ne 6, 3) := by decide +kernel
theorem dX10_walk_25 : decode cX10_walk 25 = .ok (.bipush (-7), 2) := by decide +kernel
theorem dX10_walk_27 : decode cX10_walk 27 = .ok (.ireturn, 1) := by decide +kernel
theorem dX10_walk_28 : decode cX10_walk 28 = .ok (.aload_n 0, 1) := by decide +kernel
theorem dX10_walk_29 : decode cX10_walk 29 = .ok (.aload_n 0, 1) := by decide +kernel
theorem dX10_walk_30 : decode cX10_walk 30 = .ok (.getfield 51, 3) := by decide +kernel
theorem dX10_walk_33 : decode cX10_walk 33 = .ok (.iload_n 1, 1) := by decide +kernel
theorem dX10_walk_34 : decode cX10_walk 34 = .ok (.aaload, 1) := by decide +kernel
theorem dX10_walk_35 : decode cX10_walk 35 = .ok (.iload_n 2, 1) := by decide +kernel
theorem dX10_walk_36 : decode cX10_walk 36 = .ok (.iload_n 3, 1) := by decide +kernel
theorem dX10_walk_37 : decode cX10_walk 37 = .ok (.invokevirtual 151, 3) := by decide +kernel
theorem dX10_walk_40 : decode cX10_walk 40 = .ok (.ireturn, 1) := by decide +kernel
theorem dX10_tread_0 : decode cX10_tread 0 = .ok (.aload_n 0, 1) := by decide +kernel
theorem dX10_tread_1 : decode cX10_tread 1 = .ok (.iload_n 1, 1) := by decide +kernel
theorem dX10_tread_2 : decode cX10_tread 2 = .ok (.iload_n 2, 1) := by decide +kernel
theorem dX10_tread_3 : decode cX10_tread 3 = .ok (.invokevirtual 148, 3) := by decide +kernel
theorem dX10_tread_6 : decode cX10_tread 6 = .ok (.istore_n 3, 1) := by decide +kernel
theorem dX10_tread_7 : decode cX10_tread 7 = .ok (.iload_n 3, 1) := by decide +kernel
theorem dX10_tread_8 : decode cX10_tread 8 = .ok (.ifCond .eq 5, 3) := by decide +kernel
theorem dX10_tread_11 : decode cX10_tread 11 = .ok (.iload_n 3, 1) := by decide +kernel
theorem dX10_tread_12 : decode cX10_tread 12 = .ok (.ireturn, 1) := by decide +kernel
theorem dX10_tread_13 : decode cX10_tread 13 = .ok (.aload_n 0, 1) := by decide +kernel
theorem dX10_tread_14 : decode cX10_tread 14 = .ok (.getfield 51, 3) := by decide +kernel
theorem dX10_tread_17 : decode cX10_tread 17 = .ok (.iload_n 1, 1) := by decide +kernel
theorem dX10_tread_18 : decode cX10_tread 18 = .ok (.aaload, 1) := by decide +kernel
theorem dX10_tread_19 : decode cX10_tread 19 = .ok (.astore 4, 2) := by decide +kernel
theorem dX10_tread_21 : decode cX10_tread 21 = .ok (.iconst 0, 1) := by decide +kernel
theorem dX10_tread_22 : decode cX10_tread 22 = .ok (.istore 5, 2) := by decide +kernel
theorem dX10_tread_24 : decode cX10_tread 24 = .ok (.iconst 0, 1) := by decide +kernel
theorem dX10_tread_25 : decode cX10_tread 25 = .ok (.istore 6, 2) := by decide +kernel
theorem dX10_tread_27 : decode cX10_tread 27 = .ok (.iload 6, 2) := by decide +kernel
theorem dX10_tread_29 : decode cX10_tread 29 = .ok (.aload 4, 2) := by decide +kernel
theorem dX10_tread_31 : decode cX10_tread 31 = .ok (.getfield 155, 3) := by decide +kernel
theorem dX10_tread_34 : decode cX10_tread 34 = .ok (.if_icmp .ge 30, 3) := by decide +kernel
theorem dX10_tread_37 : decode cX10_tread 37 = .ok (.iload 5, 2) := by decide +kernel
theorem dX10_tread_39 : decode cX10_tread 39 = .ok (.aload_n 0, 1) := by decide +kernel
theorem dX10_tread_40 : decode cX10_tread 40 = .ok (.getfield 61, 3) := by decide +kernel
theorem dX10_tread_43 : decode cX10_tread 43 = .ok (.iload_n 2, 1) := by decide +kernel
theorem dX10_tread_44 : decode cX10_tread 44 = .ok (.aload 4, 2) := by decide +kernel
theorem dX10_tread_46 : decode cX10_tread 46 = .ok (.getfield 156, 3) := by decide +kernel
theorem dX10_tread_49 : decode cX10_tread 49 = .ok (.iload 6, 2) := by decide +kernel
theorem dX10_tread_51 : decode cX10_tread 51 = .ok (.iaload, 1) := by decide +kernel
theorem dX10_tread_52 : decode cX10_tread 52 = .ok (.invokevirtual 159, 3) := by decide +kernel
theorem dX10_tread_55 : decode cX10_tread 55 = .ok (.iadd, 1) := by decide +kernel
theorem dX10_tread_56 : decode cX10_tread 56 = .ok (.istore 5, 2) := by decide +kernel
theorem dX10_tread_58 : decode cX10_tread 58 = .ok (.iinc 6 1, 3) := by decide +kernel
theorem dX10_tread_61 : decode cX10_tread 61 = .ok (.goto (-34), 3) := by decide +kernel
theorem dX10_tread_64 : decode cX10_tread 64 = .ok (.iload 5, 2) := by decide +kernel
theorem dX10_tread_66 : decode cX10_tread 66 = .ok (.ireturn, 1) := by decide +kernel
theorem dX10_way_0 : decode cX10_way 0 = .ok (.aload_n 0, 1) := by decide +kernel
theorem dX10_way_1 : decode cX10_way 1 = .ok (.getfield 61, 3) := by decide +kernel
theorem dX10_way_4 : decode cX10_way 4 = .ok (.iload_n 1, 1) := by decide +kernel
theorem dX10_way_5 : decode cX10_way 5 = .ok (.invokevirtual 117, 3) := by decide +kernel
theorem dX10_way_8 : decode cX10_way 8 = .ok (.ifCond .ne 6, 3) := by decide +kernel
theorem dX10_way_11 : decode cX10_way 11 = .ok (.bipush (-5), 2) := by decide +kernel
theorem dX10_way_13 : decode cX10_way 13 = .ok (.ireturn, 1) := by decide +kernel
theorem dX10_way_14 : decode cX10_way 14 = .ok (.iload_n 2, 1) := by decide +kernel
theorem dX10_way_15 : decode cX10_way 15 = .ok (.iconst 0, 1) := by decide +kernel
theorem dX10_way_16 : decode cX10_way 16 = .ok (.sipush 3599, 3) := by decide +kernel
theorem dX10_way_19 : decode cX10_way 19 = .ok (.invokestatic 91, 3) := by decide +kernel
theorem dX10_way_22 : decode cX10_way 22 = .ok (.ifCond .eq 34, 3) := by decide +kernel
theorem dX10_way_25 : decode cX10_way 25 = .ok (.iload_n 2, 1) := by decide +kernel
theorem dX10_way_26 : decode cX10_way 26 = .ok (.bipush 100, 2) := by decide +kernel
theorem dX10_way_28 : decode cX10_way 28 = .ok (.irem, 1) := by decide +kernel
theorem dX10_way_29 : decode cX10_way 29 = .ok (.invokestatic 87, 3) := by decide +kernel
theorem dX10_way_32 : decode cX10_way 32 = .ok (.ifCond .eq 24, 3) := by decide +kernel
theorem dX10_way_35 : decode cX10_way 35 = .ok (.iload_n 3, 1) := by decide +kernel
theorem dX10_way_36 : decode cX10_way 36 = .ok (.iconst 0, 1) := by decide +kernel
theorem dX10_way_37 : decode cX10_way 37 = .ok (.sipush 999, 3) := by decide +kernel
theorem dX10_way_40 : decode cX10_way 40 = .ok (.invokestatic 91, 3) := by decide +kernel
theorem dX10_way_43 : decode cX10_way 43 = .ok (.ifCond .eq 13, 3) := by decide +kernel
theorem dX10_way_46 : decode cX10_way 46 = .ok (.iload 4, 2) := by decide +kernel
theorem dX10_way_48 : decode cX10_way 48 = .ok (.iconst 0, 1) := by decide +kernel
theorem dX10_way_49 : decode cX10_way 49 = .ok (.iconst 1, 1) := by decide +kernel
theorem dX10_way_50 : decode cX10_way 50 = .ok (.invokestatic 91, 3) := by decide +kernel
theorem dX10_way_53 : decode cX10_way 53 = .ok (.ifCond .ne 6, 3) := by decide +kernel
theorem dX10_way_56 : decode cX10_way 56 = .ok (.bipush (-7), 2) := by decide +kernel
theorem dX10_way_58 : decode cX10_way 58 = .ok (.ireturn, 1) := by decide +kernel
theorem dX10_way_59 : decode cX10_way 59 = .ok (.iload_n 2, 1) := by decide +kernel
theorem dX10_way_60 : decode cX10_way 60 = .ok (.bipush 100, 2) := by decide +kernel
theorem dX10_way_62 : decode cX10_way 62 = .ok (.idiv, 1) := by decide +kernel
theorem dX10_way_63 : decode cX10_way 63 = .ok (.istore 5, 2) := by decide +kernel
theorem dX10_way_65 : decode cX10_way 65 = .ok (.iload_n 2, 1) := by decide +kernel
theorem dX10_way_66 : decode cX10_way 66 = .ok (.bipush 100, 2) := by decide +kernel
theorem dX10_way_68 : decode cX10_way 68 = .ok (.irem, 1) := by decide +kernel
theorem dX10_way_69 : decode cX10_way 69 = .ok (.istore 6, 2) := by decide +kernel
theorem dX10_way_71 : decode cX10_way 71 = .ok (.iload 4, 2) := by decide +kernel
theorem dX10_way_73 : decode cX10_way 73 = .ok (.ifCond .ne 18, 3) := by decide +kernel
theorem dX10_way_76 : decode cX10_way 76 = .ok (.aload_n 0, 1) := by decide +kernel
theorem dX10_way_77 : decode cX10_way 77 = .ok (.getfield 61, 3) := by decide +kernel
theorem dX10_way_80 : decode cX10_way 80 = .ok (.iload_n 1, 1) := by decide +kernel
theorem dX10_way_81 : decode cX10_way 81 = .ok (.iload 5, 2) := by decide +kernel
theorem dX10_way_83 : decode cX10_way 83 = .ok (.iload 6, 2) := by decide +kernel
theorem dX10_way_85 : decode cX10_way 85 = .ok (.invokevirtual 162, 3) := by decide +kernel
theorem dX10_way_88 : decode cX10_way 88 = .ok (.goto 16, 3) := by decide +kernel
theorem dX10_way_91 : decode cX10_way 91 = .ok (.aload_n 0, 1) := by decide +kernel
theorem dX10_way_92 : decode cX10_way 92 = .ok (.getfield 61, 3) := by decide +kernel
theorem dX10_way_95 : decode cX10_way 95 = .ok (.iload_n 1, 1) := by decide +kernel
theorem dX10_way_96 : decode cX10_way 96 = .ok (.iload 5, 2) := by decide +kernel
theorem dX10_way_98 : decode cX10_way 98 = .ok (.iload 6, 2) := by decide +kernel
theorem dX10_way_100 : decode cX10_way 100 = .ok (.iload_n 3, 1) := by decide +kernel
theorem dX10_way_101 : decode cX10_way 101 = .ok (.invokevirtual 165, 3) := by decide +kernel
theorem dX10_way_104 : decode cX10_way 104 = .ok (.ireturn, 1) := by decide +kernel
theorem dX10_heap_0 : decode cX10_heap 0 = .ok (.iload_n 1, 1) := by decide +kernel
theorem dX10_heap_1 : decode cX10_heap 1 = .ok (.invokestatic 87, 3) := by decide +kernel
theorem dX10_heap_4 : decode cX10_heap 4 = .ok (.ifCond .eq 23, 3) := by decide +kernel
theorem dX10_heap_7 : decode cX10_heap 7 = .ok (.iload_n 2, 1) := by decide +kernel
theorem dX10_heap_8 : decode cX10_heap 8 = .ok (.iconst 0, 1) := by decide +kernel
theorem dX10_heap_9 : decode cX10_heap 9 = .ok (.sipush 999, 3) := by decide +kernel
theorem dX10_heap_12 : decode cX10_heap 12 = .ok (.invokestatic 91, 3) := by decide +kernel
theorem dX10_heap_15 : decode cX10_heap 15 = .ok (.ifCond .eq 12, 3) := by decide +kernel
theorem dX10_heap_18 : decode cX10_heap 18 = .ok (.iload_n 3, 1) := by decide +kernel
theorem dX10_heap_19 : decode cX10_heap 19 = .ok (.iconst 0, 1) := by decide +kernel
theorem dX10_heap_20 : decode cX10_heap 20 = .ok (.iconst 2, 1) := by decide +kernel
theorem dX10_heap_21 : decode cX10_heap 21 = .ok (.invokestatic 91, 3) := by decide +kernel
theorem dX10_heap_24 : decode cX10_heap 24 = .ok (.ifCond .ne 7, 3) := by decide +kernel
theorem dX10_heap_27 : decode cX10_heap 27 = .ok (.ldc2_w 169, 3) := by decide +kernel
theorem dX10_heap_30 : decode cX10_heap 30 = .ok (.lreturn, 1) := by decide +kernel
theorem dX10_heap_31 : decode cX10_heap 31 = .ok (.lconst 1, 1) := by decide +kernel
theorem dX10_heap_32 : decode cX10_heap 32 = .ok (.iload_n 1, 1) := by decide +kernel
theorem dX10_heap_33 : decode cX10_heap 33 = .ok (.lshl, 1) := by decide +kernel
theorem dX10_heap_34 : decode cX10_heap 34 = .ok (.aload_n 0, 1) := by decide +kernel
theorem dX10_heap_35 : decode cX10_heap 35 = .ok (.getfield 61, 3) := by decide +kernel
theorem dX10_heap_38 : decode cX10_heap 38 = .ok (.iload_n 2, 1) := by decide +kernel
theorem dX10_heap_39 : decode cX10_heap 39 = .ok (.invokevirtual 171, 3) := by decide +kernel
theorem dX10_heap_42 : decode cX10_heap 42 = .ok (.invokestatic 175, 3) := by decide +kernel
theorem dX10_heap_45 : decode cX10_heap 45 = .ok (.lstore 4, 2) := by decide +kernel
theorem dX10_heap_47 : decode cX10_heap 47 = .ok (.iload_n 3, 1) := by decide +kernel
theorem dX10_heap_48 : decode cX10_heap 48 = .ok (.lookupswitch 38 #[(0, 28), (1, 31)], 28) := by decide +kernel
theorem dX10_heap_76 : decode cX10_heap 76 = .ok (.lload 4, 2) := by decide +kernel
theorem dX10_heap_78 : decode cX10_heap 78 = .ok (.lreturn, 1) := by decide +kernel
theorem dX10_heap_79 : decode cX10_heap 79 = .ok (.lload 4, 2) := by decide +kernel
theorem dX10_heap_81 : decode cX10_heap 81 = .ok (.invokestatic 179, 3) := by decide +kernel
theorem dX10_heap_84 : decode cX10_heap 84 = .ok (.i2l, 1) := by decide +kernel
theorem dX10_heap_85 : decode cX10_heap 85 = .ok (.lreturn, 1) := by decide +kernel
theorem dX10_heap_86 : decode cX10_heap 86 = .ok (.aload_n 0, 1) := by decide +kernel
theorem dX10_heap_87 : decode cX10_heap 87 = .ok (.getfield 61, 3) := by decide +kernel
theorem dX10_heap_90 : decode cX10_heap 90 = .ok (.lload 4, 2) := by decide +kernel
theorem dX10_heap_92 : decode cX10_heap 92 = .ok (.invokevirtual 185, 3) := by decide +kernel
theorem dX10_heap_95 : decode cX10_heap 95 = .ok (.i2l, 1) := by decide +kernel
theorem dX10_heap_96 : decode cX10_heap 96 = .ok (.lreturn, 1) := by decide +kernel
theorem dX10_room_0 : decode cX10_room 0 = .ok (.iload_n 1, 1) := by decide +kernel
theorem dX10_room_1 : decode cX10_room 1 = .ok (.iconst 0, 1) := by decide +kernel
theorem dX10_room_2 : decode cX10_room 2 = .ok (.sipush 999, 3) := by decide +kernel
theorem dX10_room_5 : decode cX10_room 5 = .ok (.invokestatic 91, 3) := by decide +kernel
theorem dX10_room_8 : decode cX10_room 8 = .ok (.ifCond .ne 6, 3) := by decide +kernel
theorem dX10_room_11 : decode cX10_room 11 = .ok (.bipush (-2), 2) := by decide +kernel
theorem dX10_room_13 : decode cX10_room 13 = .ok (.ireturn, 1) := by decide +kernel
theorem dX10_room_14 : decode cX10_room 14 = .ok (.iload_n 2, 1) := by decide +kernel
theorem dX10_room_15 : decode cX10_room 15 = .ok (.tableswitch 50 0 2 #[25, 33, 41], 25) := by decide +kernel
theorem dX10_room_40 : decode cX10_room 40 = .ok (.aload_n 0, 1) := by decide +kernel
theorem dX10_room_41 : decode cX10_room 41 = .ok (.getfield 61, 3) := by decide +kernel
theorem dX10_room_44 : decode cX10_room 44 = .ok (.invokevirtual 188, 3) := by decide +kernel
theorem dX10_room_47 : decode cX10_room 47 = .ok (.ireturn, 1) := by decide +kernel
theorem dX10_room_48 : decode cX10_room 48 = .ok (.aload_n 0, 1) := by decide +kernel
theorem dX10_room_49 : decode cX10_room 49 = .ok (.getfield 61, 3) := by decide +kernel
theorem dX10_room_52 : decode cX10_room 52 = .ok (.invokevirtual 192, 3) := by decide +kernel
theorem dX10_room_55 : decode cX10_room 55 = .ok (.ireturn, 1) := by decide +kernel
theorem dX10_room_56 : decode cX10_room 56 = .ok (.aload_n 0, 1) := by decide +kernel
theorem dX10_room_57 : decode cX10_room 57 = .ok (.getfield 61, 3) := by decide +kernel
theorem dX10_room_60 : decode cX10_room 60 = .ok (.iload_n 1, 1) := by decide +kernel
theorem dX10_room_61 : decode cX10_room 61 = .ok (.invokevirtual 195, 3) := by decide +kernel
theorem dX10_room_64 : decode cX10_room 64 = .ok (.ireturn, 1) := by decide +kernel
theorem dX10_room_65 : decode cX10_room 65 = .ok (.bipush (-2), 2) := by decide +kernel
theorem dX10_room_67 : decode cX10_room 67 = .ok (.ireturn, 1) := by decide +kernel
theorem dX10_turn_0 : decode cX10_turn 0 = .ok (.iload_n 1, 1) := by decide +kernel
theorem dX10_turn_1 : decode cX10_turn 1 = .ok (.iconst 0, 1) := by decide +kernel
theorem dX10_turn_2 : decode cX10_turn 2 = .ok (.bipush 40, 2) := by decide +kernel
theorem dX10_turn_4 : decode cX10_turn 4 = .ok (.invokestatic 91, 3) := by decide +kernel
theorem dX10_turn_7 : decode cX10_turn 7 = .ok (.ifCond .eq 12, 3) := by decide +kernel
theorem dX10_turn_10 : decode cX10_turn 10 = .ok (.iload_n 2, 1) := by decide +kernel
theorem dX10_turn_11 : decode cX10_turn 11 = .ok (.iconst 0, 1) := by decide +kernel
theorem dX10_turn_12 : decode cX10_turn 12 = .ok (.iconst 1, 1) := by decide +kernel
theorem dX10_turn_13 : decode cX10_turn 13 = .ok (.invokestatic 91, 3) := by decide +kernel
theorem dX10_turn_16 : decode cX10_turn 16 = .ok (.ifCond .ne 6, 3) := by decide +kernel
theorem dX10_turn_19 : decode cX10_turn 19 = .ok (.bipush (-2), 2) := by decide +kernel
theorem dX10_turn_21 : decode cX10_turn 21 = .ok (.ireturn, 1) := by decide +kernel
theorem dX10_turn_22 : decode cX10_turn 22 = .ok (.iconst (-1), 1) := by decide +kernel
theorem dX10_turn_23 : decode cX10_turn 23 = .ok (.istore_n 3, 1) := by decide +kernel
theorem dX10_turn_24 : decode cX10_turn 24 = .ok (.aload_n 0, 1) := by decide +kernel
theorem dX10_turn_25 : decode cX10_turn 25 = .ok (.getfield 61, 3) := by decide +kernel
theorem dX10_turn_28 : decode cX10_turn 28 = .ok (.iconst 0, 1) := by decide +kernel
theorem dX10_turn_29 : decode cX10_turn 29 = .ok (.bipush 36, 2) := by decide +kernel
theorem dX10_turn_31 : decode cX10_turn 31 = .ok (.invokevirtual 77, 3) := by decide +kernel
theorem dX10_turn_34 : decode cX10_turn 34 = .ok (.istore 4, 2) := by decide +kernel
theorem dX10_turn_36 : decode cX10_turn 36 = .ok (.iconst 0, 1) := by decide +kernel
theorem dX10_turn_37 : decode cX10_turn 37 = .ok (.istore 5, 2) := by decide +kernel
theorem dX10_turn_39 : decode cX10_turn 39 = .ok (.iload 5, 2) := by decide +kernel
theorem dX10_turn_41 : decode cX10_turn 41 = .ok (.aload_n 0, 1) := by decide +kernel
theorem dX10_turn_42 : decode cX10_turn 42 = .ok (.getfield 61, 3) := by decide +kernel
theorem dX10_turn_45 : decode cX10_turn 45 = .ok (.getfield 71, 3) := by decide +kernel
theorem dX10_turn_48 : decode cX10_turn 48 = .ok (.if_icmp .ge 68, 3) := by decide +kernel
theorem dX10_turn_51 : decode cX10_turn 51 = .ok (.aload_n 0, 1) := by decide +kernel
theorem dX10_turn_52 : decode cX10_turn 52 = .ok (.getfield 65, 3) := by decide +kernel
theorem dX10_turn_55 : decode cX10_turn 55 = .ok (.aload_n 0, 1) := by decide +kernel
theorem dX10_turn_56 : decode cX10_turn 56 = .ok (.getfield 61, 3) := by decide +kernel
theorem dX10_turn_59 : decode cX10_turn 59 = .ok (.invokevirtual 141, 3) := by decide +kernel
theorem dX10_turn_62 : decode cX10_turn 62 = .ok (.aload_n 0, 1) := by decide +kernel
theorem dX10_turn_63 : decode cX10_turn 63 = .ok (.getfield 65, 3) := by decide +kernel
theorem dX10_turn_66 : decode cX10_turn 66 = .ok (.iload 5, 2) := by decide +kernel
theorem dX10_turn_68 : decode cX10_turn 68 = .ok (.invokevirtual 198, 3) := by decide +kernel
theorem dX10_turn_71 : decode cX10_turn 71 = .ok (.aload_n 0, 1) := by decide +kernel
theorem dX10_turn_72 : decode cX10_turn 72 = .ok (.getfield 65, 3) := by decide +kernel
theorem dX10_turn_75 : decode cX10_turn 75 = .ok (.iload_n 1, 1) := by decide +kernel
theorem dX10_turn_76 : decode cX10_turn 76 = .ok (.invokevirtual 145, 3) := by decide +kernel
theorem dX10_turn_79 : decode cX10_turn 79 = .ok (.aload_n 0, 1) := by decide +kernel
theorem dX10_turn_80 : decode cX10_turn 80 = .ok (.getfield 65, 3) := by decide +kernel
theorem dX10_turn_83 : decode cX10_turn 83 = .ok (.iconst 0, 1) := by decide +kernel
theorem dX10_turn_84 : decode cX10_turn 84 = .ok (.bipush 36, 2) := by decide +kernel
theorem dX10_turn_86 : decode cX10_turn 86 = .ok (.invokevirtual 77, 3) := by decide +kernel
theorem dX10_turn_89 : decode cX10_turn 89 = .ok (.istore 6, 2) := by decide +kernel
theorem dX10_turn_91 : decode cX10_turn 91 = .ok (.iload_n 3, 1) := by decide +kernel
theorem dX10_turn_92 : decode cX10_turn 92 = .ok (.iconst (-1), 1) := by decide +kernel
theorem dX10_turn_93 : decode cX10_turn 93 = .ok (.if_icmp .eq 10, 3) := by decide +kernel
theorem dX10_turn_96 : decode cX10_turn 96 = .ok (.iload 6, 2) := by decide +kernel
theorem dX10_turn_98 : decode cX10_turn 98 = .ok (.iload 4, 2) := by decide +kernel
theorem dX10_turn_100 : decode cX10_turn 100 = .ok (.if_icmp .ge 10, 3) := by decide +kernel
theorem dX10_turn_103 : decode cX10_turn 103 = .ok (.iload 5, 2) := by decide +kernel
theorem dX10_turn_105 : decode cX10_turn 105 = .ok (.istore_n 3, 1) := by decide +kernel
theorem dX10_turn_106 : decode cX10_turn 106 = .ok (.iload 6, 2) := by decide +kernel
theorem dX10_turn_108 : decode cX10_turn 108 = .ok (.istore 4, 2) := by decide +kernel
theorem dX10_turn_110 : decode cX10_turn 110 = .ok (.iinc 5 1, 3) := by decide +kernel
theorem dX10_turn_113 : decode cX10_turn 113 = .ok (.goto (-74), 3) := by decide +kernel
theorem dX10_turn_116 : decode cX10_turn 116 = .ok (.iload_n 2, 1) := by decide +kernel
theorem dX10_turn_117 : decode cX10_turn 117 = .ok (.ifCond .ne 7, 3) := by decide +kernel
theorem dX10_turn_120 : decode cX10_turn 120 = .ok (.iload_n 3, 1) := by decide +kernel
theorem dX10_turn_121 : decode cX10_turn 121 = .ok (.goto 5, 3) := by decide +kernel
theorem dX10_turn_124 : decode cX10_turn 124 = .ok (.iload 4, 2) := by decide +kernel
theorem dX10_turn_126 : decode cX10_turn 126 = .ok (.ireturn, 1) := by decide +kernel
theorem dX10_seats_0 : decode cX10_seats 0 = .ok (.aload_n 0, 1) := by decide +kernel
theorem dX10_seats_1 : decode cX10_seats 1 = .ok (.getfield 61, 3) := by decide +kernel
theorem dX10_seats_4 : decode cX10_seats 4 = .ok (.iload_n 1, 1) := by decide +kernel
theorem dX10_seats_5 : decode cX10_seats 5 = .ok (.invokevirtual 117, 3) := by decide +kernel
theorem dX10_seats_8 : decode cX10_seats 8 = .ok (.ifCond .ne 6, 3) := by decide +kernel
theorem dX10_seats_11 : decode cX10_seats 11 = .ok (.bipush (-5), 2) := by decide +kernel
theorem dX10_seats_13 : decode cX10_seats 13 = .ok (.ireturn, 1) := by decide +kernel
theorem dX10_seats_14 : decode cX10_seats 14 = .ok (.iload_n 2, 1) := by decide +kernel
theorem dX10_seats_15 : decode cX10_seats 15 = .ok (.iconst 0, 1) := by decide +kernel
theorem dX10_seats_16 : decode cX10_seats 16 = .ok (.bipush 20, 2) := by decide +kernel
theorem dX10_seats_18 : decode cX10_seats 18 = .ok (.invokestatic 91, 3) := by decide +kernel
theorem dX10_seats_21 : decode cX10_seats 21 = .ok (.ifCond .eq 12, 3) := by decide +kernel
theorem dX10_seats_24 : decode cX10_seats 24 = .ok (.iload_n 3, 1) := by decide +kernel
theorem dX10_seats_25 : decode cX10_seats 25 = .ok (.iconst 0, 1) := by decide +kernel
theorem dX10_seats_26 : decode cX10_seats 26 = .ok (.iconst 1, 1) := by decide +kernel
theorem dX10_seats_27 : decode cX10_seats 27 = .ok (.invokestatic 91, 3) := by decide +kernel
theorem dX10_seats_30 : decode cX10_seats 30 = .ok (.ifCond .ne 6, 3) := by decide +kernel
theorem dX10_seats_33 : decode cX10_seats 33 = .ok (.bipush (-7), 2) := by decide +kernel
theorem dX10_seats_35 : decode cX10_seats 35 = .ok (.ireturn, 1) := by decide +kernel
theorem dX10_seats_36 : decode cX10_seats 36 = .ok (.iconst (-1), 1) := by decide +kernel
theorem dX10_seats_37 : decode cX10_seats 37 = .ok (.istore 4, 2) := by decide +kernel
theorem dX10_seats_39 : decode cX10_seats 39 = .ok (.iconst 0, 1) := by decide +kernel
theorem dX10_seats_40 : decode cX10_seats 40 = .ok (.istore 5, 2) := by decide +kernel
theorem dX10_seats_42 : decode cX10_seats 42 = .ok (.iconst 0, 1) := by decide +kernel
theorem dX10_seats_43 : decode cX10_seats 43 = .ok (.istore 6, 2) := by decide +kernel
theorem dX10_seats_45 : decode cX10_seats 45 = .ok (.iload 6, 2) := by decide +kernel
theorem dX10_seats_47 : decode cX10_seats 47 = .ok (.bipush 36, 2) := by decide +kernel
theorem dX10_seats_49 : decode cX10_seats 49 = .ok (.if_icmp .ge 63, 3) := by decide +kernel
theorem dX10_seats_52 : decode cX10_seats 52 = .ok (.aload_n 0, 1) := by decide +kernel
theorem dX10_seats_53 : decode cX10_seats 53 = .ok (.iload_n 1, 1) := by decide +kernel
theorem dX10_seats_54 : decode cX10_seats 54 = .ok (.iconst 0, 1) := by decide +kernel
theorem dX10_seats_55 : decode cX10_seats 55 = .ok (.iload 6, 2) := by decide +kernel
theorem dX10_seats_57 : decode cX10_seats 57 = .ok (.invokevirtual 201, 3) := by decide +kernel
theorem dX10_seats_60 : decode cX10_seats 60 = .ok (.aload_n 0, 1) := by decide +kernel
theorem dX10_seats_61 : decode cX10_seats 61 = .ok (.getfield 65, 3) := by decide +kernel
theorem dX10_seats_64 : decode cX10_seats 64 = .ok (.iload_n 2, 1) := by decide +kernel
theorem dX10_seats_65 : decode cX10_seats 65 = .ok (.invokevirtual 145, 3) := by decide +kernel
theorem dX10_seats_68 : decode cX10_seats 68 = .ok (.aload_n 0, 1) := by decide +kernel
theorem dX10_seats_69 : decode cX10_seats 69 = .ok (.getfield 65, 3) := by decide +kernel
theorem dX10_seats_72 : decode cX10_seats 72 = .ok (.getfield 95, 3) := by decide +kernel
theorem dX10_seats_75 : decode cX10_seats 75 = .ok (.aload_n 0, 1) := by decide +kernel
theorem dX10_seats_76 : decode cX10_seats 76 = .ok (.getfield 65, 3) := by decide +kernel
theorem dX10_seats_79 : decode cX10_seats 79 = .ok (.invokevirtual 188, 3) := by decide +kernel
theorem dX10_seats_82 : decode cX10_seats 82 = .ok (.iaload, 1) := by decide +kernel
theorem dX10_seats_83 : decode cX10_seats 83 = .ok (.istore 7, 2) := by decide +kernel
theorem dX10_seats_85 : decode cX10_seats 85 = .ok (.iload 4, 2) := by decide +kernel
theorem dX10_seats_87 : decode cX10_seats 87 = .ok (.iconst (-1), 1) := by decide +kernel
theorem dX10_seats_88 : decode cX10_seats 88 = .ok (.if_icmp .eq 10, 3) := by decide +kernel
theorem dX10_seats_91 : decode cX10_seats 91 = .ok (.iload 7, 2) := by decide +kernel
theorem dX10_seats_93 : decode cX10_seats 93 = .ok (.iload 5, 2) := by decide +kernel
theorem dX10_seats_95 : decode cX10_seats 95 = .ok (.if_icmp .ge 11, 3) := by decide +kernel
theorem dX10_seats_98 : decode cX10_seats 98 = .ok (.iload 6, 2) := by decide +kernel
theorem dX10_seats_100 : decode cX10_seats 100 = .ok (.istore 4, 2) := by decide +kernel
theorem dX10_seats_102 : decode cX10_seats 102 = .ok (.iload 7, 2) := by decide +kernel
theorem dX10_seats_104 : decode cX10_seats 104 = .ok (.istore 5, 2) := by decide +kernel
theorem dX10_seats_106 : decode cX10_seats 106 = .ok (.iinc 6 1, 3) := by decide +kernel
theorem dX10_seats_109 : decode cX10_seats 109 = .ok (.goto (-64), 3) := by decide +kernel
theorem dX10_seats_112 : decode cX10_seats 112 = .ok (.iload_n 3, 1) := by decide +kernel
theorem dX10_seats_113 : decode cX10_seats 113 = .ok (.ifCond .ne 8, 3) := by decide +kernel
theorem dX10_seats_116 : decode cX10_seats 116 = .ok (.iload 4, 2) := by decide +kernel
theorem dX10_seats_118 : decode cX10_seats 118 = .ok (.goto 5, 3) := by decide +kernel
theorem dX10_seats_121 : decode cX10_seats 121 = .ok (.iload 5, 2) := by decide +kernel
theorem dX10_seats_123 : decode cX10_seats 123 = .ok (.ireturn, 1) := by decide +kernel
theorem dX10_judge_0 : decode cX10_judge 0 = .ok (.aload_n 0, 1) := by decide +kernel
theorem dX10_judge_1 : decode cX10_judge 1 = .ok (.iload_n 1, 1) := by decide +kernel
theorem dX10_judge_2 : decode cX10_judge 2 = .ok (.iload_n 2, 1) := by decide +kernel
theorem dX10_judge_3 : decode cX10_judge 3 = .ok (.invokevirtual 205, 3) := by decide +kernel
theorem dX10_judge_6 : decode cX10_judge 6 = .ok (.istore_n 3, 1) := by decide +kernel
theorem dX10_judge_7 : decode cX10_judge 7 = .ok (.iload_n 3, 1) := by decide +kernel
theorem dX10_judge_8 : decode cX10_judge 8 = .ok (.ifCond .eq 5, 3) := by decide +kernel
theorem dX10_judge_11 : decode cX10_judge 11 = .ok (.iload_n 3, 1) := by decide +kernel
theorem dX10_judge_12 : decode cX10_judge 12 = .ok (.ireturn, 1) := by decide +kernel
theorem dX10_judge_13 : decode cX10_judge 13 = .ok (.aload_n 0, 1) := by decide +kernel
theorem dX10_judge_14 : decode cX10_judge 14 = .ok (.getfield 65, 3) := by decide +kernel
theorem dX10_judge_17 : decode cX10_judge 17 = .ok (.aload_n 0, 1) := by decide +kernel
theorem dX10_judge_18 : decode cX10_judge 18 = .ok (.getfield 61, 3) := by decide +kernel
theorem dX10_judge_21 : decode cX10_judge 21 = .ok (.invokevirtual 141, 3) := by decide +kernel
theorem dX10_judge_24 : decode cX10_judge 24 = .ok (.aload_n 0, 1) := by decide +kernel
theorem dX10_judge_25 : decode cX10_judge 25 = .ok (.aload_n 0, 1) := by decide +kernel
theorem dX10_judge_26 : decode cX10_judge 26 = .ok (.getfield 51, 3) := by decide +kernel
theorem dX10_judge_29 : decode cX10_judge 29 = .ok (.iload_n 1, 1) := by decide +kernel
theorem dX10_judge_30 : decode cX10_judge 30 = .ok (.aaload, 1) := by decide +kernel
theorem dX10_judge_31 : decode cX10_judge 31 = .ok (.iload_n 2, 1) := by decide +kernel
theorem dX10_judge_32 : decode cX10_judge 32 = .ok (.invokevirtual 208, 3) := by decide +kernel
theorem dX10_judge_35 : decode cX10_judge 35 = .ok (.ireturn, 1) := by decide +kernel
theorem dX10_kinds_0 : decode cX10_kinds 0 = .ok (.aload_n 0, 1) := by decide +kernel
theorem dX10_kinds_1 : decode cX10_kinds 1 = .ok (.iload_n 1, 1) := by decide +kernel
theorem dX10_kinds_2 : decode cX10_kinds 2 = .ok (.iload_n 2, 1) := by decide +kernel
theorem dX10_kinds_3 : decode cX10_kinds 3 = .ok (.iload_n 3, 1) := by decide +kernel
theorem dX10_kinds_4 : decode cX10_kinds 4 = .ok (.invokevirtual 212, 3) := by decide +kernel
theorem dX10_kinds_7 : decode cX10_kinds 7 = .ok (.istore 5, 2) := by decide +kernel
theorem dX10_kinds_9 : decode cX10_kinds 9 = .ok (.iload 5, 2) := by decide +kernel
theorem dX10_kinds_11 : decode cX10_kinds 11 = .ok (.ifCond .eq 6, 3) := by decide +kernel
theorem dX10_kinds_14 : decode cX10_kinds 14 = .ok (.iload 5, 2) := by decide +kernel
theorem dX10_kinds_16 : decode cX10_kinds 16 = .ok (.ireturn, 1) := by decide +kernel
theorem dX10_kinds_17 : decode cX10_kinds 17 = .ok (.iload 4, 2) := by decide +kernel
theorem dX10_kinds_19 : decode cX10_kinds 19 = .ok (.iconst 0, 1) := by decide +kernel
theorem dX10_kinds_20 : decode cX10_kinds 20 = .ok (.iconst 1, 1) := by decide +kernel
theorem dX10_kinds_21 : decode cX10_kinds 21 = .ok (.invokestatic 91, 3) := by decide +kernel
theorem dX10_kinds_24 : decode cX10_kinds 24 = .ok (.ifCond .ne 6, 3) := by decide +kernel
theorem dX10_kinds_27 : decode cX10_kinds 27 = .ok (.bipush (-7), 2) := by decide +kernel
theorem dX10_kinds_29 : decode cX10_kinds 29 = .ok (.ireturn, 1) := by decide +kernel
theorem dX10_kinds_30 : decode cX10_kinds 30 = .ok (.iload 4, 2) := by decide +kernel
theorem dX10_kinds_32 : decode cX10_kinds 32 = .ok (.ifCond .ne 16, 3) := by decide +kernel
theorem dX10_kinds_35 : decode cX10_kinds 35 = .ok (.aload_n 0, 1) := by decide +kernel
theorem dX10_kinds_36 : decode cX10_kinds 36 = .ok (.iload_n 1, 1) := by decide +kernel
theorem dX10_kinds_37 : decode cX10_kinds 37 = .ok (.iload_n 2, 1) := by decide +kernel
theorem dX10_kinds_38 : decode cX10_kinds 38 = .ok (.iload_n 3, 1) := by decide +kernel
theorem dX10_kinds_39 : decode cX10_kinds 39 = .ok (.iconst 2, 1) := by decide +kernel
theorem dX10_kinds_40 : decode cX10_kinds 40 = .ok (.bipush 6, 2) := by decide +kernel
theorem dX10_kinds_42 : decode cX10_kinds 42 = .ok (.invokevirtual 215, 3) := by decide +kernel
theorem dX10_kinds_45 : decode cX10_kinds 45 = .ok (.goto 13, 3) := by decide +kernel
theorem dX10_kinds_48 : decode cX10_kinds 48 = .ok (.aload_n 0, 1) := by decide +kernel
theorem dX10_kinds_49 : decode cX10_kinds 49 = .ok (.iload_n 1, 1) := by decide +kernel
theorem dX10_kinds_50 : decode cX10_kinds 50 = .ok (.iload_n 2, 1) := by decide +kernel
theorem dX10_kinds_51 : decode cX10_kinds 51 = .ok (.iload_n 3, 1) := by decide +kernel
theorem dX10_kinds_52 : decode cX10_kinds 52 = .ok (.iconst 3, 1) := by decide +kernel
theorem dX10_kinds_53 : decode cX10_kinds 53 = .ok (.bipush 10, 2) := by decide +kernel
theorem dX10_kinds_55 : decode cX10_kinds 55 = .ok (.invokevirtual 215, 3) := by decide +kernel
theorem dX10_kinds_58 : decode cX10_kinds 58 = .ok (.l2i, 1) := by decide +kernel
theorem dX10_kinds_59 : decode cX10_kinds 59 = .ok (.ireturn, 1) := by decide +kernel
theorem dX10_where_0 : decode cX10_where 0 = .ok (.aload_n 0, 1) := by decide +kernel
theorem dX10_where_1 : decode cX10_where 1 = .ok (.iload_n 1, 1) := by decide +kernel
theorem dX10_where_2 : decode cX10_where 2 = .ok (.iload_n 2, 1) := by decide +kernel
theorem dX10_where_3 : decode cX10_where 3 = .ok (.iload_n 3, 1) := by decide +kernel
theorem dX10_where_4 : decode cX10_where 4 = .ok (.invokevirtual 212, 3) := by decide +kernel
theorem dX10_where_7 : decode cX10_where 7 = .ok (.ifCond .ne 16, 3) := by decide +kernel
theorem dX10_where_10 : decode cX10_where 10 = .ok (.aload_n 0, 1) := by decide +kernel
theorem dX10_where_11 : decode cX10_where 11 = .ok (.iload_n 1, 1) := by decide +kernel
theorem dX10_where_12 : decode cX10_where 12 = .ok (.iload_n 2, 1) := by decide +kernel
theorem dX10_where_13 : decode cX10_where 13 = .ok (.iload_n 3, 1) := by decide +kernel
theorem dX10_where_14 : decode cX10_where 14 = .ok (.iconst 0, 1) := by decide +kernel
theorem dX10_where_15 : decode cX10_where 15 = .ok (.bipush 36, 2) := by decide +kernel
theorem dX10_where_17 : decode cX10_where 17 = .ok (.invokevirtual 215, 3) := by decide +kernel
theorem dX10_where_20 : decode cX10_where 20 = .ok (.goto 6, 3) := by decide +kernel
theorem dX10_where_23 : decode cX10_where 23 = .ok (.ldc2_w 169, 3) := by decide +kernel
theorem dX10_where_26 : decode cX10_where 26 = .ok (.lreturn, 1) := by decide +kernel
theorem dX10_holds_0 : decode cX10_holds 0 = .ok (.aload_n 0, 1) := by decide +kernel
theorem dX10_holds_1 : decode cX10_holds 1 = .ok (.iload_n 1, 1) := by decide +kernel
theorem dX10_holds_2 : decode cX10_holds 2 = .ok (.iload_n 2, 1) := by decide +kernel
theorem dX10_holds_3 : decode cX10_holds 3 = .ok (.iload_n 3, 1) := by decide +kernel
theorem dX10_holds_4 : decode cX10_holds 4 = .ok (.invokevirtual 212, 3) := by decide +kernel
theorem dX10_holds_7 : decode cX10_holds 7 = .ok (.istore 5, 2) := by decide +kernel
theorem dX10_holds_9 : decode cX10_holds 9 = .ok (.iload 5, 2) := by decide +kernel
theorem dX10_holds_11 : decode cX10_holds 11 = .ok (.ifCond .eq 6, 3) := by decide +kernel
theorem dX10_holds_14 : decode cX10_holds 14 = .ok (.iload 5, 2) := by decide +kernel
theorem dX10_holds_16 : decode cX10_holds 16 = .ok (.ireturn, 1) := by decide +kernel
theorem dX10_holds_17 : decode cX10_holds 17 = .ok (.iload 4, 2) := by decide +kernel
theorem dX10_holds_19 : decode cX10_holds 19 = .ok (.iconst 0, 1) := by decide +kernel
theorem dX10_holds_20 : decode cX10_holds 20 = .ok (.iconst 1, 1) := by decide +kernel
theorem dX10_holds_21 : decode cX10_holds 21 = .ok (.invokestatic 91, 3) := by decide +kernel
theorem dX10_holds_24 : decode cX10_holds 24 = .ok (.ifCond .ne 6, 3) := by decide +kernel
theorem dX10_holds_27 : decode cX10_holds 27 = .ok (.bipush (-7), 2) := by decide +kernel
theorem dX10_holds_29 : decode cX10_holds 29 = .ok (.ireturn, 1) := by decide +kernel
theorem dX10_holds_30 : decode cX10_holds 30 = .ok (.iconst 0, 1) := by decide +kernel
theorem dX10_holds_31 : decode cX10_holds 31 = .ok (.istore 6, 2) := by decide +kernel
theorem dX10_holds_33 : decode cX10_holds 33 = .ok (.iconst (-1), 1) := by decide +kernel
theorem dX10_holds_34 : decode cX10_holds 34 = .ok (.istore 7, 2) := by decide +kernel
theorem dX10_holds_36 : decode cX10_holds 36 = .ok (.iconst 0, 1) := by decide +kernel
theorem dX10_holds_37 : decode cX10_holds 37 = .ok (.istore 8, 2) := by decide +kernel
theorem dX10_holds_39 : decode cX10_holds 39 = .ok (.iload 8, 2) := by decide +kernel
theorem dX10_holds_41 : decode cX10_holds 41 = .ok (.bipush 100, 2) := by decide +kernel
theorem dX10_holds_43 : decode cX10_holds 43 = .ok (.if_icmp .ge 50, 3) := by decide +kernel
theorem dX10_holds_46 : decode cX10_holds 46 = .ok (.aload_n 0, 1) := by decide +kernel
theorem dX10_holds_47 : decode cX10_holds 47 = .ok (.iload_n 3, 1) := by decide +kernel
theorem dX10_holds_48 : decode cX10_holds 48 = .ok (.iconst 1, 1) := by decide +kernel
theorem dX10_holds_49 : decode cX10_holds 49 = .ok (.iload 8, 2) := by decide +kernel
theorem dX10_holds_51 : decode cX10_holds 51 = .ok (.invokevirtual 201, 3) := by decide +kernel
theorem dX10_holds_54 : decode cX10_holds 54 = .ok (.aload_n 0, 1) := by decide +kernel
theorem dX10_holds_55 : decode cX10_holds 55 = .ok (.aload_n 0, 1) := by decide +kernel
theorem dX10_holds_56 : decode cX10_holds 56 = .ok (.getfield 51, 3) := by decide +kernel
theorem dX10_holds_59 : decode cX10_holds 59 = .ok (.iload_n 1, 1) := by decide +kernel
theorem dX10_holds_60 : decode cX10_holds 60 = .ok (.aaload, 1) := by decide +kernel
theorem dX10_holds_61 : decode cX10_holds 61 = .ok (.iload_n 2, 1) := by decide +kernel
theorem dX10_holds_62 : decode cX10_holds 62 = .ok (.invokevirtual 208, 3) := by decide +kernel
theorem dX10_holds_65 : decode cX10_holds 65 = .ok (.iconst (-1), 1) := by decide +kernel
theorem dX10_holds_66 : decode cX10_holds 66 = .ok (.if_icmp .ne 21, 3) := by decide +kernel
theorem dX10_holds_69 : decode cX10_holds 69 = .ok (.iinc 6 1, 3) := by decide +kernel
theorem dX10_holds_72 : decode cX10_holds 72 = .ok (.iload 7, 2) := by decide +kernel
theorem dX10_holds_74 : decode cX10_holds 74 = .ok (.iconst (-1), 1) := by decide +kernel
theorem dX10_holds_75 : decode cX10_holds 75 = .ok (.if_icmp .ne 8, 3) := by decide +kernel
theorem dX10_holds_78 : decode cX10_holds 78 = .ok (.iload 8, 2) := by decide +kernel
theorem dX10_holds_80 : decode cX10_holds 80 = .ok (.goto 5, 3) := by decide +kernel
theorem dX10_holds_83 : decode cX10_holds 83 = .ok (.iload 7, 2) := by decide +kernel
theorem dX10_holds_85 : decode cX10_holds 85 = .ok (.istore 7, 2) := by decide +kernel
theorem dX10_holds_87 : decode cX10_holds 87 = .ok (.iinc 8 1, 3) := by decide +kernel
theorem dX10_holds_90 : decode cX10_holds 90 = .ok (.goto (-51), 3) := by decide +kernel
theorem dX10_holds_93 : decode cX10_holds 93 = .ok (.iload 4, 2) := by decide +kernel
theorem dX10_holds_95 : decode cX10_holds 95 = .ok (.ifCond .ne 8, 3) := by decide +kernel
theorem dX10_holds_98 : decode cX10_holds 98 = .ok (.iload 6, 2) := by decide +kernel
theorem dX10_holds_100 : decode cX10_holds 100 = .ok (.goto 5, 3) := by decide +kernel
theorem dX10_holds_103 : decode cX10_holds 103 = .ok (.iload 7, 2) := by decide +kernel
theorem dX10_holds_105 : decode cX10_holds 105 = .ok (.ireturn, 1) := by decide +kernel
theorem dX10_laws_0 : decode cX10_laws 0 = .ok (.aload_n 0, 1) := by decide +kernel
theorem dX10_laws_1 : decode cX10_laws 1 = .ok (.iload_n 1, 1) := by decide +kernel
theorem dX10_laws_2 : decode cX10_laws 2 = .ok (.iload_n 2, 1) := by decide +kernel
theorem dX10_laws_3 : decode cX10_laws 3 = .ok (.invokevirtual 205, 3) := by decide +kernel
theorem dX10_laws_6 : decode cX10_laws 6 = .ok (.istore_n 3, 1) := by decide +kernel
theorem dX10_laws_7 : decode cX10_laws 7 = .ok (.iload_n 3, 1) := by decide +kernel
theorem dX10_laws_8 : decode cX10_laws 8 = .ok (.ifCond .eq 5, 3) := by decide +kernel
theorem dX10_laws_11 : decode cX10_laws 11 = .ok (.iload_n 3, 1) := by decide +kernel
theorem dX10_laws_12 : decode cX10_laws 12 = .ok (.ireturn, 1) := by decide +kernel
theorem dX10_laws_13 : decode cX10_laws 13 = .ok (.iconst 0, 1) := by decide +kernel
theorem dX10_laws_14 : decode cX10_laws 14 = .ok (.istore 4, 2) := by decide +kernel
theorem dX10_laws_16 : decode cX10_laws 16 = .ok (.iconst 0, 1) := by decide +kernel
theorem dX10_laws_17 : decode cX10_laws 17 = .ok (.istore 5, 2) := by decide +kernel
theorem dX10_laws_19 : decode cX10_laws 19 = .ok (.iload 5, 2) := by decide +kernel
theorem dX10_laws_21 : decode cX10_laws 21 = .ok (.aload_n 0, 1) := by decide +kernel
theorem dX10_laws_22 : decode cX10_laws 22 = .ok (.getfield 41, 3) := by decide +kernel
theorem dX10_laws_25 : decode cX10_laws 25 = .ok (.if_icmp .ge 53, 3) := by decide +kernel
theorem dX10_laws_28 : decode cX10_laws 28 = .ok (.aload_n 0, 1) := by decide +kernel
theorem dX10_laws_29 : decode cX10_laws 29 = .ok (.getfield 65, 3) := by decide +kernel
theorem dX10_laws_32 : decode cX10_laws 32 = .ok (.aload_n 0, 1) := by decide +kernel
theorem dX10_laws_33 : decode cX10_laws 33 = .ok (.getfield 61, 3) := by decide +kernel
theorem dX10_laws_36 : decode cX10_laws 36 = .ok (.invokevirtual 141, 3) := by decide +kernel
theorem dX10_laws_39 : decode cX10_laws 39 = .ok (.aload_n 0, 1) := by decide +kernel
theorem dX10_laws_40 : decode cX10_laws 40 = .ok (.getfield 65, 3) := by decide +kernel
theorem dX10_laws_43 : decode cX10_laws 43 = .ok (.iload 5, 2) := by decide +kernel
theorem dX10_laws_45 : decode cX10_laws 45 = .ok (.putfield 81, 3) := by decide +kernel
theorem dX10_laws_48 : decode cX10_laws 48 = .ok (.aload_n 0, 1) := by decide +kernel
theorem dX10_laws_49 : decode cX10_laws 49 = .ok (.aload_n 0, 1) := by decide +kernel
theorem dX10_laws_50 : decode cX10_laws 50 = .ok (.getfield 51, 3) := by decide +kernel
theorem dX10_laws_53 : decode cX10_laws 53 = .ok (.iload_n 1, 1) := by decide +kernel
theorem dX10_laws_54 : decode cX10_laws 54 = .ok (.aaload, 1) := by decide +kernel
theorem dX10_laws_55 : decode cX10_laws 55 = .ok (.iload_n 2, 1) := by decide +kernel
theorem dX10_laws_56 : decode cX10_laws 56 = .ok (.invokevirtual 208, 3) := by decide +kernel
theorem dX10_laws_59 : decode cX10_laws 59 = .ok (.iconst (-1), 1) := by decide +kernel
theorem dX10_laws_60 : decode cX10_laws 60 = .ok (.if_icmp .ne 12, 3) := by decide +kernel
theorem dX10_laws_63 : decode cX10_laws 63 = .ok (.iload 4, 2) := by decide +kernel
theorem dX10_laws_65 : decode cX10_laws 65 = .ok (.iconst 1, 1) := by decide +kernel
theorem dX10_laws_66 : decode cX10_laws 66 = .ok (.iload 5, 2) := by decide +kernel
theorem dX10_laws_68 : decode cX10_laws 68 = .ok (.ishl, 1) := by decide +kernel
theorem dX10_laws_69 : decode cX10_laws 69 = .ok (.ior, 1) := by decide +kernel
theorem dX10_laws_70 : decode cX10_laws 70 = .ok (.istore 4, 2) := by decide +kernel
theorem dX10_laws_72 : decode cX10_laws 72 = .ok (.iinc 5 1, 3) := by decide +kernel
theorem dX10_laws_75 : decode cX10_laws 75 = .ok (.goto (-56), 3) := by decide +kernel
theorem dX10_laws_78 : decode cX10_laws 78 = .ok (.iload 4, 2) := by decide +kernel
theorem dX10_laws_80 : decode cX10_laws 80 = .ok (.ireturn, 1) := by decide +kernel
theorem dX10_film_0 : decode cX10_film 0 = .ok (.iload_n 1, 1) := by decide +kernel
theorem dX10_film_1 : decode cX10_film 1 = .ok (.invokestatic 219, 3) := by decide +kernel
theorem dX10_film_4 : decode cX10_film 4 = .ok (.ifCond .ne 6, 3) := by decide +kernel
theorem dX10_film_7 : decode cX10_film 7 = .ok (.bipush (-2), 2) := by decide +kernel
theorem dX10_film_9 : decode cX10_film 9 = .ok (.ireturn, 1) := by decide +kernel
theorem dX10_film_10 : decode cX10_film 10 = .ok (.iload_n 2, 1) := by decide +kernel
theorem dX10_film_11 : decode cX10_film 11 = .ok (.invokestatic 87, 3) := by decide +kernel
theorem dX10_film_14 : decode cX10_film 14 = .ok (.ifCond .ne 6, 3) := by decide +kernel
theorem dX10_film_17 : decode cX10_film 17 = .ok (.bipush (-5), 2) := by decide +kernel
theorem dX10_film_19 : decode cX10_film 19 = .ok (.ireturn, 1) := by decide +kernel
theorem dX10_film_20 : decode cX10_film 20 = .ok (.iload_n 3, 1) := by decide +kernel
theorem dX10_film_21 : decode cX10_film 21 = .ok (.iconst 0, 1) := by decide +kernel
theorem dX10_film_22 : decode cX10_film 22 = .ok (.bipush 20, 2) := by decide +kernel
theorem dX10_film_24 : decode cX10_film 24 = .ok (.invokestatic 91, 3) := by decide +kernel
theorem dX10_film_27 : decode cX10_film 27 = .ok (.ifCond .ne 6, 3) := by decide +kernel
theorem dX10_film_30 : decode cX10_film 30 = .ok (.bipush (-7), 2) := by decide +kernel
theorem dX10_film_32 : decode cX10_film 32 = .ok (.ireturn, 1) := by decide +kernel
theorem dX10_film_33 : decode cX10_film 33 = .ok (.aload_n 0, 1) := by decide +kernel
theorem dX10_film_34 : decode cX10_film 34 = .ok (.getfield 51, 3) := by decide +kernel
theorem dX10_film_37 : decode cX10_film 37 = .ok (.iload_n 1, 1) := by decide +kernel
theorem dX10_film_38 : decode cX10_film 38 = .ok (.aaload, 1) := by decide +kernel
theorem dX10_film_39 : decode cX10_film 39 = .ok (.iconst 1, 1) := by decide +kernel
theorem dX10_film_40 : decode cX10_film 40 = .ok (.iload_n 3, 1) := by decide +kernel
theorem dX10_film_41 : decode cX10_film 41 = .ok (.invokevirtual 222, 3) := by decide +kernel
theorem dX10_film_44 : decode cX10_film 44 = .ok (.aload_n 0, 1) := by decide +kernel
theorem dX10_film_45 : decode cX10_film 45 = .ok (.getfield 65, 3) := by decide +kernel
theorem dX10_film_48 : decode cX10_film 48 = .ok (.aload_n 0, 1) := by decide +kernel
theorem dX10_film_49 : decode cX10_film 49 = .ok (.getfield 61, 3) := by decide +kernel
theorem dX10_film_52 : decode cX10_film 52 = .ok (.invokevirtual 141, 3) := by decide +kernel
theorem dX10_film_55 : decode cX10_film 55 = .ok (.iconst 0, 1) := by decide +kernel
theorem dX10_film_56 : decode cX10_film 56 = .ok (.istore 4, 2) := by decide +kernel
theorem dX10_film_58 : decode cX10_film 58 = .ok (.iload 4, 2) := by decide +kernel
theorem dX10_film_60 : decode cX10_film 60 = .ok (.iload_n 3, 1) := by decide +kernel
theorem dX10_film_61 : decode cX10_film 61 = .ok (.if_icmp .ge 36, 3) := by decide +kernel
theorem dX10_film_64 : decode cX10_film 64 = .ok (.aload_n 0, 1) := by decide +kernel
theorem dX10_film_65 : decode cX10_film 65 = .ok (.getfield 65, 3) := by decide +kernel
theorem dX10_film_68 : decode cX10_film 68 = .ok (.invokevirtual 131, 3) := by decide +kernel
theorem dX10_film_71 : decode cX10_film 71 = .ok (.aload_n 0, 1) := by decide +kernel
theorem dX10_film_72 : decode cX10_film 72 = .ok (.getfield 51, 3) := by decide +kernel
theorem dX10_film_75 : decode cX10_film 75 = .ok (.iload_n 1, 1) := by decide +kernel
theorem dX10_film_76 : decode cX10_film 76 = .ok (.aaload, 1) := by decide +kernel
theorem dX10_film_77 : decode cX10_film 77 = .ok (.iload 4, 2) := by decide +kernel
theorem dX10_film_79 : decode cX10_film 79 = .ok (.aload_n 0, 1) := by decide +kernel
theorem dX10_film_80 : decode cX10_film 80 = .ok (.getfield 65, 3) := by decide +kernel
theorem dX10_film_83 : decode cX10_film 83 = .ok (.getfield 95, 3) := by decide +kernel
theorem dX10_film_86 : decode cX10_film 86 = .ok (.iload_n 2, 1) := by decide +kernel
theorem dX10_film_87 : decode cX10_film 87 = .ok (.iaload, 1) := by decide +kernel
theorem dX10_film_88 : decode cX10_film 88 = .ok (.invokevirtual 225, 3) := by decide +kernel
theorem dX10_film_91 : decode cX10_film 91 = .ok (.iinc 4 1, 3) := by decide +kernel
theorem dX10_film_94 : decode cX10_film 94 = .ok (.goto (-36), 3) := by decide +kernel
theorem dX10_film_97 : decode cX10_film 97 = .ok (.iload_n 3, 1) := by decide +kernel
theorem dX10_film_98 : decode cX10_film 98 = .ok (.ireturn, 1) := by decide +kernel
theorem dX10_drawn_0 : decode cX10_drawn 0 = .ok (.aload_n 0, 1) := by decide +kernel
theorem dX10_drawn_1 : decode cX10_drawn 1 = .ok (.getfield 61, 3) := by decide +kernel
theorem dX10_drawn_4 : decode cX10_drawn 4 = .ok (.iload_n 2, 1) := by decide +kernel
theorem dX10_drawn_5 : decode cX10_drawn 5 = .ok (.invokevirtual 117, 3) := by decide +kernel
theorem dX10_drawn_8 : decode cX10_drawn 8 = .ok (.ifCond .ne 6, 3) := by decide +kernel
theorem dX10_drawn_11 : decode cX10_drawn 11 = .ok (.bipush (-5), 2) := by decide +kernel
theorem dX10_drawn_13 : decode cX10_drawn 13 = .ok (.ireturn, 1) := by decide +kernel
theorem dX10_drawn_14 : decode cX10_drawn 14 = .ok (.iload_n 1, 1) := by decide +kernel
theorem dX10_drawn_15 : decode cX10_drawn 15 = .ok (.iconst 0, 1) := by decide +kernel
theorem dX10_drawn_16 : decode cX10_drawn 16 = .ok (.ldc 228, 2) := by decide +kernel
theorem dX10_drawn_18 : decode cX10_drawn 18 = .ok (.invokestatic 91, 3) := by decide +kernel
theorem dX10_drawn_21 : decode cX10_drawn 21 = .ok (.ifCond .eq 24, 3) := by decide +kernel
theorem dX10_drawn_24 : decode cX10_drawn 24 = .ok (.iload_n 3, 1) := by decide +kernel
theorem dX10_drawn_25 : decode cX10_drawn 25 = .ok (.iconst 0, 1) := by decide +kernel
theorem dX10_drawn_26 : decode cX10_drawn 26 = .ok (.sipush 3599, 3) := by decide +kernel
theorem dX10_drawn_29 : decode cX10_drawn 29 = .ok (.invokestatic 91, 3) := by decide +kernel
theorem dX10_drawn_32 : decode cX10_drawn 32 = .ok (.ifCond .eq 13, 3) := by decide +kernel
theorem dX10_drawn_35 : decode cX10_drawn 35 = .ok (.iload 4, 2) := by decide +kernel
theorem dX10_drawn_37 : decode cX10_drawn 37 = .ok (.iconst 0, 1) := by decide +kernel
theorem dX10_drawn_38 : decode cX10_drawn 38 = .ok (.iconst 1, 1) := by decide +kernel
theorem dX10_drawn_39 : decode cX10_drawn 39 = .ok (.invokestatic 91, 3) := by decide +kernel
theorem dX10_drawn_42 : decode cX10_drawn 42 = .ok (.ifCond .ne 6, 3) := by decide +kernel
theorem dX10_drawn_45 : decode cX10_drawn 45 = .ok (.bipush (-7), 2) := by decide +kernel
theorem dX10_drawn_47 : decode cX10_drawn 47 = .ok (.ireturn, 1) := by decide +kernel
theorem dX10_drawn_48 : decode cX10_drawn 48 = .ok (.aload_n 0, 1) := by decide +kernel
theorem dX10_drawn_49 : decode cX10_drawn 49 = .ok (.getfield 65, 3) := by decide +kernel
theorem dX10_drawn_52 : decode cX10_drawn 52 = .ok (.aload_n 0, 1) := by decide +kernel
theorem dX10_drawn_53 : decode cX10_drawn 53 = .ok (.getfield 61, 3) := by decide +kernel
theorem dX10_drawn_56 : decode cX10_drawn 56 = .ok (.invokevirtual 141, 3) := by decide +kernel
theorem dX10_drawn_59 : decode cX10_drawn 59 = .ok (.aload_n 0, 1) := by decide +kernel
theorem dX10_drawn_60 : decode cX10_drawn 60 = .ok (.getfield 65, 3) := by decide +kernel
theorem dX10_drawn_63 : decode cX10_drawn 63 = .ok (.iload_n 1, 1) := by decide +kernel
theorem dX10_drawn_64 : decode cX10_drawn 64 = .ok (.iload_n 2, 1) := by decide +kernel
theorem dX10_drawn_65 : decode cX10_drawn 65 = .ok (.iload_n 3, 1) := by decide +kernel
theorem dX10_drawn_66 : decode cX10_drawn 66 = .ok (.bipush 100, 2) := by decide +kernel
theorem dX10_drawn_68 : decode cX10_drawn 68 = .ok (.idiv, 1) := by decide +kernel
theorem dX10_drawn_69 : decode cX10_drawn 69 = .ok (.iload_n 3, 1) := by decide +kernel
theorem dX10_drawn_70 : decode cX10_drawn 70 = .ok (.bipush 100, 2) := by decide +kernel
theorem dX10_drawn_72 : decode cX10_drawn 72 = .ok (.irem, 1) := by decide +kernel
theorem dX10_drawn_73 : decode cX10_drawn 73 = .ok (.invokevirtual 229, 3) := by decide +kernel
theorem dX10_drawn_76 : decode cX10_drawn 76 = .ok (.istore 5, 2) := by decide +kernel
theorem dX10_drawn_78 : decode cX10_drawn 78 = .ok (.iload 4, 2) := by decide +kernel
theorem dX10_drawn_80 : decode cX10_drawn 80 = .ok (.ifCond .ne 8, 3) := by decide +kernel
theorem dX10_drawn_83 : decode cX10_drawn 83 = .ok (.iload 5, 2) := by decide +kernel
theorem dX10_drawn_85 : decode cX10_drawn 85 = .ok (.goto 10, 3) := by decide +kernel
theorem dX10_drawn_88 : decode cX10_drawn 88 = .ok (.aload_n 0, 1) := by decide +kernel
theorem dX10_drawn_89 : decode cX10_drawn 89 = .ok (.getfield 65, 3) := by decide +kernel
theorem dX10_drawn_92 : decode cX10_drawn 92 = .ok (.getfield 232, 3) := by decide +kernel
theorem dX10_drawn_95 : decode cX10_drawn 95 = .ok (.ireturn, 1) := by decide +kernel
theorem dX10_odds_0 : decode cX10_odds 0 = .ok (.iload_n 1, 1) := by decide +kernel
theorem dX10_odds_1 : decode cX10_odds 1 = .ok (.iconst 0, 1) := by decide +kernel
theorem dX10_odds_2 : decode cX10_odds 2 = .ok (.ldc 235, 2) := by decide +kernel
theorem dX10_odds_4 : decode cX10_odds 4 = .ok (.invokestatic 91, 3) := by decide +kernel
theorem dX10_odds_7 : decode cX10_odds 7 = .ok (.ifCond .eq 59, 3) := by decide +kernel
theorem dX10_odds_10 : decode cX10_odds 10 = .ok (.iload_n 1, 1) := by decide +kernel
theorem dX10_odds_11 : decode cX10_odds 11 = .ok (.bipush 100, 2) := by decide +kernel
theorem dX10_odds_13 : decode cX10_odds 13 = .ok (.irem, 1) := by decide +kernel
theorem dX10_odds_14 : decode cX10_odds 14 = .ok (.iconst 1, 1) := by decide +kernel
theorem dX10_odds_15 : decode cX10_odds 15 = .ok (.bipush 40, 2) := by decide +kernel
theorem dX10_odds_17 : decode cX10_odds 17 = .ok (.invokestatic 91, 3) := by decide +kernel
theorem dX10_odds_20 : decode cX10_odds 20 = .ok (.ifCond .eq 46, 3) := by decide +kernel
theorem dX10_odds_23 : decode cX10_odds 23 = .ok (.aload_n 0, 1) := by decide +kernel
theorem dX10_odds_24 : decode cX10_odds 24 = .ok (.getfield 61, 3) := by decide +kernel
theorem dX10_odds_27 : decode cX10_odds 27 = .ok (.iload_n 2, 1) := by decide +kernel
theorem dX10_odds_28 : decode cX10_odds 28 = .ok (.invokevirtual 117, 3) := by decide +kernel
theorem dX10_odds_31 : decode cX10_odds 31 = .ok (.ifCond .eq 35, 3) := by decide +kernel
theorem dX10_odds_34 : decode cX10_odds 34 = .ok (.iload_n 3, 1) := by decide +kernel
theorem dX10_odds_35 : decode cX10_odds 35 = .ok (.iconst 0, 1) := by decide +kernel
theorem dX10_odds_36 : decode cX10_odds 36 = .ok (.sipush 3599, 3) := by decide +kernel
theorem dX10_odds_39 : decode cX10_odds 39 = .ok (.invokestatic 91, 3) := by decide +kernel
theorem dX10_odds_42 : decode cX10_odds 42 = .ok (.ifCond .eq 24, 3) := by decide +kernel
theorem dX10_odds_45 : decode cX10_odds 45 = .ok (.iload 4, 2) := by decide +kernel
theorem dX10_odds_47 : decode cX10_odds 47 = .ok (.iconst 0, 1) := by decide +kernel
theorem dX10_odds_48 : decode cX10_odds 48 = .ok (.ldc 228, 2) := by decide +kernel
theorem dX10_odds_50 : decode cX10_odds 50 = .ok (.invokestatic 91, 3) := by decide +kernel
theorem dX10_odds_53 : decode cX10_odds 53 = .ok (.ifCond .eq 13, 3) := by decide +kernel
theorem dX10_odds_56 : decode cX10_odds 56 = .ok (.iload 5, 2) := by decide +kernel
theorem dX10_odds_58 : decode cX10_odds 58 = .ok (.iconst 0, 1) := by decide +kernel
theorem dX10_odds_59 : decode cX10_odds 59 = .ok (.iconst 1, 1) := by decide +kernel
theorem dX10_odds_60 : decode cX10_odds 60 = .ok (.invokestatic 91, 3) := by decide +kernel
theorem dX10_odds_63 : decode cX10_odds 63 = .ok (.ifCond .ne 7, 3) := by decide +kernel
theorem dX10_odds_66 : decode cX10_odds 66 = .ok (.ldc2_w 169, 3) := by decide +kernel
theorem dX10_odds_69 : decode cX10_odds 69 = .ok (.lreturn, 1) := by decide +kernel
theorem dX10_odds_70 : decode cX10_odds 70 = .ok (.iload_n 1, 1) := by decide +kernel
theorem dX10_odds_71 : decode cX10_odds 71 = .ok (.bipush 100, 2) := by decide +kernel
theorem dX10_odds_73 : decode cX10_odds 73 = .ok (.irem, 1) := by decide +kernel
theorem dX10_odds_74 : decode cX10_odds 74 = .ok (.istore 6, 2) := by decide +kernel
theorem dX10_odds_76 : decode cX10_odds 76 = .ok (.iconst 0, 1) := by decide +kernel
theorem dX10_odds_77 : decode cX10_odds 77 = .ok (.istore 7, 2) := by decide +kernel
theorem dX10_odds_79 : decode cX10_odds 79 = .ok (.iconst 0, 1) := by decide +kernel
theorem dX10_odds_80 : decode cX10_odds 80 = .ok (.istore 8, 2) := by decide +kernel
theorem dX10_odds_82 : decode cX10_odds 82 = .ok (.iload 8, 2) := by decide +kernel
theorem dX10_odds_84 : decode cX10_odds 84 = .ok (.iload 6, 2) := by decide +kernel
theorem dX10_odds_86 : decode cX10_odds 86 = .ok (.if_icmp .ge 51, 3) := by decide +kernel
theorem dX10_odds_89 : decode cX10_odds 89 = .ok (.aload_n 0, 1) := by decide +kernel
theorem dX10_odds_90 : decode cX10_odds 90 = .ok (.getfield 65, 3) := by decide +kernel
theorem dX10_odds_93 : decode cX10_odds 93 = .ok (.aload_n 0, 1) := by decide +kernel
theorem dX10_odds_94 : decode cX10_odds 94 = .ok (.getfield 61, 3) := by decide +kernel
theorem dX10_odds_97 : decode cX10_odds 97 = .ok (.invokevirtual 141, 3) := by decide +kernel
theorem dX10_odds_100 : decode cX10_odds 100 = .ok (.aload_n 0, 1) := by decide +kernel
theorem dX10_odds_101 : decode cX10_odds 101 = .ok (.getfield 65, 3) := by decide +kernel
theorem dX10_odds_104 : decode cX10_odds 104 = .ok (.iload_n 1, 1) := by decide +kernel
theorem dX10_odds_105 : decode cX10_odds 105 = .ok (.bipush 100, 2) := by decide +kernel
theorem dX10_odds_107 : decode cX10_odds 107 = .ok (.idiv, 1) := by decide +kernel
theorem dX10_odds_108 : decode cX10_odds 108 = .ok (.iload 8, 2) := by decide +kernel
theorem dX10_odds_110 : decode cX10_odds 110 = .ok (.iadd, 1) := by decide +kernel
theorem dX10_odds_111 : decode cX10_odds 111 = .ok (.iload_n 2, 1) := by decide +kernel
theorem dX10_odds_112 : decode cX10_odds 112 = .ok (.iload_n 3, 1) := by decide +kernel
theorem dX10_odds_113 : decode cX10_odds 113 = .ok (.bipush 100, 2) := by decide +kernel
theorem dX10_odds_115 : decode cX10_odds 115 = .ok (.idiv, 1) := by decide +kernel
theorem dX10_odds_116 : decode cX10_odds 116 = .ok (.iload_n 3, 1) := by decide +kernel
theorem dX10_odds_117 : decode cX10_odds 117 = .ok (.bipush 100, 2) := by decide +kernel
theorem dX10_odds_119 : decode cX10_odds 119 = .ok (.irem, 1) := by decide +kernel
theorem dX10_odds_120 : decode cX10_odds 120 = .ok (.invokevirtual 229, 3) := by decide +kernel
theorem dX10_odds_123 : decode cX10_odds 123 = .ok (.iload 4, 2) := by decide +kernel
theorem dX10_odds_125 : decode cX10_odds 125 = .ok (.if_icmp .lt 6, 3) := by decide +kernel
theorem dX10_odds_128 : decode cX10_odds 128 = .ok (.iinc 7 1, 3) := by decide +kernel
theorem dX10_odds_131 : decode cX10_odds 131 = .ok (.iinc 8 1, 3) := by decide +kernel
theorem dX10_odds_134 : decode cX10_odds 134 = .ok (.goto (-52), 3) := by decide +kernel
theorem dX10_odds_137 : decode cX10_odds 137 = .ok (.iload 7, 2) := by decide +kernel
theorem dX10_odds_139 : decode cX10_odds 139 = .ok (.iload 6, 2) := by decide +kernel
theorem dX10_odds_141 : decode cX10_odds 141 = .ok (.iload 5, 2) := by decide +kernel
theorem dX10_odds_143 : decode cX10_odds 143 = .ok (.invokestatic 236, 3) := by decide +kernel
theorem dX10_odds_146 : decode cX10_odds 146 = .ok (.lreturn, 1) := by decide +kernel
theorem dX10_share_0 : decode cX10_share 0 = .ok (.aload_n 0, 1) := by decide +kernel
theorem dX10_share_1 : decode cX10_share 1 = .ok (.getfield 61, 3) := by decide +kernel
theorem dX10_share_4 : decode cX10_share 4 = .ok (.iconst 0, 1) := by decide +kernel
theorem dX10_share_5 : decode cX10_share 5 = .ok (.bipush 36, 2) := by decide +kernel
theorem dX10_share_7 : decode cX10_share 7 = .ok (.invokevirtual 77, 3) := by decide +kernel
theorem dX10_share_10 : decode cX10_share 10 = .ok (.istore_n 3, 1) := by decide +kernel
theorem dX10_share_11 : decode cX10_share 11 = .ok (.iload_n 1, 1) := by decide +kernel
theorem dX10_share_12 : decode cX10_share 12 = .ok (.iconst 0, 1) := by decide +kernel
theorem dX10_share_13 : decode cX10_share 13 = .ok (.iconst 5, 1) := by decide +kernel
theorem dX10_share_14 : decode cX10_share 14 = .ok (.invokestatic 91, 3) := by decide +kernel
theorem dX10_share_17 : decode cX10_share 17 = .ok (.ifCond .eq 16, 3) := by decide +kernel
theorem dX10_share_20 : decode cX10_share 20 = .ok (.iload_n 2, 1) := by decide +kernel
theorem dX10_share_21 : decode cX10_share 21 = .ok (.iconst 0, 1) := by decide +kernel
theorem dX10_share_22 : decode cX10_share 22 = .ok (.iconst 1, 1) := by decide +kernel
theorem dX10_share_23 : decode cX10_share 23 = .ok (.invokestatic 91, 3) := by decide +kernel
theorem dX10_share_26 : decode cX10_share 26 = .ok (.ifCond .eq 7, 3) := by decide +kernel
theorem dX10_share_29 : decode cX10_share 29 = .ok (.iload_n 3, 1) := by decide +kernel
theorem dX10_share_30 : decode cX10_share 30 = .ok (.ifCond .ne 7, 3) := by decide +kernel
theorem dX10_share_33 : decode cX10_share 33 = .ok (.ldc2_w 169, 3) := by decide +kernel
theorem dX10_share_36 : decode cX10_share 36 = .ok (.lreturn, 1) := by decide +kernel
theorem dX10_share_37 : decode cX10_share 37 = .ok (.aload_n 0, 1) := by decide +kernel
theorem dX10_share_38 : decode cX10_share 38 = .ok (.getfield 61, 3) := by decide +kernel
theorem dX10_share_41 : decode cX10_share 41 = .ok (.iload_n 1, 1) := by decide +kernel
theorem dX10_share_42 : decode cX10_share 42 = .ok (.bipush 6, 2) := by decide +kernel
theorem dX10_share_44 : decode cX10_share 44 = .ok (.imul, 1) := by decide +kernel
theorem dX10_share_45 : decode cX10_share 45 = .ok (.iload_n 1, 1) := by decide +kernel
theorem dX10_share_46 : decode cX10_share 46 = .ok (.bipush 6, 2) := by decide +kernel
theorem dX10_share_48 : decode cX10_share 48 = .ok (.imul, 1) := by decide +kernel
theorem dX10_share_49 : decode cX10_share 49 = .ok (.bipush 6, 2) := by decide +kernel
theorem dX10_share_51 : decode cX10_share 51 = .ok (.iadd, 1) := by decide +kernel
theorem dX10_share_52 : decode cX10_share 52 = .ok (.invokevirtual 77, 3) := by decide +kernel
theorem dX10_share_55 : decode cX10_share 55 = .ok (.iload_n 3, 1) := by decide +kernel
theorem dX10_share_56 : decode cX10_share 56 = .ok (.iload_n 2, 1) := by decide +kernel
theorem dX10_share_57 : decode cX10_share 57 = .ok (.invokestatic 236, 3) := by decide +kernel
theorem dX10_share_60 : decode cX10_share 60 = .ok (.lreturn, 1) := by decide +kernel
theorem dX10_image_0 : decode cX10_image 0 = .ok (.aload_n 0, 1) := by decide +kernel
theorem dX10_image_1 : decode cX10_image 1 = .ok (.getfield 68, 3) := by decide +kernel
theorem dX10_image_4 : decode cX10_image 4 = .ok (.aload_n 0, 1) := by decide +kernel
theorem dX10_image_5 : decode cX10_image 5 = .ok (.getfield 61, 3) := by decide +kernel
theorem dX10_image_8 : decode cX10_image 8 = .ok (.invokevirtual 141, 3) := by decide +kernel
theorem dX10_image_11 : decode cX10_image 11 = .ok (.aload_n 0, 1) := by decide +kernel
theorem dX10_image_12 : decode cX10_image 12 = .ok (.iconst 1, 1) := by decide +kernel
theorem dX10_image_13 : decode cX10_image 13 = .ok (.putfield 240, 3) := by decide +kernel
theorem dX10_image_16 : decode cX10_image 16 = .ok (.aload_n 0, 1) := by decide +kernel
theorem dX10_image_17 : decode cX10_image 17 = .ok (.getfield 61, 3) := by decide +kernel
theorem dX10_image_20 : decode cX10_image 20 = .ok (.getfield 71, 3) := by decide +kernel
theorem dX10_image_23 : decode cX10_image 23 = .ok (.ireturn, 1) := by decide +kernel
theorem dX10_back_0 : decode cX10_back 0 = .ok (.aload_n 0, 1) := by decide +kernel
theorem dX10_back_1 : decode cX10_back 1 = .ok (.getfield 240, 3) := by decide +kernel
theorem dX10_back_4 : decode cX10_back 4 = .ok (.ifCond .ne 6, 3) := by decide +kernel
theorem dX10_back_7 : decode cX10_back 7 = .ok (.bipush (-3), 2) := by decide +kernel
theorem dX10_back_9 : decode cX10_back 9 = .ok (.ireturn, 1) := by decide +kernel
theorem dX10_back_10 : decode cX10_back 10 = .ok (.aload_n 0, 1) := by decide +kernel
theorem dX10_back_11 : decode cX10_back 11 = .ok (.getfield 61, 3) := by decide +kernel
theorem dX10_back_14 : decode cX10_back 14 = .ok (.aload_n 0, 1) := by decide +kernel
theorem dX10_back_15 : decode cX10_back 15 = .ok (.getfield 68, 3) := by decide +kernel
theorem dX10_back_18 : decode cX10_back 18 = .ok (.invokevirtual 141, 3) := by decide +kernel
theorem dX10_back_21 : decode cX10_back 21 = .ok (.aload_n 0, 1) := by decide +kernel
theorem dX10_back_22 : decode cX10_back 22 = .ok (.getfield 61, 3) := by decide +kernel
theorem dX10_back_25 : decode cX10_back 25 = .ok (.getfield 71, 3) := by decide +kernel
theorem dX10_back_28 : decode cX10_back 28 = .ok (.ireturn, 1) := by decide +kernel
theorem dX10_sheet_0 : decode cX10_sheet 0 = .ok (.iload_n 1, 1) := by decide +kernel
theorem dX10_sheet_1 : decode cX10_sheet 1 = .ok (.invokestatic 219, 3) := by decide +kernel
theorem dX10_sheet_4 : decode cX10_sheet 4 = .ok (.ifCond .eq 12, 3) := by decide +kernel
theorem dX10_sheet_7 : decode cX10_sheet 7 = .ok (.iload_n 2, 1) := by decide +kernel
theorem dX10_sheet_8 : decode cX10_sheet 8 = .ok (.iconst (-1), 1) := by decide +kernel
theorem dX10_sheet_9 : decode cX10_sheet 9 = .ok (.iconst 2, 1) := by decide +kernel
theorem dX10_sheet_10 : decode cX10_sheet 10 = .ok (.invokestatic 91, 3) := by decide +kernel
theorem dX10_sheet_13 : decode cX10_sheet 13 = .ok (.ifCond .ne 6, 3) := by decide +kernel
theorem dX10_sheet_16 : decode cX10_sheet 16 = .ok (.bipush (-2), 2) := by decide +kernel
theorem dX10_sheet_18 : decode cX10_sheet 18 = .ok (.ireturn, 1) := by decide +kernel
theorem dX10_sheet_19 : decode cX10_sheet 19 = .ok (.iload_n 2, 1) := by decide +kernel
theorem dX10_sheet_20 : decode cX10_sheet 20 = .ok (.iconst (-1), 1) := by decide +kernel
theorem dX10_sheet_21 : decode cX10_sheet 21 = .ok (.if_icmp .ne 16, 3) := by decide +kernel
theorem dX10_sheet_24 : decode cX10_sheet 24 = .ok (.aload_n 0, 1) := by decide +kernel
theorem dX10_sheet_25 : decode cX10_sheet 25 = .ok (.getfield 51, 3) := by decide +kernel
theorem dX10_sheet_28 : decode cX10_sheet 28 = .ok (.iload_n 1, 1) := by decide +kernel
theorem dX10_sheet_29 : decode cX10_sheet 29 = .ok (.aaload, 1) := by decide +kernel
theorem dX10_sheet_30 : decode cX10_sheet 30 = .ok (.iconst (-1), 1) := by decide +kernel
theorem dX10_sheet_31 : decode cX10_sheet 31 = .ok (.iconst 0, 1) := by decide +kernel
theorem dX10_sheet_32 : decode cX10_sheet 32 = .ok (.invokevirtual 222, 3) := by decide +kernel
theorem dX10_sheet_35 : decode cX10_sheet 35 = .ok (.iconst 1, 1) := by decide +kernel
theorem dX10_sheet_36 : decode cX10_sheet 36 = .ok (.ireturn, 1) := by decide +kernel
theorem dX10_sheet_37 : decode cX10_sheet 37 = .ok (.iload_n 3, 1) := by decide +kernel
theorem dX10_sheet_38 : decode cX10_sheet 38 = .ok (.bipush 40, 2) := by decide +kernel
theorem dX10_sheet_40 : decode cX10_sheet 40 = .ok (.if_icmp .le 6, 3) := by decide +kernel
theorem dX10_sheet_43 : decode cX10_sheet 43 = .ok (.bipush (-2), 2) := by decide +kernel
theorem dX10_sheet_45 : decode cX10_sheet 45 = .ok (.ireturn, 1) := by decide +kernel
theorem dX10_sheet_46 : decode cX10_sheet 46 = .ok (.iload_n 3, 1) := by decide +kernel
theorem dX10_sheet_47 : decode cX10_sheet 47 = .ok (.ifCond .ge 6, 3) := by decide +kernel
theorem dX10_sheet_50 : decode cX10_sheet 50 = .ok (.bipush (-14), 2) := by decide +kernel
theorem dX10_sheet_52 : decode cX10_sheet 52 = .ok (.ireturn, 1) := by decide +kernel
theorem dX10_sheet_53 : decode cX10_sheet 53 = .ok (.aload_n 0, 1) := by decide +kernel
theorem dX10_sheet_54 : decode cX10_sheet 54 = .ok (.getfield 51, 3) := by decide +kernel
theorem dX10_sheet_57 : decode cX10_sheet 57 = .ok (.iload_n 1, 1) := by decide +kernel
theorem dX10_sheet_58 : decode cX10_sheet 58 = .ok (.aaload, 1) := by decide +kernel
theorem dX10_sheet_59 : decode cX10_sheet 59 = .ok (.iload_n 2, 1) := by decide +kernel
theorem dX10_sheet_60 : decode cX10_sheet 60 = .ok (.iload_n 3, 1) := by decide +kernel
theorem dX10_sheet_61 : decode cX10_sheet 61 = .ok (.invokevirtual 222, 3) := by decide +kernel
theorem dX10_sheet_64 : decode cX10_sheet 64 = .ok (.iconst 1, 1) := by decide +kernel
theorem dX10_sheet_65 : decode cX10_sheet 65 = .ok (.ireturn, 1) := by decide +kernel
theorem dX10_cell_0 : decode cX10_cell 0 = .ok (.iload_n 1, 1) := by decide +kernel
theorem dX10_cell_1 : decode cX10_cell 1 = .ok (.invokestatic 219, 3) := by decide +kernel
theorem dX10_cell_4 : decode cX10_cell 4 = .ok (.ifCond .ne 6, 3) := by decide +kernel
theorem dX10_cell_7 : decode cX10_cell 7 = .ok (.bipush (-2), 2) := by decide +kernel
theorem dX10_cell_9 : decode cX10_cell 9 = .ok (.ireturn, 1) := by decide +kernel
theorem dX10_cell_10 : decode cX10_cell 10 = .ok (.aload_n 0, 1) := by decide +kernel
theorem dX10_cell_11 : decode cX10_cell 11 = .ok (.getfield 51, 3) := by decide +kernel
theorem dX10_cell_14 : decode cX10_cell 14 = .ok (.iload_n 1, 1) := by decide +kernel
theorem dX10_cell_15 : decode cX10_cell 15 = .ok (.aaload, 1) := by decide +kernel
theorem dX10_cell_16 : decode cX10_cell 16 = .ok (.getfield 244, 3) := by decide +kernel
theorem dX10_cell_19 : decode cX10_cell 19 = .ok (.iconst (-1), 1) := by decide +kernel
theorem dX10_cell_20 : decode cX10_cell 20 = .ok (.if_icmp .ne 6, 3) := by decide +kernel
theorem dX10_cell_23 : decode cX10_cell 23 = .ok (.bipush (-11), 2) := by decide +kernel
theorem dX10_cell_25 : decode cX10_cell 25 = .ok (.ireturn, 1) := by decide +kernel
theorem dX10_cell_26 : decode cX10_cell 26 = .ok (.iload_n 2, 1) := by decide +kernel
theorem dX10_cell_27 : decode cX10_cell 27 = .ok (.iconst 0, 1) := by decide +kernel
theorem dX10_cell_28 : decode cX10_cell 28 = .ok (.aload_n 0, 1) := by decide +kernel
theorem dX10_cell_29 : decode cX10_cell 29 = .ok (.getfield 51, 3) := by decide +kernel
theorem dX10_cell_32 : decode cX10_cell 32 = .ok (.iload_n 1, 1) := by decide +kernel
theorem dX10_cell_33 : decode cX10_cell 33 = .ok (.aaload, 1) := by decide +kernel
theorem dX10_cell_34 : decode cX10_cell 34 = .ok (.getfield 155, 3) := by decide +kernel
theorem dX10_cell_37 : decode cX10_cell 37 = .ok (.iconst 1, 1) := by decide +kernel
theorem dX10_cell_38 : decode cX10_cell 38 = .ok (.isub, 1) := by decide +kernel
theorem dX10_cell_39 : decode cX10_cell 39 = .ok (.invokestatic 91, 3) := by decide +kernel
theorem dX10_cell_42 : decode cX10_cell 42 = .ok (.ifCond .ne 6, 3) := by decide +kernel
theorem dX10_cell_45 : decode cX10_cell 45 = .ok (.bipush (-12), 2) := by decide +kernel
theorem dX10_cell_47 : decode cX10_cell 47 = .ok (.ireturn, 1) := by decide +kernel
theorem dX10_cell_48 : decode cX10_cell 48 = .ok (.aload_n 0, 1) := by decide +kernel
theorem dX10_cell_49 : decode cX10_cell 49 = .ok (.getfield 51, 3) := by decide +kernel
theorem dX10_cell_52 : decode cX10_cell 52 = .ok (.iload_n 1, 1) := by decide +kernel
theorem dX10_cell_53 : decode cX10_cell 53 = .ok (.aaload, 1) := by decide +kernel
theorem dX10_cell_54 : decode cX10_cell 54 = .ok (.iload_n 2, 1) := by decide +kernel
theorem dX10_cell_55 : decode cX10_cell 55 = .ok (.iload_n 3, 1) := by decide +kernel
theorem dX10_cell_56 : decode cX10_cell 56 = .ok (.invokevirtual 225, 3) := by decide +kernel
theorem dX10_cell_59 : decode cX10_cell 59 = .ok (.iconst 1, 1) := by decide +kernel
theorem dX10_cell_60 : decode cX10_cell 60 = .ok (.ireturn, 1) := by decide +kernel
theorem dX10_copy_0 : decode cX10_copy 0 = .ok (.iload_n 1, 1) := by decide +kernel
theorem dX10_copy_1 : decode cX10_copy 1 = .ok (.invokestatic 219, 3) := by decide +kernel
theorem dX10_copy_4 : decode cX10_copy 4 = .ok (.ifCond .eq 10, 3) := by decide +kernel
theorem dX10_copy_7 : decode cX10_copy 7 = .ok (.iload_n 3, 1) := by decide +kernel
theorem dX10_copy_8 : decode cX10_copy 8 = .ok (.invokestatic 219, 3) := by decide +kernel
theorem dX10_copy_11 : decode cX10_copy 11 = .ok (.ifCond .ne 6, 3) := by decide +kernel
theorem dX10_copy_14 : decode cX10_copy 14 = .ok (.bipush (-2), 2) := by decide +kernel
theorem dX10_copy_16 : decode cX10_copy 16 = .ok (.ireturn, 1) := by decide +kernel
theorem dX10_copy_17 : decode cX10_copy 17 = .ok (.aload_n 0, 1) := by decide +kernel
theorem dX10_copy_18 : decode cX10_copy 18 = .ok (.getfield 51, 3) := by decide +kernel
theorem dX10_copy_21 : decode cX10_copy 21 = .ok (.iload_n 1, 1) := by decide +kernel
theorem dX10_copy_22 : decode cX10_copy 22 = .ok (.aaload, 1) := by decide +kernel
theorem dX10_copy_23 : decode cX10_copy 23 = .ok (.astore 6, 2) := by decide +kernel
theorem dX10_copy_25 : decode cX10_copy 25 = .ok (.aload_n 0, 1) := by decide +kernel
theorem dX10_copy_26 : decode cX10_copy 26 = .ok (.getfield 51, 3) := by decide +kernel
theorem dX10_copy_29 : decode cX10_copy 29 = .ok (.iload_n 3, 1) := by decide +kernel
theorem dX10_copy_30 : decode cX10_copy 30 = .ok (.aaload, 1) := by decide +kernel
theorem dX10_copy_31 : decode cX10_copy 31 = .ok (.astore 7, 2) := by decide +kernel
theorem dX10_copy_33 : decode cX10_copy 33 = .ok (.aload 6, 2) := by decide +kernel
theorem dX10_copy_35 : decode cX10_copy 35 = .ok (.getfield 244, 3) := by decide +kernel
theorem dX10_copy_38 : decode cX10_copy 38 = .ok (.iconst (-1), 1) := by decide +kernel
theorem dX10_copy_39 : decode cX10_copy 39 = .ok (.if_icmp .eq 12, 3) := by decide +kernel
theorem dX10_copy_42 : decode cX10_copy 42 = .ok (.aload 7, 2) := by decide +kernel
theorem dX10_copy_44 : decode cX10_copy 44 = .ok (.getfield 244, 3) := by decide +kernel
theorem dX10_copy_47 : decode cX10_copy 47 = .ok (.iconst (-1), 1) := by decide +kernel
theorem dX10_copy_48 : decode cX10_copy 48 = .ok (.if_icmp .ne 6, 3) := by decide +kernel
theorem dX10_copy_51 : decode cX10_copy 51 = .ok (.bipush (-11), 2) := by decide +kernel
theorem dX10_copy_53 : decode cX10_copy 53 = .ok (.ireturn, 1) := by decide +kernel
theorem dX10_copy_54 : decode cX10_copy 54 = .ok (.aload 6, 2) := by decide +kernel
theorem dX10_copy_56 : decode cX10_copy 56 = .ok (.getfield 244, 3) := by decide +kernel
theorem dX10_copy_59 : decode cX10_copy 59 = .ok (.aload 7, 2) := by decide +kernel
theorem dX10_copy_61 : decode cX10_copy 61 = .ok (.getfield 244, 3) := by decide +kernel
theorem dX10_copy_64 : decode cX10_copy 64 = .ok (.if_icmp .eq 6, 3) := by decide +kernel
theorem dX10_copy_67 : decode cX10_copy 67 = .ok (.bipush (-13), 2) := by decide +kernel
theorem dX10_copy_69 : decode cX10_copy 69 = .ok (.ireturn, 1) := by decide +kernel
theorem dX10_copy_70 : decode cX10_copy 70 = .ok (.aload 6, 2) := by decide +kernel
theorem dX10_copy_72 : decode cX10_copy 72 = .ok (.iload_n 2, 1) := by decide +kernel
theorem dX10_copy_73 : decode cX10_copy 73 = .ok (.iload 5, 2) := by decide +kernel
theorem dX10_copy_75 : decode cX10_copy 75 = .ok (.invokevirtual 247, 3) := by decide +kernel
theorem dX10_copy_78 : decode cX10_copy 78 = .ok (.ifCond .eq 15, 3) := by decide +kernel
theorem dX10_copy_81 : decode cX10_copy 81 = .ok (.aload 7, 2) := by decide +kernel
theorem dX10_copy_83 : decode cX10_copy 83 = .ok (.iload 4, 2) := by decide +kernel
theorem dX10_copy_85 : decode cX10_copy 85 = .ok (.iload 5, 2) := by decide +kernel
theorem dX10_copy_87 : decode cX10_copy 87 = .ok (.invokevirtual 247, 3) := by decide +kernel
theorem dX10_copy_90 : decode cX10_copy 90 = .ok (.ifCond .ne 6, 3) := by decide +kernel
theorem dX10_copy_93 : decode cX10_copy 93 = .ok (.bipush (-12), 2) := by decide +kernel
theorem dX10_copy_95 : decode cX10_copy 95 = .ok (.ireturn, 1) := by decide +kernel
theorem dX10_copy_96 : decode cX10_copy 96 = .ok (.aload 6, 2) := by decide +kernel
theorem dX10_copy_98 : decode cX10_copy 98 = .ok (.getfield 156, 3) := by decide +kernel
theorem dX10_copy_101 : decode cX10_copy 101 = .ok (.iload_n 2, 1) := by decide +kernel
theorem dX10_copy_102 : decode cX10_copy 102 = .ok (.aload 7, 2) := by decide +kernel
theorem dX10_copy_104 : decode cX10_copy 104 = .ok (.getfield 156, 3) := by decide +kernel
theorem dX10_copy_107 : decode cX10_copy 107 = .ok (.iload 4, 2) := by decide +kernel
theorem dX10_copy_109 : decode cX10_copy 109 = .ok (.iload 5, 2) := by decide +kernel
theorem dX10_copy_111 : decode cX10_copy 111 = .ok (.invokestatic 251, 3) := by decide +kernel
theorem dX10_copy_114 : decode cX10_copy 114 = .ok (.iload 5, 2) := by decide +kernel
theorem dX10_copy_116 : decode cX10_copy 116 = .ok (.ireturn, 1) := by decide +kernel
theorem dX10_peopleBy_0 : decode cX10_peopleBy 0 = .ok (.iload_n 1, 1) := by decide +kernel
theorem dX10_peopleBy_1 : decode cX10_peopleBy 1 = .ok (.invokestatic 219, 3) := by decide +kernel
theorem dX10_peopleBy_4 : decode cX10_peopleBy 4 = .ok (.ifCond .eq 23, 3) := by decide +kernel
theorem dX10_peopleBy_7 : decode cX10_peopleBy 7 = .ok (.iload_n 2, 1) := by decide +kernel
theorem dX10_peopleBy_8 : decode cX10_peopleBy 8 = .ok (.iconst 0, 1) := by decide +kernel
theorem dX10_peopleBy_9 : decode cX10_peopleBy 9 = .ok (.iconst 2, 1) := by decide +kernel
theorem dX10_peopleBy_10 : decode cX10_peopleBy 10 = .ok (.invokestatic 91, 3) := by decide +kernel
theorem dX10_peopleBy_13 : decode cX10_peopleBy 13 = .ok (.ifCond .eq 14, 3) := by decide +kernel
theorem dX10_peopleBy_16 : decode cX10_peopleBy 16 = .ok (.iload 4, 2) := by decide +kernel
theorem dX10_peopleBy_18 : decode cX10_peopleBy 18 = .ok (.iconst 0, 1) := by decide +kernel
theorem dX10_peopleBy_19 : decode cX10_peopleBy 19 = .ok (.bipush 6, 2) := by decide +kernel
theorem dX10_peopleBy_21 : decode cX10_peopleBy 21 = .ok (.invokestatic 91, 3) := by decide +kernel
theorem dX10_peopleBy_24 : decode cX10_peopleBy 24 = .ok (.ifCond .ne 6, 3) := by decide +kernel
theorem dX10_peopleBy_27 : decode cX10_peopleBy 27 = .ok (.bipush (-2), 2) := by decide +kernel
theorem dX10_peopleBy_29 : decode cX10_peopleBy 29 = .ok (.ireturn, 1) := by decide +kernel
theorem dX10_peopleBy_30 : decode cX10_peopleBy 30 = .ok (.aload_n 0, 1) := by decide +kernel
theorem dX10_peopleBy_31 : decode cX10_peopleBy 31 = .ok (.getfield 51, 3) := by decide +kernel
theorem dX10_peopleBy_34 : decode cX10_peopleBy 34 = .ok (.iload_n 1, 1) := by decide +kernel
theorem dX10_peopleBy_35 : decode cX10_peopleBy 35 = .ok (.aaload, 1) := by decide +kernel
theorem dX10_peopleBy_36 : decode cX10_peopleBy 36 = .ok (.astore 5, 2) := by decide +kernel
theorem dX10_peopleBy_38 : decode cX10_peopleBy 38 = .ok (.aload 5, 2) := by decide +kernel
theorem dX10_peopleBy_40 : decode cX10_peopleBy 40 = .ok (.getfield 244, 3) := by decide +kernel
theorem dX10_peopleBy_43 : decode cX10_peopleBy 43 = .ok (.iconst (-1), 1) := by decide +kernel
theorem dX10_peopleBy_44 : decode cX10_peopleBy 44 = .ok (.if_icmp .ne 6, 3) := by decide +kernel
theorem dX10_peopleBy_47 : decode cX10_peopleBy 47 = .ok (.bipush (-11), 2) := by decide +kernel
theorem dX10_peopleBy_49 : decode cX10_peopleBy 49 = .ok (.ireturn, 1) := by decide +kernel
theorem dX10_peopleBy_50 : decode cX10_peopleBy 50 = .ok (.aload 5, 2) := by decide +kernel
theorem dX10_peopleBy_52 : decode cX10_peopleBy 52 = .ok (.getfield 244, 3) := by decide +kernel
theorem dX10_peopleBy_55 : decode cX10_peopleBy 55 = .ok (.iload_n 2, 1) := by decide +kernel
theorem dX10_peopleBy_56 : decode cX10_peopleBy 56 = .ok (.if_icmp .eq 6, 3) := by decide +kernel
theorem dX10_peopleBy_59 : decode cX10_peopleBy 59 = .ok (.bipush (-13), 2) := by decide +kernel
theorem dX10_peopleBy_61 : decode cX10_peopleBy 61 = .ok (.ireturn, 1) := by decide +kernel
theorem dX10_peopleBy_62 : decode cX10_peopleBy 62 = .ok (.iconst 0, 1) := by decide +kernel
theorem dX10_peopleBy_63 : decode cX10_peopleBy 63 = .ok (.istore 6, 2) := by decide +kernel
theorem dX10_peopleBy_65 : decode cX10_peopleBy 65 = .ok (.iconst 0, 1) := by decide +kernel
theorem dX10_peopleBy_66 : decode cX10_peopleBy 66 = .ok (.istore 7, 2) := by decide +kernel
theorem dX10_peopleBy_68 : decode cX10_peopleBy 68 = .ok (.iload 7, 2) := by decide +kernel
theorem dX10_peopleBy_70 : decode cX10_peopleBy 70 = .ok (.iload 4, 2) := by decide +kernel
theorem dX10_peopleBy_72 : decode cX10_peopleBy 72 = .ok (.if_icmp .ge 59, 3) := by decide +kernel
theorem dX10_peopleBy_75 : decode cX10_peopleBy 75 = .ok (.iload_n 3, 1) := by decide +kernel
theorem dX10_peopleBy_76 : decode cX10_peopleBy 76 = .ok (.iconst 2, 1) := by decide +kernel
theorem dX10_peopleBy_77 : decode cX10_peopleBy 77 = .ok (.iload 7, 2) := by decide +kernel
theorem dX10_peopleBy_79 : decode cX10_peopleBy 79 = .ok (.imul, 1) := by decide +kernel
theorem dX10_peopleBy_80 : decode cX10_peopleBy 80 = .ok (.iadd, 1) := by decide +kernel
theorem dX10_peopleBy_81 : decode cX10_peopleBy 81 = .ok (.istore 8, 2) := by decide +kernel
theorem dX10_peopleBy_83 : decode cX10_peopleBy 83 = .ok (.aload 5, 2) := by decide +kernel
theorem dX10_peopleBy_85 : decode cX10_peopleBy 85 = .ok (.iload 8, 2) := by decide +kernel
theorem dX10_peopleBy_87 : decode cX10_peopleBy 87 = .ok (.iconst 2, 1) := by decide +kernel
theorem dX10_peopleBy_88 : decode cX10_peopleBy 88 = .ok (.invokevirtual 247, 3) := by decide +kernel
theorem dX10_peopleBy_91 : decode cX10_peopleBy 91 = .ok (.ifCond .ne 6, 3) := by decide +kernel
theorem dX10_peopleBy_94 : decode cX10_peopleBy 94 = .ok (.bipush (-12), 2) := by decide +kernel
theorem dX10_peopleBy_96 : decode cX10_peopleBy 96 = .ok (.ireturn, 1) := by decide +kernel
theorem dX10_peopleBy_97 : decode cX10_peopleBy 97 = .ok (.aload_n 0, 1) := by decide +kernel
theorem dX10_peopleBy_98 : decode cX10_peopleBy 98 = .ok (.aload 5, 2) := by decide +kernel
theorem dX10_peopleBy_100 : decode cX10_peopleBy 100 = .ok (.getfield 156, 3) := by decide +kernel
theorem dX10_peopleBy_103 : decode cX10_peopleBy 103 = .ok (.iload 8, 2) := by decide +kernel
theorem dX10_peopleBy_105 : decode cX10_peopleBy 105 = .ok (.iaload, 1) := by decide +kernel
theorem dX10_peopleBy_106 : decode cX10_peopleBy 106 = .ok (.aload 5, 2) := by decide +kernel
theorem dX10_peopleBy_108 : decode cX10_peopleBy 108 = .ok (.getfield 156, 3) := by decide +kernel
theorem dX10_peopleBy_111 : decode cX10_peopleBy 111 = .ok (.iload 8, 2) := by decide +kernel
theorem dX10_peopleBy_113 : decode cX10_peopleBy 113 = .ok (.iconst 1, 1) := by decide +kernel
theorem dX10_peopleBy_114 : decode cX10_peopleBy 114 = .ok (.iadd, 1) := by decide +kernel
theorem dX10_peopleBy_115 : decode cX10_peopleBy 115 = .ok (.iaload, 1) := by decide +kernel
theorem dX10_peopleBy_116 : decode cX10_peopleBy 116 = .ok (.invokevirtual 257, 3) := by decide +kernel
theorem dX10_peopleBy_119 : decode cX10_peopleBy 119 = .ok (.ifCond .lt 6, 3) := by decide +kernel
theorem dX10_peopleBy_122 : decode cX10_peopleBy 122 = .ok (.iinc 6 1, 3) := by decide +kernel
theorem dX10_peopleBy_125 : decode cX10_peopleBy 125 = .ok (.iinc 7 1, 3) := by decide +kernel
theorem dX10_peopleBy_128 : decode cX10_peopleBy 128 = .ok (.goto (-60), 3) := by decide +kernel
theorem dX10_peopleBy_131 : decode cX10_peopleBy 131 = .ok (.iload 6, 2) := by decide +kernel
theorem dX10_peopleBy_133 : decode cX10_peopleBy 133 = .ok (.ireturn, 1) := by decide +kernel
theorem dX10_taken_0 : decode cX10_taken 0 = .ok (.iload_n 2, 1) := by decide +kernel
theorem dX10_taken_1 : decode cX10_taken 1 = .ok (.iconst 0, 1) := by decide +kernel
theorem dX10_taken_2 : decode cX10_taken 2 = .ok (.bipush 6, 2) := by decide +kernel
theorem dX10_taken_4 : decode cX10_taken 4 = .ok (.invokestatic 91, 3) := by decide +kernel
theorem dX10_taken_7 : decode cX10_taken 7 = .ok (.ifCond .ne 6, 3) := by decide +kernel
theorem dX10_taken_10 : decode cX10_taken 10 = .ok (.bipush (-2), 2) := by decide +kernel
theorem dX10_taken_12 : decode cX10_taken 12 = .ok (.ireturn, 1) := by decide +kernel
theorem dX10_taken_13 : decode cX10_taken 13 = .ok (.iload_n 1, 1) := by decide +kernel
theorem dX10_taken_14 : decode cX10_taken 14 = .ok (.iconst 0, 1) := by decide +kernel
theorem dX10_taken_15 : decode cX10_taken 15 = .ok (.bipush 41, 2) := by decide +kernel
theorem dX10_taken_17 : decode cX10_taken 17 = .ok (.invokestatic 91, 3) := by decide +kernel
theorem dX10_taken_20 : decode cX10_taken 20 = .ok (.ifCond .ne 6, 3) := by decide +kernel
theorem dX10_taken_23 : decode cX10_taken 23 = .ok (.bipush (-12), 2) := by decide +kernel
theorem dX10_taken_25 : decode cX10_taken 25 = .ok (.ireturn, 1) := by decide +kernel
theorem dX10_taken_26 : decode cX10_taken 26 = .ok (.iload_n 1, 1) := by decide +kernel
theorem dX10_taken_27 : decode cX10_taken 27 = .ok (.bipush 6, 2) := by decide +kernel
theorem dX10_taken_29 : decode cX10_taken 29 = .ok (.if_icmp .lt 27, 3) := by decide +kernel
theorem dX10_taken_32 : decode cX10_taken 32 = .ok (.iload_n 2, 1) := by decide +kernel
theorem dX10_taken_33 : decode cX10_taken 33 = .ok (.bipush 6, 2) := by decide +kernel
theorem dX10_taken_35 : decode cX10_taken 35 = .ok (.if_icmp .ne 18, 3) := by decide +kernel
theorem dX10_taken_38 : decode cX10_taken 38 = .ok (.aload_n 0, 1) := by decide +kernel
theorem dX10_taken_39 : decode cX10_taken 39 = .ok (.getfield 61, 3) := by decide +kernel
theorem dX10_taken_42 : decode cX10_taken 42 = .ok (.getfield 95, 3) := by decide +kernel
theorem dX10_taken_45 : decode cX10_taken 45 = .ok (.iload_n 1, 1) := by decide +kernel
theorem dX10_taken_46 : decode cX10_taken 46 = .ok (.bipush 6, 2) := by decide +kernel
theorem dX10_taken_48 : decode cX10_taken 48 = .ok (.isub, 1) := by decide +kernel
theorem dX10_taken_49 : decode cX10_taken 49 = .ok (.iaload, 1) := by decide +kernel
theorem dX10_taken_50 : decode cX10_taken 50 = .ok (.goto 5, 3) := by decide +kernel
theorem dX10_taken_53 : decode cX10_taken 53 = .ok (.bipush (-13), 2) := by decide +kernel
theorem dX10_taken_55 : decode cX10_taken 55 = .ok (.ireturn, 1) := by decide +kernel
theorem dX10_taken_56 : decode cX10_taken 56 = .ok (.aload_n 0, 1) := by decide +kernel
theorem dX10_taken_57 : decode cX10_taken 57 = .ok (.getfield 61, 3) := by decide +kernel
theorem dX10_taken_60 : decode cX10_taken 60 = .ok (.iload_n 1, 1) := by decide +kernel
theorem dX10_taken_61 : decode cX10_taken 61 = .ok (.invokevirtual 117, 3) := by decide +kernel
theorem dX10_taken_64 : decode cX10_taken 64 = .ok (.ifCond .ne 6, 3) := by decide +kernel
theorem dX10_taken_67 : decode cX10_taken 67 = .ok (.bipush (-11), 2) := by decide +kernel
theorem dX10_taken_69 : decode cX10_taken 69 = .ok (.ireturn, 1) := by decide +kernel
theorem dX10_taken_70 : decode cX10_taken 70 = .ok (.aload_n 0, 1) := by decide +kernel
theorem dX10_taken_71 : decode cX10_taken 71 = .ok (.getfield 45, 3) := by decide +kernel
theorem dX10_taken_74 : decode cX10_taken 74 = .ok (.aload_n 0, 1) := by decide +kernel
theorem dX10_taken_75 : decode cX10_taken 75 = .ok (.getfield 61, 3) := by decide +kernel
theorem dX10_taken_78 : decode cX10_taken 78 = .ok (.getfield 127, 3) := by decide +kernel
theorem dX10_taken_81 : decode cX10_taken 81 = .ok (.iconst 2, 1) := by decide +kernel
theorem dX10_taken_82 : decode cX10_taken 82 = .ok (.aaload, 1) := by decide +kernel
theorem dX10_taken_83 : decode cX10_taken 83 = .ok (.iload_n 1, 1) := by decide +kernel
theorem dX10_taken_84 : decode cX10_taken 84 = .ok (.iaload, 1) := by decide +kernel
theorem dX10_taken_85 : decode cX10_taken 85 = .ok (.aaload, 1) := by decide +kernel
theorem dX10_taken_86 : decode cX10_taken 86 = .ok (.iload_n 2, 1) := by decide +kernel
theorem dX10_taken_87 : decode cX10_taken 87 = .ok (.invokevirtual 260, 3) := by decide +kernel
theorem dX10_taken_90 : decode cX10_taken 90 = .ok (.ifCond .eq 7, 3) := by decide +kernel
theorem dX10_taken_93 : decode cX10_taken 93 = .ok (.iload_n 1, 1) := by decide +kernel
theorem dX10_taken_94 : decode cX10_taken 94 = .ok (.goto 5, 3) := by decide +kernel
theorem dX10_taken_97 : decode cX10_taken 97 = .ok (.bipush (-13), 2) := by decide +kernel
theorem dX10_taken_99 : decode cX10_taken 99 = .ok (.ireturn, 1) := by decide +kernel
theorem dX10_within_0 : decode cX10_within 0 = .ok (.iload_n 0, 1) := by decide +kernel
theorem dX10_within_1 : decode cX10_within 1 = .ok (.iload_n 1, 1) := by decide +kernel
theorem dX10_within_2 : decode cX10_within 2 = .ok (.if_icmp .lt 12, 3) := by decide +kernel
theorem dX10_within_5 : decode cX10_within 5 = .ok (.iload_n 0, 1) := by decide +kernel
theorem dX10_within_6 : decode cX10_within 6 = .ok (.iload_n 2, 1) := by decide +kernel
theorem dX10_within_7 : decode cX10_within 7 = .ok (.if_icmp .gt 7, 3) := by decide +kernel
theorem dX10_within_10 : decode cX10_within 10 = .ok (.iconst 1, 1) := by decide +kernel
theorem dX10_within_11 : decode cX10_within 11 = .ok (.goto 4, 3) := by decide +kernel
theorem dX10_within_14 : decode cX10_within 14 = .ok (.iconst 0, 1) := by decide +kernel
theorem dX10_within_15 : decode cX10_within 15 = .ok (.ireturn, 1) := by decide +kernel
theorem dX10_isCell_0 : decode cX10_isCell 0 = .ok (.iload_n 0, 1) := by decide +kernel
theorem dX10_isCell_1 : decode cX10_isCell 1 = .ok (.iconst 0, 1) := by decide +kernel
theorem dX10_isCell_2 : decode cX10_isCell 2 = .ok (.bipush 35, 2) := by decide +kernel
theorem dX10_isCell_4 : decode cX10_isCell 4 = .ok (.invokestatic 91, 3) := by decide +kernel
theorem dX10_isCell_7 : decode cX10_isCell 7 = .ok (.ireturn, 1) := by decide +kernel
theorem dX10_isSheet_0 : decode cX10_isSheet 0 = .ok (.iload_n 0, 1) := by decide +kernel
theorem dX10_isSheet_1 : decode cX10_isSheet 1 = .ok (.iconst 0, 1) := by decide +kernel
theorem dX10_isSheet_2 : decode cX10_isSheet 2 = .ok (.iconst 3, 1) := by decide +kernel
theorem dX10_isSheet_3 : decode cX10_isSheet 3 = .ok (.invokestatic 91, 3) := by decide +kernel
theorem dX10_isSheet_6 : decode cX10_isSheet 6 = .ok (.ireturn, 1) := by decide +kernel
theorem dX10_isByte_0 : decode cX10_isByte 0 = .ok (.iload_n 0, 1) := by decide +kernel
theorem dX10_isByte_1 : decode cX10_isByte 1 = .ok (.iconst 0, 1) := by decide +kernel
theorem dX10_isByte_2 : decode cX10_isByte 2 = .ok (.sipush 255, 3) := by decide +kernel
theorem dX10_isByte_5 : decode cX10_isByte 5 = .ok (.invokestatic 91, 3) := by decide +kernel
theorem dX10_isByte_8 : decode cX10_isByte 8 = .ok (.ireturn, 1) := by decide +kernel
theorem dX10_refuseWalk_0 : decode cX10_refuseWalk 0 = .ok (.iload_n 1, 1) := by decide +kernel
theorem dX10_refuseWalk_1 : decode cX10_refuseWalk 1 = .ok (.invokestatic 219, 3) := by decide +kernel
theorem dX10_refuseWalk_4 : decode cX10_refuseWalk 4 = .ok (.ifCond .ne 6, 3) := by decide +kernel
theorem dX10_refuseWalk_7 : decode cX10_refuseWalk 7 = .ok (.bipush (-2), 2) := by decide +kernel
theorem dX10_refuseWalk_9 : decode cX10_refuseWalk 9 = .ok (.ireturn, 1) := by decide +kernel
theorem dX10_refuseWalk_10 : decode cX10_refuseWalk 10 = .ok (.aload_n 0, 1) := by decide +kernel
theorem dX10_refuseWalk_11 : decode cX10_refuseWalk 11 = .ok (.getfield 51, 3) := by decide +kernel
theorem dX10_refuseWalk_14 : decode cX10_refuseWalk 14 = .ok (.iload_n 1, 1) := by decide +kernel
theorem dX10_refuseWalk_15 : decode cX10_refuseWalk 15 = .ok (.aaload, 1) := by decide +kernel
theorem dX10_refuseWalk_16 : decode cX10_refuseWalk 16 = .ok (.getfield 244, 3) := by decide +kernel
theorem dX10_refuseWalk_19 : decode cX10_refuseWalk 19 = .ok (.iconst (-1), 1) := by decide +kernel
theorem dX10_refuseWalk_20 : decode cX10_refuseWalk 20 = .ok (.if_icmp .ne 6, 3) := by decide +kernel
theorem dX10_refuseWalk_23 : decode cX10_refuseWalk 23 = .ok (.bipush (-11), 2) := by decide +kernel
theorem dX10_refuseWalk_25 : decode cX10_refuseWalk 25 = .ok (.ireturn, 1) := by decide +kernel
theorem dX10_refuseWalk_26 : decode cX10_refuseWalk 26 = .ok (.aload_n 0, 1) := by decide +kernel
theorem dX10_refuseWalk_27 : decode cX10_refuseWalk 27 = .ok (.getfield 51, 3) := by decide +kernel
theorem dX10_refuseWalk_30 : decode cX10_refuseWalk 30 = .ok (.iload_n 1, 1) := by decide +kernel
theorem dX10_refuseWalk_31 : decode cX10_refuseWalk 31 = .ok (.aaload, 1) := by decide +kernel
theorem dX10_refuseWalk_32 : decode cX10_refuseWalk 32 = .ok (.invokevirtual 263, 3) := by decide +kernel
theorem dX10_refuseWalk_35 : decode cX10_refuseWalk 35 = .ok (.ifCond .ne 6, 3) := by decide +kernel
theorem dX10_refuseWalk_38 : decode cX10_refuseWalk 38 = .ok (.bipush (-2), 2) := by decide +kernel
theorem dX10_refuseWalk_40 : decode cX10_refuseWalk 40 = .ok (.ireturn, 1) := by decide +kernel
theorem dX10_refuseWalk_41 : decode cX10_refuseWalk 41 = .ok (.aload_n 0, 1) := by decide +kernel
theorem dX10_refuseWalk_42 : decode cX10_refuseWalk 42 = .ok (.getfield 61, 3) := by decide +kernel
theorem dX10_refuseWalk_45 : decode cX10_refuseWalk 45 = .ok (.iload_n 2, 1) := by decide +kernel
theorem dX10_refuseWalk_46 : decode cX10_refuseWalk 46 = .ok (.invokevirtual 117, 3) := by decide +kernel
theorem dX10_refuseWalk_49 : decode cX10_refuseWalk 49 = .ok (.ifCond .eq 7, 3) := by decide +kernel
theorem dX10_refuseWalk_52 : decode cX10_refuseWalk 52 = .ok (.iconst 0, 1) := by decide +kernel
theorem dX10_refuseWalk_53 : decode cX10_refuseWalk 53 = .ok (.goto 5, 3) := by decide +kernel
theorem dX10_refuseWalk_56 : decode cX10_refuseWalk 56 = .ok (.bipush (-5), 2) := by decide +kernel
theorem dX10_refuseWalk_58 : decode cX10_refuseWalk 58 = .ok (.ireturn, 1) := by decide +kernel
theorem dX10_refuseTale_0 : decode cX10_refuseTale 0 = .ok (.iload_n 1, 1) := by decide +kernel
theorem dX10_refuseTale_1 : decode cX10_refuseTale 1 = .ok (.invokestatic 219, 3) := by decide +kernel
theorem dX10_refuseTale_4 : decode cX10_refuseTale 4 = .ok (.ifCond .ne 6, 3) := by decide +kernel
theorem dX10_refuseTale_7 : decode cX10_refuseTale 7 = .ok (.bipush (-2), 2) := by decide +kernel
theorem dX10_refuseTale_9 : decode cX10_refuseTale 9 = .ok (.ireturn, 1) := by decide +kernel
theorem dX10_refuseTale_10 : decode cX10_refuseTale 10 = .ok (.aload_n 0, 1) := by decide +kernel
theorem dX10_refuseTale_11 : decode cX10_refuseTale 11 = .ok (.getfield 51, 3) := by decide +kernel
theorem dX10_refuseTale_14 : decode cX10_refuseTale 14 = .ok (.iload_n 1, 1) := by decide +kernel
theorem dX10_refuseTale_15 : decode cX10_refuseTale 15 = .ok (.aaload, 1) := by decide +kernel
theorem dX10_refuseTale_16 : decode cX10_refuseTale 16 = .ok (.getfield 244, 3) := by decide +kernel
theorem dX10_refuseTale_19 : decode cX10_refuseTale 19 = .ok (.iconst (-1), 1) := by decide +kernel
theorem dX10_refuseTale_20 : decode cX10_refuseTale 20 = .ok (.if_icmp .ne 6, 3) := by decide +kernel
theorem dX10_refuseTale_23 : decode cX10_refuseTale 23 = .ok (.bipush (-11), 2) := by decide +kernel
theorem dX10_refuseTale_25 : decode cX10_refuseTale 25 = .ok (.ireturn, 1) := by decide +kernel
theorem dX10_refuseTale_26 : decode cX10_refuseTale 26 = .ok (.aload_n 0, 1) := by decide +kernel
theorem dX10_refuseTale_27 : decode cX10_refuseTale 27 = .ok (.getfield 51, 3) := by decide +kernel
theorem dX10_refuseTale_30 : decode cX10_refuseTale 30 = .ok (.iload_n 1, 1) := by decide +kernel
theorem dX10_refuseTale_31 : decode cX10_refuseTale 31 = .ok (.aaload, 1) := by decide +kernel
theorem dX10_refuseTale_32 : decode cX10_refuseTale 32 = .ok (.getfield 155, 3) := by decide +kernel
theorem dX10_refuseTale_35 : decode cX10_refuseTale 35 = .ok (.bipush 20, 2) := by decide +kernel
theorem dX10_refuseTale_37 : decode cX10_refuseTale 37 = .ok (.if_icmp .le 6, 3) := by decide +kernel
theorem dX10_refuseTale_40 : decode cX10_refuseTale 40 = .ok (.bipush (-2), 2) := by decide +kernel
theorem dX10_refuseTale_42 : decode cX10_refuseTale 42 = .ok (.ireturn, 1) := by decide +kernel
theorem dX10_refuseTale_43 : decode cX10_refuseTale 43 = .ok (.iload_n 2, 1) := by decide +kernel
theorem dX10_refuseTale_44 : decode cX10_refuseTale 44 = .ok (.invokestatic 87, 3) := by decide +kernel
theorem dX10_refuseTale_47 : decode cX10_refuseTale 47 = .ok (.ifCond .eq 7, 3) := by decide +kernel
theorem dX10_refuseTale_50 : decode cX10_refuseTale 50 = .ok (.iconst 0, 1) := by decide +kernel
theorem dX10_refuseTale_51 : decode cX10_refuseTale 51 = .ok (.goto 5, 3) := by decide +kernel
theorem dX10_refuseTale_54 : decode cX10_refuseTale 54 = .ok (.bipush (-5), 2) := by decide +kernel
theorem dX10_refuseTale_56 : decode cX10_refuseTale 56 = .ok (.ireturn, 1) := by decide +kernel
theorem dX10_refuseTaleOf_0 : decode cX10_refuseTaleOf 0 = .ok (.aload_n 0, 1) := by decide +kernel
theorem dX10_refuseTaleOf_1 : decode cX10_refuseTaleOf 1 = .ok (.iload_n 1, 1) := by decide +kernel
theorem dX10_refuseTaleOf_2 : decode cX10_refuseTaleOf 2 = .ok (.iload_n 2, 1) := by decide +kernel
theorem dX10_refuseTaleOf_3 : decode cX10_refuseTaleOf 3 = .ok (.invokevirtual 205, 3) := by decide +kernel
theorem dX10_refuseTaleOf_6 : decode cX10_refuseTaleOf 6 = .ok (.istore 4, 2) := by decide +kernel
theorem dX10_refuseTaleOf_8 : decode cX10_refuseTaleOf 8 = .ok (.iload 4, 2) := by decide +kernel
theorem dX10_refuseTaleOf_10 : decode cX10_refuseTaleOf 10 = .ok (.ifCond .eq 6, 3) := by decide +kernel
theorem dX10_refuseTaleOf_13 : decode cX10_refuseTaleOf 13 = .ok (.iload 4, 2) := by decide +kernel
theorem dX10_refuseTaleOf_15 : decode cX10_refuseTaleOf 15 = .ok (.ireturn, 1) := by decide +kernel
theorem dX10_refuseTaleOf_16 : decode cX10_refuseTaleOf 16 = .ok (.aload_n 0, 1) := by decide +kernel
theorem dX10_refuseTaleOf_17 : decode cX10_refuseTaleOf 17 = .ok (.getfield 61, 3) := by decide +kernel
theorem dX10_refuseTaleOf_20 : decode cX10_refuseTaleOf 20 = .ok (.iload_n 3, 1) := by decide +kernel
theorem dX10_refuseTaleOf_21 : decode cX10_refuseTaleOf 21 = .ok (.invokevirtual 117, 3) := by decide +kernel
theorem dX10_refuseTaleOf_24 : decode cX10_refuseTaleOf 24 = .ok (.ifCond .eq 7, 3) := by decide +kernel
theorem dX10_refuseTaleOf_27 : decode cX10_refuseTaleOf 27 = .ok (.iconst 0, 1) := by decide +kernel
theorem dX10_refuseTaleOf_28 : decode cX10_refuseTaleOf 28 = .ok (.goto 5, 3) := by decide +kernel
theorem dX10_refuseTaleOf_31 : decode cX10_refuseTaleOf 31 = .ok (.bipush (-6), 2) := by decide +kernel
theorem dX10_refuseTaleOf_33 : decode cX10_refuseTaleOf 33 = .ok (.ireturn, 1) := by decide +kernel
theorem dX10_feltOnWalk_0 : decode cX10_feltOnWalk 0 = .ok (.iconst 0, 1) := by decide +kernel
theorem dX10_feltOnWalk_1 : decode cX10_feltOnWalk 1 = .ok (.istore 4, 2) := by decide +kernel
theorem dX10_feltOnWalk_3 : decode cX10_feltOnWalk 3 = .ok (.iconst 0, 1) := by decide +kernel
theorem dX10_feltOnWalk_4 : decode cX10_feltOnWalk 4 = .ok (.istore 5, 2) := by decide +kernel
theorem dX10_feltOnWalk_6 : decode cX10_feltOnWalk 6 = .ok (.iconst (-1), 1) := by decide +kernel
theorem dX10_feltOnWalk_7 : decode cX10_feltOnWalk 7 = .ok (.istore 6, 2) := by decide +kernel
theorem dX10_feltOnWalk_9 : decode cX10_feltOnWalk 9 = .ok (.iconst 0, 1) := by decide +kernel
theorem dX10_feltOnWalk_10 : decode cX10_feltOnWalk 10 = .ok (.istore 7, 2) := by decide +kernel
theorem dX10_feltOnWalk_12 : decode cX10_feltOnWalk 12 = .ok (.iconst 0, 1) := by decide +kernel
theorem dX10_feltOnWalk_13 : decode cX10_feltOnWalk 13 = .ok (.istore 8, 2) := by decide +kernel
theorem dX10_feltOnWalk_15 : decode cX10_feltOnWalk 15 = .ok (.iload 8, 2) := by decide +kernel
theorem dX10_feltOnWalk_17 : decode cX10_feltOnWalk 17 = .ok (.aload_n 1, 1) := by decide +kernel
theorem dX10_feltOnWalk_18 : decode cX10_feltOnWalk 18 = .ok (.getfield 155, 3) := by decide +kernel
theorem dX10_feltOnWalk_21 : decode cX10_feltOnWalk 21 = .ok (.if_icmp .ge 62, 3) := by decide +kernel
theorem dX10_feltOnWalk_24 : decode cX10_feltOnWalk 24 = .ok (.aload_n 0, 1) := by decide +kernel
theorem dX10_feltOnWalk_25 : decode cX10_feltOnWalk 25 = .ok (.getfield 61, 3) := by decide +kernel
theorem dX10_feltOnWalk_28 : decode cX10_feltOnWalk 28 = .ok (.iload_n 2, 1) := by decide +kernel
theorem dX10_feltOnWalk_29 : decode cX10_feltOnWalk 29 = .ok (.aload_n 1, 1) := by decide +kernel
theorem dX10_feltOnWalk_30 : decode cX10_feltOnWalk 30 = .ok (.getfield 156, 3) := by decide +kernel
theorem dX10_feltOnWalk_33 : decode cX10_feltOnWalk 33 = .ok (.iload 8, 2) := by decide +kernel
theorem dX10_feltOnWalk_35 : decode cX10_feltOnWalk 35 = .ok (.iaload, 1) := by decide +kernel
theorem dX10_feltOnWalk_36 : decode cX10_feltOnWalk 36 = .ok (.invokevirtual 266, 3) := by decide +kernel
theorem dX10_feltOnWalk_39 : decode cX10_feltOnWalk 39 = .ok (.istore 9, 2) := by decide +kernel
theorem dX10_feltOnWalk_41 : decode cX10_feltOnWalk 41 = .ok (.iload 4, 2) := by decide +kernel
theorem dX10_feltOnWalk_43 : decode cX10_feltOnWalk 43 = .ok (.iload 9, 2) := by decide +kernel
theorem dX10_feltOnWalk_45 : decode cX10_feltOnWalk 45 = .ok (.iadd, 1) := by decide +kernel
theorem dX10_feltOnWalk_46 : decode cX10_feltOnWalk 46 = .ok (.istore 4, 2) := by decide +kernel
theorem dX10_feltOnWalk_48 : decode cX10_feltOnWalk 48 = .ok (.iload 6, 2) := by decide +kernel
theorem dX10_feltOnWalk_50 : decode cX10_feltOnWalk 50 = .ok (.iconst (-1), 1) := by decide +kernel
theorem dX10_feltOnWalk_51 : decode cX10_feltOnWalk 51 = .ok (.if_icmp .eq 10, 3) := by decide +kernel
theorem dX10_feltOnWalk_54 : decode cX10_feltOnWalk 54 = .ok (.iload 9, 2) := by decide +kernel
theorem dX10_feltOnWalk_56 : decode cX10_feltOnWalk 56 = .ok (.iload 5, 2) := by decide +kernel
theorem dX10_feltOnWalk_58 : decode cX10_feltOnWalk 58 = .ok (.if_icmp .le 11, 3) := by decide +kernel
theorem dX10_feltOnWalk_61 : decode cX10_feltOnWalk 61 = .ok (.iload 9, 2) := by decide +kernel
theorem dX10_feltOnWalk_63 : decode cX10_feltOnWalk 63 = .ok (.istore 5, 2) := by decide +kernel
theorem dX10_feltOnWalk_65 : decode cX10_feltOnWalk 65 = .ok (.iload 8, 2) := by decide +kernel
theorem dX10_feltOnWalk_67 : decode cX10_feltOnWalk 67 = .ok (.istore 6, 2) := by decide +kernel
theorem dX10_feltOnWalk_69 : decode cX10_feltOnWalk 69 = .ok (.iload 9, 2) := by decide +kernel
theorem dX10_feltOnWalk_71 : decode cX10_feltOnWalk 71 = .ok (.ifCond .ne 6, 3) := by decide +kernel
theorem dX10_feltOnWalk_74 : decode cX10_feltOnWalk 74 = .ok (.iinc 7 1, 3) := by decide +kernel
theorem dX10_feltOnWalk_77 : decode cX10_feltOnWalk 77 = .ok (.iinc 8 1, 3) := by decide +kernel
theorem dX10_feltOnWalk_80 : decode cX10_feltOnWalk 80 = .ok (.goto (-65), 3) := by decide +kernel
theorem dX10_feltOnWalk_83 : decode cX10_feltOnWalk 83 = .ok (.iload_n 3, 1) := by decide +kernel
theorem dX10_feltOnWalk_84 : decode cX10_feltOnWalk 84 = .ok (.tableswitch 37 0 2 #[28, 31, 34], 28) := by decide +kernel
theorem dX10_feltOnWalk_112 : decode cX10_feltOnWalk 112 = .ok (.iload 4, 2) := by decide +kernel
theorem dX10_feltOnWalk_114 : decode cX10_feltOnWalk 114 = .ok (.ireturn, 1) := by decide +kernel
theorem dX10_feltOnWalk_115 : decode cX10_feltOnWalk 115 = .ok (.iload 5, 2) := by decide +kernel
theorem dX10_feltOnWalk_117 : decode cX10_feltOnWalk 117 = .ok (.ireturn, 1) := by decide +kernel
theorem dX10_feltOnWalk_118 : decode cX10_feltOnWalk 118 = .ok (.iload 6, 2) := by decide +kernel
theorem dX10_feltOnWalk_120 : decode cX10_feltOnWalk 120 = .ok (.ireturn, 1) := by decide +kernel
theorem dX10_feltOnWalk_121 : decode cX10_feltOnWalk 121 = .ok (.iload 7, 2) := by decide +kernel
theorem dX10_feltOnWalk_123 : decode cX10_feltOnWalk 123 = .ok (.ireturn, 1) := by decide +kernel
theorem dX10_suppose_0 : decode cX10_suppose 0 = .ok (.aload_n 0, 1) := by decide +kernel
theorem dX10_suppose_1 : decode cX10_suppose 1 = .ok (.getfield 65, 3) := by decide +kernel
theorem dX10_suppose_4 : decode cX10_suppose 4 = .ok (.aload_n 0, 1) := by decide +kernel
theorem dX10_suppose_5 : decode cX10_suppose 5 = .ok (.getfield 61, 3) := by decide +kernel
theorem dX10_suppose_8 : decode cX10_suppose 8 = .ok (.invokevirtual 141, 3) := by decide +kernel
theorem dX10_suppose_11 : decode cX10_suppose 11 = .ok (.aload_n 0, 1) := by decide +kernel
theorem dX10_suppose_12 : decode cX10_suppose 12 = .ok (.getfield 65, 3) := by decide +kernel
theorem dX10_suppose_15 : decode cX10_suppose 15 = .ok (.getfield 127, 3) := by decide +kernel
theorem dX10_suppose_18 : decode cX10_suppose 18 = .ok (.iload_n 2, 1) := by decide +kernel
theorem dX10_suppose_19 : decode cX10_suppose 19 = .ok (.aaload, 1) := by decide +kernel
theorem dX10_suppose_20 : decode cX10_suppose 20 = .ok (.iload_n 1, 1) := by decide +kernel
theorem dX10_suppose_21 : decode cX10_suppose 21 = .ok (.iload_n 3, 1) := by decide +kernel
theorem dX10_suppose_22 : decode cX10_suppose 22 = .ok (.iastore, 1) := by decide +kernel
theorem dX10_suppose_23 : decode cX10_suppose 23 = .ok (.return_, 1) := by decide +kernel
theorem dX10_firstOtherwise_0 : decode cX10_firstOtherwise 0 = .ok (.iconst 0, 1) := by decide +kernel
theorem dX10_firstOtherwise_1 : decode cX10_firstOtherwise 1 = .ok (.istore_n 3, 1) := by decide +kernel
theorem dX10_firstOtherwise_2 : decode cX10_firstOtherwise 2 = .ok (.iload_n 3, 1) := by decide +kernel
theorem dX10_firstOtherwise_3 : decode cX10_firstOtherwise 3 = .ok (.aload_n 1, 1) := by decide +kernel
theorem dX10_firstOtherwise_4 : decode cX10_firstOtherwise 4 = .ok (.getfield 155, 3) := by decide +kernel
theorem dX10_firstOtherwise_7 : decode cX10_firstOtherwise 7 = .ok (.if_icmp .ge 36, 3) := by decide +kernel
theorem dX10_firstOtherwise_10 : decode cX10_firstOtherwise 10 = .ok (.aload_n 0, 1) := by decide +kernel
theorem dX10_firstOtherwise_11 : decode cX10_firstOtherwise 11 = .ok (.getfield 65, 3) := by decide +kernel
theorem dX10_firstOtherwise_14 : decode cX10_firstOtherwise 14 = .ok (.invokevirtual 131, 3) := by decide +kernel
theorem dX10_firstOtherwise_17 : decode cX10_firstOtherwise 17 = .ok (.aload_n 0, 1) := by decide +kernel
theorem dX10_firstOtherwise_18 : decode cX10_firstOtherwise 18 = .ok (.getfield 65, 3) := by decide +kernel
theorem dX10_firstOtherwise_21 : decode cX10_firstOtherwise 21 = .ok (.getfield 95, 3) := by decide +kernel
theorem dX10_firstOtherwise_24 : decode cX10_firstOtherwise 24 = .ok (.iload_n 2, 1) := by decide +kernel
theorem dX10_firstOtherwise_25 : decode cX10_firstOtherwise 25 = .ok (.iaload, 1) := by decide +kernel
theorem dX10_firstOtherwise_26 : decode cX10_firstOtherwise 26 = .ok (.aload_n 1, 1) := by decide +kernel
theorem dX10_firstOtherwise_27 : decode cX10_firstOtherwise 27 = .ok (.getfield 156, 3) := by decide +kernel
theorem dX10_firstOtherwise_30 : decode cX10_firstOtherwise 30 = .ok (.iload_n 3, 1) := by decide +kernel
theorem dX10_firstOtherwise_31 : decode cX10_firstOtherwise 31 = .ok (.iaload, 1) := by decide +kernel
theorem dX10_firstOtherwise_32 : decode cX10_firstOtherwise 32 = .ok (.if_icmp .eq 5, 3) := by decide +kernel
theorem dX10_firstOtherwise_35 : decode cX10_firstOtherwise 35 = .ok (.iload_n 3, 1) := by decide +kernel
theorem dX10_firstOtherwise_36 : decode cX10_firstOtherwise 36 = .ok (.ireturn, 1) := by decide +kernel
theorem dX10_firstOtherwise_37 : decode cX10_firstOtherwise 37 = .ok (.iinc 3 1, 3) := by decide +kernel
theorem dX10_firstOtherwise_40 : decode cX10_firstOtherwise 40 = .ok (.goto (-38), 3) := by decide +kernel
theorem dX10_firstOtherwise_43 : decode cX10_firstOtherwise 43 = .ok (.iconst (-1), 1) := by decide +kernel
theorem dX10_firstOtherwise_44 : decode cX10_firstOtherwise 44 = .ok (.ireturn, 1) := by decide +kernel
theorem dX10_fitting_0 : decode cX10_fitting 0 = .ok (.lconst 0, 1) := by decide +kernel
theorem dX10_fitting_1 : decode cX10_fitting 1 = .ok (.lstore 6, 2) := by decide +kernel
theorem dX10_fitting_3 : decode cX10_fitting 3 = .ok (.iconst 0, 1) := by decide +kernel
theorem dX10_fitting_4 : decode cX10_fitting 4 = .ok (.istore 8, 2) := by decide +kernel
theorem dX10_fitting_6 : decode cX10_fitting 6 = .ok (.iload 8, 2) := by decide +kernel
theorem dX10_fitting_8 : decode cX10_fitting 8 = .ok (.iload 5, 2) := by decide +kernel
theorem dX10_fitting_10 : decode cX10_fitting 10 = .ok (.if_icmp .ge 42, 3) := by decide +kernel
theorem dX10_fitting_13 : decode cX10_fitting 13 = .ok (.aload_n 0, 1) := by decide +kernel
theorem dX10_fitting_14 : decode cX10_fitting 14 = .ok (.iload_n 3, 1) := by decide +kernel
theorem dX10_fitting_15 : decode cX10_fitting 15 = .ok (.iload 4, 2) := by decide +kernel
theorem dX10_fitting_17 : decode cX10_fitting 17 = .ok (.iload 8, 2) := by decide +kernel
theorem dX10_fitting_19 : decode cX10_fitting 19 = .ok (.invokevirtual 201, 3) := by decide +kernel
theorem dX10_fitting_22 : decode cX10_fitting 22 = .ok (.aload_n 0, 1) := by decide +kernel
theorem dX10_fitting_23 : decode cX10_fitting 23 = .ok (.aload_n 0, 1) := by decide +kernel
theorem dX10_fitting_24 : decode cX10_fitting 24 = .ok (.getfield 51, 3) := by decide +kernel
theorem dX10_fitting_27 : decode cX10_fitting 27 = .ok (.iload_n 1, 1) := by decide +kernel
theorem dX10_fitting_28 : decode cX10_fitting 28 = .ok (.aaload, 1) := by decide +kernel
theorem dX10_fitting_29 : decode cX10_fitting 29 = .ok (.iload_n 2, 1) := by decide +kernel
theorem dX10_fitting_30 : decode cX10_fitting 30 = .ok (.invokevirtual 208, 3) := by decide +kernel
theorem dX10_fitting_33 : decode cX10_fitting 33 = .ok (.iconst (-1), 1) := by decide +kernel
theorem dX10_fitting_34 : decode cX10_fitting 34 = .ok (.if_icmp .ne 12, 3) := by decide +kernel
theorem dX10_fitting_37 : decode cX10_fitting 37 = .ok (.lload 6, 2) := by decide +kernel
theorem dX10_fitting_39 : decode cX10_fitting 39 = .ok (.lconst 1, 1) := by decide +kernel
theorem dX10_fitting_40 : decode cX10_fitting 40 = .ok (.iload 8, 2) := by decide +kernel
theorem dX10_fitting_42 : decode cX10_fitting 42 = .ok (.lshl, 1) := by decide +kernel
theorem dX10_fitting_43 : decode cX10_fitting 43 = .ok (.lor, 1) := by decide +kernel
theorem dX10_fitting_44 : decode cX10_fitting 44 = .ok (.lstore 6, 2) := by decide +kernel
theorem dX10_fitting_46 : decode cX10_fitting 46 = .ok (.iinc 8 1, 3) := by decide +kernel
theorem dX10_fitting_49 : decode cX10_fitting 49 = .ok (.goto (-43), 3) := by decide +kernel
theorem dX10_fitting_52 : decode cX10_fitting 52 = .ok (.lload 6, 2) := by decide +kernel
theorem dX10_fitting_54 : decode cX10_fitting 54 = .ok (.lreturn, 1) := by decide +kernel
theorem dX10_lowest_0 : decode cX10_lowest 0 = .ok (.iload_n 0, 1) := by decide +kernel
theorem dX10_lowest_1 : decode cX10_lowest 1 = .ok (.istore_n 3, 1) := by decide +kernel
theorem dX10_lowest_2 : decode cX10_lowest 2 = .ok (.iload_n 1, 1) := by decide +kernel
theorem dX10_lowest_3 : decode cX10_lowest 3 = .ok (.istore 4, 2) := by decide +kernel
theorem dX10_lowest_5 : decode cX10_lowest 5 = .ok (.iconst 0, 1) := by decide +kernel
theorem dX10_lowest_6 : decode cX10_lowest 6 = .ok (.istore 5, 2) := by decide +kernel
theorem dX10_lowest_8 : decode cX10_lowest 8 = .ok (.iload 5, 2) := by decide +kernel
theorem dX10_lowest_10 : decode cX10_lowest 10 = .ok (.bipush 64, 2) := by decide +kernel
theorem dX10_lowest_12 : decode cX10_lowest 12 = .ok (.if_icmp .ge 27, 3) := by decide +kernel
theorem dX10_lowest_15 : decode cX10_lowest 15 = .ok (.iload 4, 2) := by decide +kernel
theorem dX10_lowest_17 : decode cX10_lowest 17 = .ok (.ifCond .eq 22, 3) := by decide +kernel
theorem dX10_lowest_20 : decode cX10_lowest 20 = .ok (.iload_n 3, 1) := by decide +kernel
theorem dX10_lowest_21 : decode cX10_lowest 21 = .ok (.iload 4, 2) := by decide +kernel
theorem dX10_lowest_23 : decode cX10_lowest 23 = .ok (.irem, 1) := by decide +kernel
theorem dX10_lowest_24 : decode cX10_lowest 24 = .ok (.istore 6, 2) := by decide +kernel
theorem dX10_lowest_26 : decode cX10_lowest 26 = .ok (.iload 4, 2) := by decide +kernel
theorem dX10_lowest_28 : decode cX10_lowest 28 = .ok (.istore_n 3, 1) := by decide +kernel
theorem dX10_lowest_29 : decode cX10_lowest 29 = .ok (.iload 6, 2) := by decide +kernel
theorem dX10_lowest_31 : decode cX10_lowest 31 = .ok (.istore 4, 2) := by decide +kernel
theorem dX10_lowest_33 : decode cX10_lowest 33 = .ok (.iinc 5 1, 3) := by decide +kernel
theorem dX10_lowest_36 : decode cX10_lowest 36 = .ok (.goto (-28), 3) := by decide +kernel
theorem dX10_lowest_39 : decode cX10_lowest 39 = .ok (.iconst 1, 1) := by decide +kernel
theorem dX10_lowest_40 : decode cX10_lowest 40 = .ok (.iload_n 3, 1) := by decide +kernel
theorem dX10_lowest_41 : decode cX10_lowest 41 = .ok (.invokestatic 269, 3) := by decide +kernel
theorem dX10_lowest_44 : decode cX10_lowest 44 = .ok (.istore 5, 2) := by decide +kernel
theorem dX10_lowest_46 : decode cX10_lowest 46 = .ok (.iload_n 2, 1) := by decide +kernel
theorem dX10_lowest_47 : decode cX10_lowest 47 = .ok (.ifCond .ne 11, 3) := by decide +kernel
theorem dX10_lowest_50 : decode cX10_lowest 50 = .ok (.iload_n 0, 1) := by decide +kernel
theorem dX10_lowest_51 : decode cX10_lowest 51 = .ok (.iload 5, 2) := by decide +kernel
theorem dX10_lowest_53 : decode cX10_lowest 53 = .ok (.idiv, 1) := by decide +kernel
theorem dX10_lowest_54 : decode cX10_lowest 54 = .ok (.i2l, 1) := by decide +kernel
theorem dX10_lowest_55 : decode cX10_lowest 55 = .ok (.goto 8, 3) := by decide +kernel
theorem dX10_lowest_58 : decode cX10_lowest 58 = .ok (.iload_n 1, 1) := by decide +kernel
theorem dX10_lowest_59 : decode cX10_lowest 59 = .ok (.iload 5, 2) := by decide +kernel
theorem dX10_lowest_61 : decode cX10_lowest 61 = .ok (.idiv, 1) := by decide +kernel
theorem dX10_lowest_62 : decode cX10_lowest 62 = .ok (.i2l, 1) := by decide +kernel
theorem dX10_lowest_63 : decode cX10_lowest 63 = .ok (.lreturn, 1) := by decide +kernel
theorem dX10_neighbour_0 : decode cX10_neighbour 0 = .ok (.iload_n 1, 1) := by decide +kernel
theorem dX10_neighbour_1 : decode cX10_neighbour 1 = .ok (.tableswitch 73 0 2 #[27, 43, 58], 27) := by decide +kernel
theorem dX10_neighbour_28 : decode cX10_neighbour 28 = .ok (.iload_n 0, 1) := by decide +kernel
theorem dX10_neighbour_29 : decode cX10_neighbour 29 = .ok (.bipush 6, 2) := by decide +kernel
theorem dX10_neighbour_31 : decode cX10_neighbour 31 = .ok (.irem, 1) := by decide +kernel
theorem dX10_neighbour_32 : decode cX10_neighbour 32 = .ok (.iconst 5, 1) := by decide +kernel
theorem dX10_neighbour_33 : decode cX10_neighbour 33 = .ok (.if_icmp .ge 9, 3) := by decide +kernel
theorem dX10_neighbour_36 : decode cX10_neighbour 36 = .ok (.iload_n 0, 1) := by decide +kernel
theorem dX10_neighbour_37 : decode cX10_neighbour 37 = .ok (.iconst 1, 1) := by decide +kernel
theorem dX10_neighbour_38 : decode cX10_neighbour 38 = .ok (.iadd, 1) := by decide +kernel
theorem dX10_neighbour_39 : decode cX10_neighbour 39 = .ok (.goto 4, 3) := by decide +kernel
theorem dX10_neighbour_42 : decode cX10_neighbour 42 = .ok (.iconst (-1), 1) := by decide +kernel
theorem dX10_neighbour_43 : decode cX10_neighbour 43 = .ok (.ireturn, 1) := by decide +kernel
theorem dX10_neighbour_44 : decode cX10_neighbour 44 = .ok (.iload_n 0, 1) := by decide +kernel
theorem dX10_neighbour_45 : decode cX10_neighbour 45 = .ok (.bipush 6, 2) := by decide +kernel
theorem dX10_neighbour_47 : decode cX10_neighbour 47 = .ok (.irem, 1) := by decide +kernel
theorem dX10_neighbour_48 : decode cX10_neighbour 48 = .ok (.ifCond .le 9, 3) := by decide +kernel
theorem dX10_neighbour_51 : decode cX10_neighbour 51 = .ok (.iload_n 0, 1) := by decide +kernel
theorem dX10_neighbour_52 : decode cX10_neighbour 52 = .ok (.iconst 1, 1) := by decide +kernel
theorem dX10_neighbour_53 : decode cX10_neighbour 53 = .ok (.isub, 1) := by decide +kernel
theorem dX10_neighbour_54 : decode cX10_neighbour 54 = .ok (.goto 4, 3) := by decide +kernel
theorem dX10_neighbour_57 : decode cX10_neighbour 57 = .ok (.iconst (-1), 1) := by decide +kernel
theorem dX10_neighbour_58 : decode cX10_neighbour 58 = .ok (.ireturn, 1) := by decide +kernel
theorem dX10_neighbour_59 : decode cX10_neighbour 59 = .ok (.iload_n 0, 1) := by decide +kernel
theorem dX10_neighbour_60 : decode cX10_neighbour 60 = .ok (.bipush 30, 2) := by decide +kernel
theorem dX10_neighbour_62 : decode cX10_neighbour 62 = .ok (.if_icmp .ge 10, 3) := by decide +kernel
theorem dX10_neighbour_65 : decode cX10_neighbour 65 = .ok (.iload_n 0, 1) := by decide +kernel
theorem dX10_neighbour_66 : decode cX10_neighbour 66 = .ok (.bipush 6, 2) := by decide +kernel
theorem dX10_neighbour_68 : decode cX10_neighbour 68 = .ok (.iadd, 1) := by decide +kernel
theorem dX10_neighbour_69 : decode cX10_neighbour 69 = .ok (.goto 4, 3) := by decide +kernel
theorem dX10_neighbour_72 : decode cX10_neighbour 72 = .ok (.iconst (-1), 1) := by decide +kernel
theorem dX10_neighbour_73 : decode cX10_neighbour 73 = .ok (.ireturn, 1) := by decide +kernel
theorem dX10_neighbour_74 : decode cX10_neighbour 74 = .ok (.iload_n 0, 1) := by decide +kernel
theorem dX10_neighbour_75 : decode cX10_neighbour 75 = .ok (.bipush 6, 2) := by decide +kernel
theorem dX10_neighbour_77 : decode cX10_neighbour 77 = .ok (.if_icmp .lt 10, 3) := by decide +kernel
theorem dX10_neighbour_80 : decode cX10_neighbour 80 = .ok (.iload_n 0, 1) := by decide +kernel
theorem dX10_neighbour_81 : decode cX10_neighbour 81 = .ok (.bipush 6, 2) := by decide +kernel
theorem dX10_neighbour_83 : decode cX10_neighbour 83 = .ok (.isub, 1) := by decide +kernel
theorem dX10_neighbour_84 : decode cX10_neighbour 84 = .ok (.goto 4, 3) := by decide +kernel
theorem dX10_neighbour_87 : decode cX10_neighbour 87 = .ok (.iconst (-1), 1) := by decide +kernel
theorem dX10_neighbour_88 : decode cX10_neighbour 88 = .ok (.ireturn, 1) := by decide +kernel
theorem dX10_apart_0 : decode cX10_apart 0 = .ok (.iload_n 0, 1) := by decide +kernel
theorem dX10_apart_1 : decode cX10_apart 1 = .ok (.bipush 6, 2) := by decide +kernel
theorem dX10_apart_3 : decode cX10_apart 3 = .ok (.irem, 1) := by decide +kernel
theorem dX10_apart_4 : decode cX10_apart 4 = .ok (.iload_n 1, 1) := by decide +kernel
theorem dX10_apart_5 : decode cX10_apart 5 = .ok (.bipush 6, 2) := by decide +kernel
theorem dX10_apart_7 : decode cX10_apart 7 = .ok (.irem, 1) := by decide +kernel
theorem dX10_apart_8 : decode cX10_apart 8 = .ok (.isub, 1) := by decide +kernel
theorem dX10_apart_9 : decode cX10_apart 9 = .ok (.invokestatic 274, 3) := by decide +kernel
theorem dX10_apart_12 : decode cX10_apart 12 = .ok (.iload_n 0, 1) := by decide +kernel
theorem dX10_apart_13 : decode cX10_apart 13 = .ok (.bipush 6, 2) := by decide +kernel
theorem dX10_apart_15 : decode cX10_apart 15 = .ok (.idiv, 1) := by decide +kernel
theorem dX10_apart_16 : decode cX10_apart 16 = .ok (.iload_n 1, 1) := by decide +kernel
theorem dX10_apart_17 : decode cX10_apart 17 = .ok (.bipush 6, 2) := by decide +kernel
theorem dX10_apart_19 : decode cX10_apart 19 = .ok (.idiv, 1) := by decide +kernel
theorem dX10_apart_20 : decode cX10_apart 20 = .ok (.isub, 1) := by decide +kernel
theorem dX10_apart_21 : decode cX10_apart 21 = .ok (.invokestatic 274, 3) := by decide +kernel
theorem dX10_apart_24 : decode cX10_apart 24 = .ok (.iadd, 1) := by decide +kernel
theorem dX10_apart_25 : decode cX10_apart 25 = .ok (.ireturn, 1) := by decide +kernel
theorem dX10_grown_0 : decode cX10_grown 0 = .ok (.lload_n 0, 1) := by decide +kernel
theorem dX10_grown_1 : decode cX10_grown 1 = .ok (.ldc2_w 277, 3) := by decide +kernel
theorem dX10_grown_4 : decode cX10_grown 4 = .ok (.land, 1) := by decide +kernel
theorem dX10_grown_5 : decode cX10_grown 5 = .ok (.iconst 1, 1) := by decide +kernel
theorem dX10_grown_6 : decode cX10_grown 6 = .ok (.lshl, 1) := by decide +kernel
theorem dX10_grown_7 : decode cX10_grown 7 = .ok (.lload_n 0, 1) := by decide +kernel
theorem dX10_grown_8 : decode cX10_grown 8 = .ok (.ldc2_w 279, 3) := by decide +kernel
theorem dX10_grown_11 : decode cX10_grown 11 = .ok (.land, 1) := by decide +kernel
theorem dX10_grown_12 : decode cX10_grown 12 = .ok (.iconst 1, 1) := by decide +kernel
theorem dX10_grown_13 : decode cX10_grown 13 = .ok (.lushr, 1) := by decide +kernel
theorem dX10_grown_14 : decode cX10_grown 14 = .ok (.lor, 1) := by decide +kernel
theorem dX10_grown_15 : decode cX10_grown 15 = .ok (.lstore_n 2, 1) := by decide +kernel
theorem dX10_grown_16 : decode cX10_grown 16 = .ok (.lload_n 0, 1) := by decide +kernel
theorem dX10_grown_17 : decode cX10_grown 17 = .ok (.lload_n 2, 1) := by decide +kernel
theorem dX10_grown_18 : decode cX10_grown 18 = .ok (.lor, 1) := by decide +kernel
theorem dX10_grown_19 : decode cX10_grown 19 = .ok (.lload_n 0, 1) := by decide +kernel
theorem dX10_grown_20 : decode cX10_grown 20 = .ok (.bipush 6, 2) := by decide +kernel
theorem dX10_grown_22 : decode cX10_grown 22 = .ok (.lshl, 1) := by decide +kernel
theorem dX10_grown_23 : decode cX10_grown 23 = .ok (.lor, 1) := by decide +kernel
theorem dX10_grown_24 : decode cX10_grown 24 = .ok (.lload_n 0, 1) := by decide +kernel
theorem dX10_grown_25 : decode cX10_grown 25 = .ok (.bipush 6, 2) := by decide +kernel
theorem dX10_grown_27 : decode cX10_grown 27 = .ok (.lushr, 1) := by decide +kernel
theorem dX10_grown_28 : decode cX10_grown 28 = .ok (.lor, 1) := by decide +kernel
theorem dX10_grown_29 : decode cX10_grown 29 = .ok (.lreturn, 1) := by decide +kernel
theorem dX10_spread_0 : decode cX10_spread 0 = .ok (.lload_n 0, 1) := by decide +kernel
theorem dX10_spread_1 : decode cX10_spread 1 = .ok (.lload_n 2, 1) := by decide +kernel
theorem dX10_spread_2 : decode cX10_spread 2 = .ok (.land, 1) := by decide +kernel
theorem dX10_spread_3 : decode cX10_spread 3 = .ok (.lstore 4, 2) := by decide +kernel
theorem dX10_spread_5 : decode cX10_spread 5 = .ok (.iconst 0, 1) := by decide +kernel
theorem dX10_spread_6 : decode cX10_spread 6 = .ok (.istore 6, 2) := by decide +kernel
theorem dX10_spread_8 : decode cX10_spread 8 = .ok (.iload 6, 2) := by decide +kernel
theorem dX10_spread_10 : decode cX10_spread 10 = .ok (.bipush 36, 2) := by decide +kernel
theorem dX10_spread_12 : decode cX10_spread 12 = .ok (.if_icmp .ge 18, 3) := by decide +kernel
theorem dX10_spread_15 : decode cX10_spread 15 = .ok (.lload 4, 2) := by decide +kernel
theorem dX10_spread_17 : decode cX10_spread 17 = .ok (.invokestatic 281, 3) := by decide +kernel
theorem dX10_spread_20 : decode cX10_spread 20 = .ok (.lload_n 2, 1) := by decide +kernel
theorem dX10_spread_21 : decode cX10_spread 21 = .ok (.land, 1) := by decide +kernel
theorem dX10_spread_22 : decode cX10_spread 22 = .ok (.lstore 4, 2) := by decide +kernel
theorem dX10_spread_24 : decode cX10_spread 24 = .ok (.iinc 6 1, 3) := by decide +kernel
theorem dX10_spread_27 : decode cX10_spread 27 = .ok (.goto (-19), 3) := by decide +kernel
theorem dX10_spread_30 : decode cX10_spread 30 = .ok (.lload 4, 2) := by decide +kernel
theorem dX10_spread_32 : decode cX10_spread 32 = .ok (.lreturn, 1) := by decide +kernel
theorem dX11_init_0 : decode cX11_init 0 = .ok (.aload_n 0, 1) := by decide +kernel
theorem dX11_init_1 : decode cX11_init 1 = .ok (.invokespecial 1, 3) := by decide +kernel
theorem dX11_init_4 : decode cX11_init 4 = .ok (.aload_n 0, 1) := by decide +kernel
theorem dX11_init_5 : decode cX11_init 5 = .ok (.bipush 6, 2) := by decide +kernel
theorem dX11_init_7 : decode cX11_init 7 = .ok (.newarray .int, 2) := by decide +kernel
theorem dX11_init_9 : decode cX11_init 9 = .ok (.putfield 7, 3) := by decide +kernel
theorem dX11_init_12 : decode cX11_init 12 = .ok (.aload_n 0, 1) := by decide +kernel
theorem dX11_init_13 : decode cX11_init 13 = .ok (.bipush 6, 2) := by decide +kernel
theorem dX11_init_15 : decode cX11_init 15 = .ok (.newarray .int, 2) := by decide +kernel
theorem dX11_init_17 : decode cX11_init 17 = .ok (.putfield 13, 3) := by decide +kernel
theorem dX11_init_20 : decode cX11_init 20 = .ok (.aload_n 0, 1) := by decide +kernel
theorem dX11_init_21 : decode cX11_init 21 = .ok (.bipush 6, 2) := by decide +kernel
theorem dX11_init_23 : decode cX11_init 23 = .ok (.newarray .int, 2) := by decide +kernel
theorem dX11_init_25 : decode cX11_init 25 = .ok (.putfield 16, 3) := by decide +kernel
theorem dX11_init_28 : decode cX11_init 28 = .ok (.aload_n 0, 1) := by decide +kernel
theorem dX11_init_29 : decode cX11_init 29 = .ok (.bipush 6, 2) := by decide +kernel
theorem dX11_init_31 : decode cX11_init 31 = .ok (.newarray .int, 2) := by decide +kernel
theorem dX11_init_33 : decode cX11_init 33 = .ok (.putfield 19, 3) := by decide +kernel
theorem dX11_init_36 : decode cX11_init 36 = .ok (.aload_n 0, 1) := by decide +kernel
theorem dX11_init_37 : decode cX11_init 37 = .ok (.bipush 36, 2) := by decide +kernel
theorem dX11_init_39 : decode cX11_init 39 = .ok (.newarray .int, 2) := by decide +kernel
theorem dX11_init_41 : decode cX11_init 41 = .ok (.putfield 22, 3) := by decide +kernel
theorem dX11_init_44 : decode cX11_init 44 = .ok (.aload_n 0, 1) := by decide +kernel
theorem dX11_init_45 : decode cX11_init 45 = .ok (.sipush 160, 3) := by decide +kernel
theorem dX11_init_48 : decode cX11_init 48 = .ok (.newarray .int, 2) := by decide +kernel
theorem dX11_init_50 : decode cX11_init 50 = .ok (.putfield 25, 3) := by decide +kernel
theorem dX11_init_53 : decode cX11_init 53 = .ok (.aload_n 0, 1) := by decide +kernel
theorem dX11_init_54 : decode cX11_init 54 = .ok (.sipush 1200, 3) := by decide +kernel
theorem dX11_init_57 : decode cX11_init 57 = .ok (.newarray .int, 2) := by decide +kernel
theorem dX11_init_59 : decode cX11_init 59 = .ok (.putfield 28, 3) := by decide +kernel
theorem dX11_init_62 : decode cX11_init 62 = .ok (.aload_n 0, 1) := by decide +kernel
theorem dX11_init_63 : decode cX11_init 63 = .ok (.bipush 24, 2) := by decide +kernel
theorem dX11_init_65 : decode cX11_init 65 = .ok (.newarray .int, 2) := by decide +kernel
theorem dX11_init_67 : decode cX11_init 67 = .ok (.putfield 31, 3) := by decide +kernel
theorem dX11_init_70 : decode cX11_init 70 = .ok (.aload_n 0, 1) := by decide +kernel
theorem dX11_init_71 : decode cX11_init 71 = .ok (.bipush 48, 2) := by decide +kernel
theorem dX11_init_73 : decode cX11_init 73 = .ok (.newarray .int, 2) := by decide +kernel
theorem dX11_init_75 : decode cX11_init 75 = .ok (.putfield 34, 3) := by decide +kernel
theorem dX11_init_78 : decode cX11_init 78 = .ok (.aload_n 0, 1) := by decide +kernel
theorem dX11_init_79 : decode cX11_init 79 = .ok (.iconst 3, 1) := by decide +kernel
theorem dX11_init_80 : decode cX11_init 80 = .ok (.newarray .int, 2) := by decide +kernel
theorem dX11_init_82 : decode cX11_init 82 = .ok (.putfield 37, 3) := by decide +kernel
theorem dX11_init_85 : decode cX11_init 85 = .ok (.aload_n 0, 1) := by decide +kernel
theorem dX11_init_86 : decode cX11_init 86 = .ok (.iconst 4, 1) := by decide +kernel
theorem dX11_init_87 : decode cX11_init 87 = .ok (.newarray .int, 2) := by decide +kernel
theorem dX11_init_89 : decode cX11_init 89 = .ok (.dup, 1) := by decide +kernel
theorem dX11_init_90 : decode cX11_init 90 = .ok (.iconst 0, 1) := by decide +kernel
theorem dX11_init_91 : decode cX11_init 91 = .ok (.iconst (-1), 1) := by decide +kernel
theorem dX11_init_92 : decode cX11_init 92 = .ok (.iastore, 1) := by decide +kernel
theorem dX11_init_93 : decode cX11_init 93 = .ok (.dup, 1) := by decide +kernel
theorem dX11_init_94 : decode cX11_init 94 = .ok (.iconst 1, 1) := by decide +kernel
theorem dX11_init_95 : decode cX11_init 95 = .ok (.iconst (-1), 1) := by decide +kernel
theorem dX11_init_96 : decode cX11_init 96 = .ok (.iastore, 1) := by decide +kernel
theorem dX11_init_97 : decode cX11_init 97 = .ok (.dup, 1) := by decide +kernel
theorem dX11_init_98 : decode cX11_init 98 = .ok (.iconst 2, 1) := by decide +kernel
theorem dX11_init_99 : decode cX11_init 99 = .ok (.iconst (-1), 1) := by decide +kernel
theorem dX11_init_100 : decode cX11_init 100 = .ok (.iastore, 1) := by decide +kernel
theorem dX11_init_101 : decode cX11_init 101 = .ok (.dup, 1) := by decide +kernel
theorem dX11_init_102 : decode cX11_init 102 = .ok (.iconst 3, 1) := by decide +kernel
theorem dX11_init_103 : decode cX11_init 103 = .ok (.iconst (-1), 1) := by decide +kernel
theorem dX11_init_104 : decode cX11_init 104 = .ok (.iastore, 1) := by decide +kernel
theorem dX11_init_105 : decode cX11_init 105 = .ok (.putfield 40, 3) := by decide +kernel
theorem dX11_init_108 : decode cX11_init 108 = .ok (.aload_n 0, 1) := by decide +kernel
theorem dX11_init_109 : decode cX11_init 109 = .ok (.iconst 4, 1) := by decide +kernel
theorem dX11_init_110 : decode cX11_init 110 = .ok (.newarray .int, 2) := by decide +kernel
theorem dX11_init_112 : decode cX11_init 112 = .ok (.putfield 43, 3) := by decide +kernel
theorem dX11_init_115 : decode cX11_init 115 = .ok (.aload_n 0, 1) := by decide +kernel
theorem dX11_init_116 : decode cX11_init 116 = .ok (.sipush 160, 3) := by decide +kernel
theorem dX11_init_119 : decode cX11_init 119 = .ok (.newarray .int, 2) := by decide +kernel
theorem dX11_init_121 : decode cX11_init 121 = .ok (.putfield 46, 3) := by decide +kernel
theorem dX11_init_124 : decode cX11_init 124 = .ok (.aload_n 0, 1) := by decide +kernel
theorem dX11_init_125 : decode cX11_init 125 = .ok (.bipush 37, 2) := by decide +kernel
theorem dX11_init_127 : decode cX11_init 127 = .ok (.newarray .int, 2) := by decide +kernel
theorem dX11_init_129 : decode cX11_init 129 = .ok (.dup, 1) := by decide +kernel
theorem dX11_init_130 : decode cX11_init 130 = .ok (.iconst 0, 1) := by decide +kernel
theorem dX11_init_131 : decode cX11_init 131 = .ok (.bipush 108, 2) := by decide +kernel
theorem dX11_init_133 : decode cX11_init 133 = .ok (.iastore, 1) := by decide +kernel
theorem dX11_init_134 : decode cX11_init 134 = .ok (.dup, 1) := by decide +kernel
theorem dX11_init_135 : decode cX11_init 135 = .ok (.iconst 1, 1) := by decide +kernel
theorem dX11_init_136 : decode cX11_init 136 = .ok (.bipush 101, 2) := by decide +kernel
theorem dX11_init_138 : decode cX11_init 138 = .ok (.iastore, 1) := by decide +kernel
theorem dX11_init_139 : decode cX11_init 139 = .ok (.dup, 1) := by decide +kernel
theorem dX11_init_140 : decode cX11_init 140 = .ok (.iconst 2, 1) := by decide +kernel
theorem dX11_init_141 : decode cX11_init 141 = .ok (.bipush 97, 2) := by decide +kernel
theorem dX11_init_143 : decode cX11_init 143 = .ok (.iastore, 1) := by decide +kernel
theorem dX11_init_144 : decode cX11_init 144 = .ok (.dup, 1) := by decide +kernel
theorem dX11_init_145 : decode cX11_init 145 = .ok (.iconst 3, 1) := by decide +kernel
theorem dX11_init_146 : decode cX11_init 146 = .ok (.bipush 118, 2) := by decide +kernel
theorem dX11_init_148 : decode cX11_init 148 = .ok (.iastore, 1) := by decide +kernel
theorem dX11_init_149 : decode cX11_init 149 = .ok (.dup, 1) := by decide +kernel
theorem dX11_init_150 : decode cX11_init 150 = .ok (.iconst 4, 1) := by decide +kernel
theorem dX11_init_151 : decode cX11_init 151 = .ok (.bipush 101, 2) := by decide +kernel
theorem dX11_init_153 : decode cX11_init 153 = .ok (.iastore, 1) := by decide +kernel
theorem dX11_init_154 : decode cX11_init 154 = .ok (.dup, 1) := by decide +kernel
theorem dX11_init_155 : decode cX11_init 155 = .ok (.iconst 5, 1) := by decide +kernel
theorem dX11_init_156 : decode cX11_init 156 = .ok (.bipush 115, 2) := by decide +kernel
theorem dX11_init_158 : decode cX11_init 158 = .ok (.iastore, 1) := by decide +kernel
theorem dX11_init_159 : decode cX11_init 159 = .ok (.dup, 1) := by decide +kernel
theorem dX11_init_160 : decode cX11_init 160 = .ok (.bipush 6, 2) := by decide +kernel
theorem dX11_init_162 : decode cX11_init 162 = .ok (.bipush 32, 2) := by decide +kernel
theorem dX11_init_164 : decode cX11_init 164 = .ok (.iastore, 1) := by decide +kernel
theorem dX11_init_165 : decode cX11_init 165 = .ok (.dup, 1) := by decide +kernel
theorem dX11_init_166 : decode cX11_init 166 = .ok (.bipush 7, 2) := by decide +kernel
theorem dX11_init_168 : decode cX11_init 168 = .ok (.bipush 104, 2) := by decide +kernel
theorem dX11_init_170 : decode cX11_init 170 = .ok (.iastore, 1) := by decide +kernel
theorem dX11_init_171 : decode cX11_init 171 = .ok (.dup, 1) := by decide +kernel
theorem dX11_init_172 : decode cX11_init 172 = .ok (.bipush 8, 2) := by decide +kernel
theorem dX11_init_174 : decode cX11_init 174 = .ok (.bipush 101, 2) := by decide +kernel
theorem dX11_init_176 : decode cX11_init 176 = .ok (.iastore, 1) := by decide +kernel
theorem dX11_init_177 : decode cX11_init 177 = .ok (.dup, 1) := by decide +kernel
theorem dX11_init_178 : decode cX11_init 178 = .ok (.bipush 9, 2) := by decide +kernel
theorem dX11_init_180 : decode cX11_init 180 = .ok (.bipush 108, 2) := by decide +kernel
theorem dX11_init_182 : decode cX11_init 182 = .ok (.iastore, 1) := by decide +kernel
theorem dX11_init_183 : decode cX11_init 183 = .ok (.dup, 1) := by decide +kernel
theorem dX11_init_184 : decode cX11_init 184 = .ok (.bipush 10, 2) := by decide +kernel
theorem dX11_init_186 : decode cX11_init 186 = .ok (.bipush 100, 2) := by decide +kernel
theorem dX11_init_188 : decode cX11_init 188 = .ok (.iastore, 1) := by decide +kernel
theorem dX11_init_189 : decode cX11_init 189 = .ok (.dup, 1) := by decide +kernel
theorem dX11_init_190 : decode cX11_init 190 = .ok (.bipush 11, 2) := by decide +kernel
theorem dX11_init_192 : decode cX11_init 192 = .ok (.bipush 32, 2) := by decide +kernel
theorem dX11_init_194 : decode cX11_init 194 = .ok (.iastore, 1) := by decide +kernel
theorem dX11_init_195 : decode cX11_init 195 = .ok (.dup, 1) := by decide +kernel
theorem dX11_init_196 : decode cX11_init 196 = .ok (.bipush 12, 2) := by decide +kernel
theorem dX11_init_198 : decode cX11_init 198 = .ok (.bipush 59, 2) := by decide +kernel
theorem dX11_init_200 : decode cX11_init 200 = .ok (.iastore, 1) := by decide +kernel
theorem dX11_init_201 : decode cX11_init 201 = .ok (.dup, 1) := by decide +kernel
theorem dX11_init_202 : decode cX11_init 202 = .ok (.bipush 13, 2) := by decide +kernel
theorem dX11_init_204 : decode cX11_init 204 = .ok (.bipush 32, 2) := by decide +kernel
theorem dX11_init_206 : decode cX11_init 206 = .ok (.iastore, 1) := by decide +kernel
theorem dX11_init_207 : decode cX11_init 207 = .ok (.dup, 1) := by decide +kernel
theorem dX11_init_208 : decode cX11_init 208 = .ok (.bipush 14, 2) := by decide +kernel
theorem dX11_init_210 : decode cX11_init 210 = .ok (.bipush 119, 2) := by decide +kernel
theorem dX11_init_212 : decode cX11_init 212 = .ok (.iastore, 1) := by decide +kernel
theorem dX11_init_213 : decode cX11_init 213 = .ok (.dup, 1) := by decide +kernel
theorem dX11_init_214 : decode cX11_init 214 = .ok (.bipush 15, 2) := by decide +kernel
theorem dX11_init_216 : decode cX11_init 216 = .ok (.bipush 101, 2) := by decide +kernel
theorem dX11_init_218 : decode cX11_init 218 = .ok (.iastore, 1) := by decide +kernel
theorem dX11_init_219 : decode cX11_init 219 = .ok (.dup, 1) := by decide +kernel
theorem dX11_init_220 : decode cX11_init 220 = .ok (.bipush 16, 2) := by decide +kernel
theorem dX11_init_222 : decode cX11_init 222 = .ok (.bipush 97, 2) := by decide +kernel
theorem dX11_init_224 : decode cX11_init 224 = .ok (.iastore, 1) := by decide +kernel
theorem dX11_init_225 : decode cX11_init 225 = .ok (.dup, 1) := by decide +kernel
theorem dX11_init_226 : decode cX11_init 226 = .ok (.bipush 17, 2) := by decide +kernel
theorem dX11_init_228 : decode cX11_init 228 = .ok (.bipush 114, 2) := by decide +kernel
theorem dX11_init_230 : decode cX11_init 230 = .ok (.iastore, 1) := by decide +kernel
theorem dX11_init_231 : decode cX11_init 231 = .ok (.dup, 1) := by decide +kernel
theorem dX11_init_232 : decode cX11_init 232 = .ok (.bipush 18, 2) := by decide +kernel
theorem dX11_init_234 : decode cX11_init 234 = .ok (.bipush 115, 2) := by decide +kernel
theorem dX11_init_236 : decode cX11_init 236 = .ok (.iastore, 1) := by decide +kernel
theorem dX11_init_237 : decode cX11_init 237 = .ok (.dup, 1) := by decide +kernel
theorem dX11_init_238 : decode cX11_init 238 = .ok (.bipush 19, 2) := by decide +kernel
theorem dX11_init_240 : decode cX11_init 240 = .ok (.bipush 32, 2) := by decide +kernel
theorem dX11_init_242 : decode cX11_init 242 = .ok (.iastore, 1) := by decide +kernel
theorem dX11_init_243 : decode cX11_init 243 = .ok (.dup, 1) := by decide +kernel
theorem dX11_init_244 : decode cX11_init 244 = .ok (.bipush 20, 2) := by decide +kernel
theorem dX11_init_246 : decode cX11_init 246 = .ok (.bipush 49, 2) := by decide +kernel
theorem dX11_init_248 : decode cX11_init 248 = .ok (.iastore, 1) := by decide +kernel
theorem dX11_init_249 : decode cX11_init 249 = .ok (.dup, 1) := by decide +kernel
theorem dX11_init_250 : decode cX11_init 250 = .ok (.bipush 21, 2) := by decide +kernel
theorem dX11_init_252 : decode cX11_init 252 = .ok (.bipush 32, 2) := by decide +kernel
theorem dX11_init_254 : decode cX11_init 254 = .ok (.iastore, 1) := by decide +kernel
theorem dX11_init_255 : decode cX11_init 255 = .ok (.dup, 1) := by decide +kernel
theorem dX11_init_256 : decode cX11_init 256 = .ok (.bipush 22, 2) := by decide +kernel
theorem dX11_init_258 : decode cX11_init 258 = .ok (.bipush 59, 2) := by decide +kernel
theorem dX11_init_260 : decode cX11_init 260 = .ok (.iastore, 1) := by decide +kernel
theorem dX11_init_261 : decode cX11_init 261 = .ok (.dup, 1) := by decide +kernel
theorem dX11_init_262 : decode cX11_init 262 = .ok (.bipush 23, 2) := by decide +kernel
theorem dX11_init_264 : decode cX11_init 264 = .ok (.bipush 32, 2) := by decide +kernel
theorem dX11_init_266 : decode cX11_init 266 = .ok (.iastore, 1) := by decide +kernel
theorem dX11_init_267 : decode cX11_init 267 = .ok (.dup, 1) := by decide +kernel
theorem dX11_init_268 : decode cX11_init 268 = .ok (.bipush 24, 2) := by decide +kernel
theorem dX11_init_270 : decode cX11_init 270 = .ok (.bipush 102, 2) := by decide +kernel
theorem dX11_init_272 : decode cX11_init 272 = .ok (.iastore, 1) := by decide +kernel
theorem dX11_init_273 : decode cX11_init 273 = .ok (.dup, 1) := by decide +kernel
theorem dX11_init_274 : decode cX11_init 274 = .ok (.bipush 25, 2) := by decide +kernel
theorem dX11_init_276 : decode cX11_init 276 = .ok (.bipush 101, 2) := by decide +kernel
theorem dX11_init_278 : decode cX11_init 278 = .ok (.iastore, 1) := by decide +kernel
theorem dX11_init_279 : decode cX11_init 279 = .ok (.dup, 1) := by decide +kernel
theorem dX11_init_280 : decode cX11_init 280 = .ok (.bipush 26, 2) := by decide +kernel
theorem dX11_init_282 : decode cX11_init 282 = .ok (.bipush 101, 2) := by decide +kernel
theorem dX11_init_284 : decode cX11_init 284 = .ok (.iastore, 1) := by decide +kernel
theorem dX11_init_285 : decode cX11_init 285 = .ok (.dup, 1) := by decide +kernel
theorem dX11_init_286 : decode cX11_init 286 = .ok (.bipush 27, 2) := by decide +kernel
theorem dX11_init_288 : decode cX11_init 288 = .ok (.bipush 108, 2) := by decide +kernel
theorem dX11_init_290 : decode cX11_init 290 = .ok (.iastore, 1) := by decide +kernel
theorem dX11_init_291 : decode cX11_init 291 = .ok (.dup, 1) := by decide +kernel
theorem dX11_init_292 : decode cX11_init 292 = .ok (.bipush 28, 2) := by decide +kernel
theorem dX11_init_294 : decode cX11_init 294 = .ok (.bipush 115, 2) := by decide +kernel
theorem dX11_init_296 : decode cX11_init 296 = .ok (.iastore, 1) := by decide +kernel
theorem dX11_init_297 : decode cX11_init 297 = .ok (.dup, 1) := by decide +kernel
theorem dX11_init_298 : decode cX11_init 298 = .ok (.bipush 29, 2) := by decide +kernel
theorem dX11_init_300 : decode cX11_init 300 = .ok (.bipush 32, 2) := by decide +kernel
theorem dX11_init_302 : decode cX11_init 302 = .ok (.iastore, 1) := by decide +kernel
theorem dX11_init_303 : decode cX11_init 303 = .ok (.dup, 1) := by decide +kernel
theorem dX11_init_304 : decode cX11_init 304 = .ok (.bipush 30, 2) := by decide +kernel
theorem dX11_init_306 : decode cX11_init 306 = .ok (.bipush 116, 2) := by decide +kernel
theorem dX11_init_308 : decode cX11_init 308 = .ok (.iastore, 1) := by decide +kernel
theorem dX11_init_309 : decode cX11_init 309 = .ok (.dup, 1) := by decide +kernel
theorem dX11_init_310 : decode cX11_init 310 = .ok (.bipush 31, 2) := by decide +kernel
theorem dX11_init_312 : decode cX11_init 312 = .ok (.bipush 104, 2) := by decide +kernel
theorem dX11_init_314 : decode cX11_init 314 = .ok (.iastore, 1) := by decide +kernel
theorem dX11_init_315 : decode cX11_init 315 = .ok (.dup, 1) := by decide +kernel
theorem dX11_init_316 : decode cX11_init 316 = .ok (.bipush 32, 2) := by decide +kernel
theorem dX11_init_318 : decode cX11_init 318 = .ok (.bipush 105, 2) := by decide +kernel
theorem dX11_init_320 : decode cX11_init 320 = .ok (.iastore, 1) := by decide +kernel
theorem dX11_init_321 : decode cX11_init 321 = .ok (.dup, 1) := by decide +kernel
theorem dX11_init_322 : decode cX11_init 322 = .ok (.bipush 33, 2) := by decide +kernel
theorem dX11_init_324 : decode cX11_init 324 = .ok (.bipush 99, 2) := by decide +kernel
theorem dX11_init_326 : decode cX11_init 326 = .ok (.iastore, 1) := by decide +kernel
theorem dX11_init_327 : decode cX11_init 327 = .ok (.dup, 1) := by decide +kernel
theorem dX11_init_328 : decode cX11_init 328 = .ok (.bipush 34, 2) := by decide +kernel
theorem dX11_init_330 : decode cX11_init 330 = .ok (.bipush 107, 2) := by decide +kernel
theorem dX11_init_332 : decode cX11_init 332 = .ok (.iastore, 1) := by decide +kernel
theorem dX11_init_333 : decode cX11_init 333 = .ok (.dup, 1) := by decide +kernel
theorem dX11_init_334 : decode cX11_init 334 = .ok (.bipush 35, 2) := by decide +kernel
theorem dX11_init_336 : decode cX11_init 336 = .ok (.bipush 32, 2) := by decide +kernel
theorem dX11_init_338 : decode cX11_init 338 = .ok (.iastore, 1) := by decide +kernel
theorem dX11_init_339 : decode cX11_init 339 = .ok (.dup, 1) := by decide +kernel
theorem dX11_init_340 : decode cX11_init 340 = .ok (.bipush 36, 2) := by decide +kernel
theorem dX11_init_342 : decode cX11_init 342 = .ok (.bipush 59, 2) := by decide +kernel
theorem dX11_init_344 : decode cX11_init 344 = .ok (.iastore, 1) := by decide +kernel
theorem dX11_init_345 : decode cX11_init 345 = .ok (.putfield 49, 3) := by decide +kernel
theorem dX11_init_348 : decode cX11_init 348 = .ok (.aload_n 0, 1) := by decide +kernel
theorem dX11_init_349 : decode cX11_init 349 = .ok (.bipush 96, 2) := by decide +kernel
theorem dX11_init_351 : decode cX11_init 351 = .ok (.newarray .int, 2) := by decide +kernel
theorem dX11_init_353 : decode cX11_init 353 = .ok (.dup, 1) := by decide +kernel
theorem dX11_init_354 : decode cX11_init 354 = .ok (.iconst 0, 1) := by decide +kernel
theorem dX11_init_355 : decode cX11_init 355 = .ok (.bipush 108, 2) := by decide +kernel
theorem dX11_init_357 : decode cX11_init 357 = .ok (.iastore, 1) := by decide +kernel
theorem dX11_init_358 : decode cX11_init 358 = .ok (.dup, 1) := by decide +kernel
theorem dX11_init_359 : decode cX11_init 359 = .ok (.iconst 1, 1) := by decide +kernel
theorem dX11_init_360 : decode cX11_init 360 = .ok (.bipush 101, 2) := by decide +kernel
theorem dX11_init_362 : decode cX11_init 362 = .ok (.iastore, 1) := by decide +kernel
theorem dX11_init_363 : decode cX11_init 363 = .ok (.dup, 1) := by decide +kernel
theorem dX11_init_364 : decode cX11_init 364 = .ok (.iconst 2, 1) := by decide +kernel
theorem dX11_init_365 : decode cX11_init 365 = .ok (.bipush 97, 2) := by decide +kernel
theorem dX11_init_367 : decode cX11_init 367 = .ok (.iastore, 1) := by decide +kernel
theorem dX11_init_368 : decode cX11_init 368 = .ok (.dup, 1) := by decide +kernel
theorem dX11_init_369 : decode cX11_init 369 = .ok (.iconst 3, 1) := by decide +kernel
theorem dX11_init_370 : decode cX11_init 370 = .ok (.bipush 118, 2) := by decide +kernel
theorem dX11_init_372 : decode cX11_init 372 = .ok (.iastore, 1) := by decide +kernel
theorem dX11_init_373 : decode cX11_init 373 = .ok (.dup, 1) := by decide +kernel
theorem dX11_init_374 : decode cX11_init 374 = .ok (.iconst 4, 1) := by decide +kernel
theorem dX11_init_375 : decode cX11_init 375 = .ok (.bipush 101, 2) := by decide +kernel
theorem dX11_init_377 : decode cX11_init 377 = .ok (.iastore, 1) := by decide +kernel
theorem dX11_init_378 : decode cX11_init 378 = .ok (.dup, 1) := by decide +kernel
theorem dX11_init_379 : decode cX11_init 379 = .ok (.iconst 5, 1) := by decide +kernel
theorem dX11_init_380 : decode cX11_init 380 = .ok (.bipush 115, 2) := by decide +kernel
theorem dX11_init_382 : decode cX11_init 382 = .ok (.iastore, 1) := by decide +kernel
theorem dX11_init_383 : decode cX11_init 383 = .ok (.dup, 1) := by decide +kernel
theorem dX11_init_384 : decode cX11_init 384 = .ok (.bipush 6, 2) := by decide +kernel
theorem dX11_init_386 : decode cX11_init 386 = .ok (.bipush 32, 2) := by decide +kernel
theorem dX11_init_388 : decode cX11_init 388 = .ok (.iastore, 1) := by decide +kernel
theorem dX11_init_389 : decode cX11_init 389 = .ok (.dup, 1) := by decide +kernel
theorem dX11_init_390 : decode cX11_init 390 = .ok (.bipush 7, 2) := by decide +kernel
theorem dX11_init_392 : decode cX11_init 392 = .ok (.bipush 32, 2) := by decide +kernel
theorem dX11_init_394 : decode cX11_init 394 = .ok (.iastore, 1) := by decide +kernel
theorem dX11_init_395 : decode cX11_init 395 = .ok (.dup, 1) := by decide +kernel
theorem dX11_init_396 : decode cX11_init 396 = .ok (.bipush 8, 2) := by decide +kernel
theorem dX11_init_398 : decode cX11_init 398 = .ok (.bipush 119, 2) := by decide +kernel
theorem dX11_init_400 : decode cX11_init 400 = .ok (.iastore, 1) := by decide +kernel
theorem dX11_init_401 : decode cX11_init 401 = .ok (.dup, 1) := by decide +kernel
theorem dX11_init_402 : decode cX11_init 402 = .ok (.bipush 9, 2) := by decide +kernel
theorem dX11_init_404 : decode cX11_init 404 = .ok (.bipush 101, 2) := by decide +kernel
theorem dX11_init_406 : decode cX11_init 406 = .ok (.iastore, 1) := by decide +kernel
theorem dX11_init_407 : decode cX11_init 407 = .ok (.dup, 1) := by decide +kernel
theorem dX11_init_408 : decode cX11_init 408 = .ok (.bipush 10, 2) := by decide +kernel
theorem dX11_init_410 : decode cX11_init 410 = .ok (.bipush 97, 2) := by decide +kernel
theorem dX11_init_412 : decode cX11_init 412 = .ok (.iastore, 1) := by decide +kernel
theorem dX11_init_413 : decode cX11_init 413 = .ok (.dup, 1) := by decide +kernel
theorem dX11_init_414 : decode cX11_init 414 = .ok (.bipush 11, 2) := by decide +kernel
theorem dX11_init_416 : decode cX11_init 416 = .ok (.bipush 114, 2) := by decide +kernel
theorem dX11_init_418 : decode cX11_init 418 = .ok (.iastore, 1) := by decide +kernel
theorem dX11_init_419 : decode cX11_init 419 = .ok (.dup, 1) := by decide +kernel
theorem dX11_init_420 : decode cX11_init 420 = .ok (.bipush 12, 2) := by decide +kernel
theorem dX11_init_422 : decode cX11_init 422 = .ok (.bipush 115, 2) := by decide +kernel
theorem dX11_init_424 : decode cX11_init 424 = .ok (.iastore, 1) := by decide +kernel
theorem dX11_init_425 : decode cX11_init 425 = .ok (.dup, 1) := by decide +kernel
theorem dX11_init_426 : decode cX11_init 426 = .ok (.bipush 13, 2) := by decide +kernel
theorem dX11_init_428 : decode cX11_init 428 = .ok (.bipush 32, 2) := by decide +kernel
theorem dX11_init_430 : decode cX11_init 430 = .ok (.iastore, 1) := by decide +kernel
theorem dX11_init_431 : decode cX11_init 431 = .ok (.dup, 1) := by decide +kernel
theorem dX11_init_432 : decode cX11_init 432 = .ok (.bipush 14, 2) := by decide +kernel
theorem dX11_init_434 : decode cX11_init 434 = .ok (.bipush 32, 2) := by decide +kernel
theorem dX11_init_436 : decode cX11_init 436 = .ok (.iastore, 1) := by decide +kernel
theorem dX11_init_437 : decode cX11_init 437 = .ok (.dup, 1) := by decide +kernel
theorem dX11_init_438 : decode cX11_init 438 = .ok (.bipush 15, 2) := by decide +kernel
theorem dX11_init_440 : decode cX11_init 440 = .ok (.bipush 32, 2) := by decide +kernel
theorem dX11_init_442 : decode cX11_init 442 = .ok (.iastore, 1) := by decide +kernel
theorem dX11_init_443 : decode cX11_init 443 = .ok (.dup, 1) := by decide +kernel
theorem dX11_init_444 : decode cX11_init 444 = .ok (.bipush 16, 2) := by decide +kernel
theorem dX11_init_446 : decode cX11_init 446 = .ok (.bipush 102, 2) := by decide +kernel
theorem dX11_init_448 : decode cX11_init 448 = .ok (.iastore, 1) := by decide +kernel
theorem dX11_init_449 : decode cX11_init 449 = .ok (.dup, 1) := by decide +kernel
theorem dX11_init_450 : decode cX11_init 450 = .ok (.bipush 17, 2) := by decide +kernel
theorem dX11_init_452 : decode cX11_init 452 = .ok (.bipush 101, 2) := by decide +kernel
theorem dX11_init_454 : decode cX11_init 454 = .ok (.iastore, 1) := by decide +kernel
theorem dX11_init_455 : decode cX11_init 455 = .ok (.dup, 1) := by decide +kernel
theorem dX11_init_456 : decode cX11_init 456 = .ok (.bipush 18, 2) := by decide +kernel
theorem dX11_init_458 : decode cX11_init 458 = .ok (.bipush 101, 2) := by decide +kernel
theorem dX11_init_460 : decode cX11_init 460 = .ok (.iastore, 1) := by decide +kernel
theorem dX11_init_461 : decode cX11_init 461 = .ok (.dup, 1) := by decide +kernel
theorem dX11_init_462 : decode cX11_init 462 = .ok (.bipush 19, 2) := by decide +kernel
theorem dX11_init_464 : decode cX11_init 464 = .ok (.bipush 108, 2) := by decide +kernel
theorem dX11_init_466 : decode cX11_init 466 = .ok (.iastore, 1) := by decide +kernel
theorem dX11_init_467 : decode cX11_init 467 = .ok (.dup, 1) := by decide +kernel
theorem dX11_init_468 : decode cX11_init 468 = .ok (.bipush 20, 2) := by decide +kernel
theorem dX11_init_470 : decode cX11_init 470 = .ok (.bipush 115, 2) := by decide +kernel
theorem dX11_init_472 : decode cX11_init 472 = .ok (.iastore, 1) := by decide +kernel
theorem dX11_init_473 : decode cX11_init 473 = .ok (.dup, 1) := by decide +kernel
theorem dX11_init_474 : decode cX11_init 474 = .ok (.bipush 21, 2) := by decide +kernel
theorem dX11_init_476 : decode cX11_init 476 = .ok (.bipush 32, 2) := by decide +kernel
theorem dX11_init_478 : decode cX11_init 478 = .ok (.iastore, 1) := by decide +kernel
theorem dX11_init_479 : decode cX11_init 479 = .ok (.dup, 1) := by decide +kernel
theorem dX11_init_480 : decode cX11_init 480 = .ok (.bipush 22, 2) := by decide +kernel
theorem dX11_init_482 : decode cX11_init 482 = .ok (.bipush 32, 2) := by decide +kernel
theorem dX11_init_484 : decode cX11_init 484 = .ok (.iastore, 1) := by decide +kernel
theorem dX11_init_485 : decode cX11_init 485 = .ok (.dup, 1) := by decide +kernel
theorem dX11_init_486 : decode cX11_init 486 = .ok (.bipush 23, 2) := by decide +kernel
theorem dX11_init_488 : decode cX11_init 488 = .ok (.bipush 32, 2) := by decide +kernel
theorem dX11_init_490 : decode cX11_init 490 = .ok (.iastore, 1) := by decide +kernel
theorem dX11_init_491 : decode cX11_init 491 = .ok (.dup, 1) := by decide +kernel
theorem dX11_init_492 : decode cX11_init 492 = .ok (.bipush 24, 2) := by decide +kernel
theorem dX11_init_494 : decode cX11_init 494 = .ok (.bipush 99, 2) := by decide +kernel
theorem dX11_init_496 : decode cX11_init 496 = .ok (.iastore, 1) := by decide +kernel
theorem dX11_init_497 : decode cX11_init 497 = .ok (.dup, 1) := by decide +kernel
theorem dX11_init_498 : decode cX11_init 498 = .ok (.bipush 25, 2) := by decide +kernel
theorem dX11_init_500 : decode cX11_init 500 = .ok (.bipush 111, 2) := by decide +kernel
theorem dX11_init_502 : decode cX11_init 502 = .ok (.iastore, 1) := by decide +kernel
theorem dX11_init_503 : decode cX11_init 503 = .ok (.dup, 1) := by decide +kernel
theorem dX11_init_504 : decode cX11_init 504 = .ok (.bipush 26, 2) := by decide +kernel
theorem dX11_init_506 : decode cX11_init 506 = .ok (.bipush 108, 2) := by decide +kernel
theorem dX11_init_508 : decode cX11_init 508 = .ok (.iastore, 1) := by decide +kernel
theorem dX11_init_509 : decode cX11_init 509 = .ok (.dup, 1) := by decide +kernel
theorem dX11_init_510 : decode cX11_init 510 = .ok (.bipush 27, 2) := by decide +kernel
theorem dX11_init_512 : decode cX11_init 512 = .ok (.bipush 117, 2) := by decide +kernel
theorem dX11_init_514 : decode cX11_init 514 = .ok (.iastore, 1) := by decide +kernel
theorem dX11_init_515 : decode cX11_init 515 = .ok (.dup, 1) := by decide +kernel
theorem dX11_init_516 : decode cX11_init 516 = .ok (.bipush 28, 2) := by decide +kernel
theorem dX11_init_518 : decode cX11_init 518 = .ok (.bipush 109, 2) := by decide +kernel
theorem dX11_init_520 : decode cX11_init 520 = .ok (.iastore, 1) := by decide +kernel
theorem dX11_init_521 : decode cX11_init 521 = .ok (.dup, 1) := by decide +kernel
theorem dX11_init_522 : decode cX11_init 522 = .ok (.bipush 29, 2) := by decide +kernel
theorem dX11_init_524 : decode cX11_init 524 = .ok (.bipush 110, 2) := by decide +kernel
theorem dX11_init_526 : decode cX11_init 526 = .ok (.iastore, 1) := by decide +kernel
theorem dX11_init_527 : decode cX11_init 527 = .ok (.dup, 1) := by decide +kernel
theorem dX11_init_528 : decode cX11_init 528 = .ok (.bipush 30, 2) := by decide +kernel
theorem dX11_init_530 : decode cX11_init 530 = .ok (.bipush 32, 2) := by decide +kernel
theorem dX11_init_532 : decode cX11_init 532 = .ok (.iastore, 1) := by decide +kernel
theorem dX11_init_533 : decode cX11_init 533 = .ok (.dup, 1) := by decide +kernel
theorem dX11_init_534 : decode cX11_init 534 = .ok (.bipush 31, 2) := by decide +kernel
theorem dX11_init_536 : decode cX11_init 536 = .ok (.bipush 32, 2) := by decide +kernel
theorem dX11_init_538 : decode cX11_init 538 = .ok (.iastore, 1) := by decide +kernel
theorem dX11_init_539 : decode cX11_init 539 = .ok (.dup, 1) := by decide +kernel
theorem dX11_init_540 : decode cX11_init 540 = .ok (.bipush 32, 2) := by decide +kernel
theorem dX11_init_542 : decode cX11_init 542 = .ok (.bipush 114, 2) := by decide +kernel
theorem dX11_init_544 : decode cX11_init 544 = .ok (.iastore, 1) := by decide +kernel
theorem dX11_init_545 : decode cX11_init 545 = .ok (.dup, 1) := by decide +kernel
theorem dX11_init_546 : decode cX11_init 546 = .ok (.bipush 33, 2) := by decide +kernel
theorem dX11_init_548 : decode cX11_init 548 = .ok (.bipush 111, 2) := by decide +kernel
theorem dX11_init_550 : decode cX11_init 550 = .ok (.iastore, 1) := by decide +kernel
theorem dX11_init_551 : decode cX11_init 551 = .ok (.dup, 1) := by decide +kernel
theorem dX11_init_552 : decode cX11_init 552 = .ok (.bipush 34, 2) := by decide +kernel
theorem dX11_init_554 : decode cX11_init 554 = .ok (.bipush 119, 2) := by decide +kernel
theorem dX11_init_556 : decode cX11_init 556 = .ok (.iastore, 1) := by decide +kernel
theorem dX11_init_557 : decode cX11_init 557 = .ok (.dup, 1) := by decide +kernel
theorem dX11_init_558 : decode cX11_init 558 = .ok (.bipush 35, 2) := by decide +kernel
theorem dX11_init_560 : decode cX11_init 560 = .ok (.bipush 32, 2) := by decide +kernel
theorem dX11_init_562 : decode cX11_init 562 = .ok (.iastore, 1) := by decide +kernel
theorem dX11_init_563 : decode cX11_init 563 = .ok (.dup, 1) := by decide +kernel
theorem dX11_init_564 : decode cX11_init 564 = .ok (.bipush 36, 2) := by decide +kernel
theorem dX11_init_566 : decode cX11_init 566 = .ok (.bipush 32, 2) := by decide +kernel
theorem dX11_init_568 : decode cX11_init 568 = .ok (.iastore, 1) := by decide +kernel
theorem dX11_init_569 : decode cX11_init 569 = .ok (.dup, 1) := by decide +kernel
theorem dX11_init_570 : decode cX11_init 570 = .ok (.bipush 37, 2) := by decide +kernel
theorem dX11_init_572 : decode cX11_init 572 = .ok (.bipush 32, 2) := by decide +kernel
theorem dX11_init_574 : decode cX11_init 574 = .ok (.iastore, 1) := by decide +kernel
theorem dX11_init_575 : decode cX11_init 575 = .ok (.dup, 1) := by decide +kernel
theorem dX11_init_576 : decode cX11_init 576 = .ok (.bipush 38, 2) := by decide +kernel
theorem dX11_init_578 : decode cX11_init 578 = .ok (.bipush 32, 2) := by decide +kernel
theorem dX11_init_580 : decode cX11_init 580 = .ok (.iastore, 1) := by decide +kernel
theorem dX11_init_581 : decode cX11_init 581 = .ok (.dup, 1) := by decide +kernel
theorem dX11_init_582 : decode cX11_init 582 = .ok (.bipush 39, 2) := by decide +kernel
theorem dX11_init_584 : decode cX11_init 584 = .ok (.bipush 32, 2) := by decide +kernel
theorem dX11_init_586 : decode cX11_init 586 = .ok (.iastore, 1) := by decide +kernel
theorem dX11_init_587 : decode cX11_init 587 = .ok (.dup, 1) := by decide +kernel
theorem dX11_init_588 : decode cX11_init 588 = .ok (.bipush 40, 2) := by decide +kernel
theorem dX11_init_590 : decode cX11_init 590 = .ok (.bipush 116, 2) := by decide +kernel
theorem dX11_init_592 : decode cX11_init 592 = .ok (.iastore, 1) := by decide +kernel
theorem dX11_init_593 : decode cX11_init 593 = .ok (.dup, 1) := by decide +kernel
theorem dX11_init_594 : decode cX11_init 594 = .ok (.bipush 41, 2) := by decide +kernel
theorem dX11_init_596 : decode cX11_init 596 = .ok (.bipush 104, 2) := by decide +kernel
theorem dX11_init_598 : decode cX11_init 598 = .ok (.iastore, 1) := by decide +kernel
theorem dX11_init_599 : decode cX11_init 599 = .ok (.dup, 1) := by decide +kernel
theorem dX11_init_600 : decode cX11_init 600 = .ok (.bipush 42, 2) := by decide +kernel
theorem dX11_init_602 : decode cX11_init 602 = .ok (.bipush 105, 2) := by decide +kernel
theorem dX11_init_604 : decode cX11_init 604 = .ok (.iastore, 1) := by decide +kernel
theorem dX11_init_605 : decode cX11_init 605 = .ok (.dup, 1) := by decide +kernel
theorem dX11_init_606 : decode cX11_init 606 = .ok (.bipush 43, 2) := by decide +kernel
theorem dX11_init_608 : decode cX11_init 608 = .ok (.bipush 99, 2) := by decide +kernel
theorem dX11_init_610 : decode cX11_init 610 = .ok (.iastore, 1) := by decide +kernel
theorem dX11_init_611 : decode cX11_init 611 = .ok (.dup, 1) := by decide +kernel
theorem dX11_init_612 : decode cX11_init 612 = .ok (.bipush 44, 2) := by decide +kernel
theorem dX11_init_614 : decode cX11_init 614 = .ok (.bipush 107, 2) := by decide +kernel
theorem dX11_init_616 : decode cX11_init 616 = .ok (.iastore, 1) := by decide +kernel
theorem dX11_init_617 : decode cX11_init 617 = .ok (.dup, 1) := by decide +kernel
theorem dX11_init_618 : decode cX11_init 618 = .ok (.bipush 45, 2) := by decide +kernel
theorem dX11_init_620 : decode cX11_init 620 = .ok (.bipush 32, 2) := by decide +kernel
theorem dX11_init_622 : decode cX11_init 622 = .ok (.iastore, 1) := by decide +kernel
theorem dX11_init_623 : decode cX11_init 623 = .ok (.dup, 1) := by decide +kernel
theorem dX11_init_624 : decode cX11_init 624 = .ok (.bipush 46, 2) := by decide +kernel
theorem dX11_init_626 : decode cX11_init 626 = .ok (.bipush 32, 2) := by decide +kernel
theorem dX11_init_628 : decode cX11_init 628 = .ok (.iastore, 1) := by decide +kernel
theorem dX11_init_629 : decode cX11_init 629 = .ok (.dup, 1) := by decide +kernel
theorem dX11_init_630 : decode cX11_init 630 = .ok (.bipush 47, 2) := by decide +kernel
theorem dX11_init_632 : decode cX11_init 632 = .ok (.bipush 32, 2) := by decide +kernel
theorem dX11_init_634 : decode cX11_init 634 = .ok (.iastore, 1) := by decide +kernel
theorem dX11_init_635 : decode cX11_init 635 = .ok (.dup, 1) := by decide +kernel
theorem dX11_init_636 : decode cX11_init 636 = .ok (.bipush 48, 2) := by decide +kernel
theorem dX11_init_638 : decode cX11_init 638 = .ok (.bipush 100, 2) := by decide +kernel
theorem dX11_init_640 : decode cX11_init 640 = .ok (.iastore, 1) := by decide +kernel
theorem dX11_init_641 : decode cX11_init 641 = .ok (.dup, 1) := by decide +kernel
theorem dX11_init_642 : decode cX11_init 642 = .ok (.bipush 49, 2) := by decide +kernel
theorem dX11_init_644 : decode cX11_init 644 = .ok (.bipush 97, 2) := by decide +kernel
theorem dX11_init_646 : decode cX11_init 646 = .ok (.iastore, 1) := by decide +kernel
theorem dX11_init_647 : decode cX11_init 647 = .ok (.dup, 1) := by decide +kernel
theorem dX11_init_648 : decode cX11_init 648 = .ok (.bipush 50, 2) := by decide +kernel
theorem dX11_init_650 : decode cX11_init 650 = .ok (.bipush 121, 2) := by decide +kernel
theorem dX11_init_652 : decode cX11_init 652 = .ok (.iastore, 1) := by decide +kernel
theorem dX11_init_653 : decode cX11_init 653 = .ok (.dup, 1) := by decide +kernel
theorem dX11_init_654 : decode cX11_init 654 = .ok (.bipush 51, 2) := by decide +kernel
theorem dX11_init_656 : decode cX11_init 656 = .ok (.bipush 32, 2) := by decide +kernel
theorem dX11_init_658 : decode cX11_init 658 = .ok (.iastore, 1) := by decide +kernel
theorem dX11_init_659 : decode cX11_init 659 = .ok (.dup, 1) := by decide +kernel
theorem dX11_init_660 : decode cX11_init 660 = .ok (.bipush 52, 2) := by decide +kernel
theorem dX11_init_662 : decode cX11_init 662 = .ok (.bipush 32, 2) := by decide +kernel
theorem dX11_init_664 : decode cX11_init 664 = .ok (.iastore, 1) := by decide +kernel
theorem dX11_init_665 : decode cX11_init 665 = .ok (.dup, 1) := by decide +kernel
theorem dX11_init_666 : decode cX11_init 666 = .ok (.bipush 53, 2) := by decide +kernel
theorem dX11_init_668 : decode cX11_init 668 = .ok (.bipush 32, 2) := by decide +kernel
theorem dX11_init_670 : decode cX11_init 670 = .ok (.iastore, 1) := by decide +kernel
theorem dX11_init_671 : decode cX11_init 671 = .ok (.dup, 1) := by decide +kernel
theorem dX11_init_672 : decode cX11_init 672 = .ok (.bipush 54, 2) := by decide +kernel
theorem dX11_init_674 : decode cX11_init 674 = .ok (.bipush 32, 2) := by decide +kernel
theorem dX11_init_676 : decode cX11_init 676 = .ok (.iastore, 1) := by decide +kernel
theorem dX11_init_677 : decode cX11_init 677 = .ok (.dup, 1) := by decide +kernel
theorem dX11_init_678 : decode cX11_init 678 = .ok (.bipush 55, 2) := by decide +kernel
theorem dX11_init_680 : decode cX11_init 680 = .ok (.bipush 32, 2) := by decide +kernel
theorem dX11_init_682 : decode cX11_init 682 = .ok (.iastore, 1) := by decide +kernel
theorem dX11_init_683 : decode cX11_init 683 = .ok (.dup, 1) := by decide +kernel
theorem dX11_init_684 : decode cX11_init 684 = .ok (.bipush 56, 2) := by decide +kernel
theorem dX11_init_686 : decode cX11_init 686 = .ok (.bipush 104, 2) := by decide +kernel
theorem dX11_init_688 : decode cX11_init 688 = .ok (.iastore, 1) := by decide +kernel
theorem dX11_init_689 : decode cX11_init 689 = .ok (.dup, 1) := by decide +kernel
theorem dX11_init_690 : decode cX11_init 690 = .ok (.bipush 57, 2) := by decide +kernel
theorem dX11_init_692 : decode cX11_init 692 = .ok (.bipush 101, 2) := by decide +kernel
theorem dX11_init_694 : decode cX11_init 694 = .ok (.iastore, 1) := by decide +kernel
theorem dX11_init_695 : decode cX11_init 695 = .ok (.dup, 1) := by decide +kernel
theorem dX11_init_696 : decode cX11_init 696 = .ok (.bipush 58, 2) := by decide +kernel
theorem dX11_init_698 : decode cX11_init 698 = .ok (.bipush 108, 2) := by decide +kernel
theorem dX11_init_700 : decode cX11_init 700 = .ok (.iastore, 1) := by decide +kernel
theorem dX11_init_701 : decode cX11_init 701 = .ok (.dup, 1) := by decide +kernel
theorem dX11_init_702 : decode cX11_init 702 = .ok (.bipush 59, 2) := by decide +kernel
theorem dX11_init_704 : decode cX11_init 704 = .ok (.bipush 100, 2) := by decide +kernel
theorem dX11_init_706 : decode cX11_init 706 = .ok (.iastore, 1) := by decide +kernel
theorem dX11_init_707 : decode cX11_init 707 = .ok (.dup, 1) := by decide +kernel
theorem dX11_init_708 : decode cX11_init 708 = .ok (.bipush 60, 2) := by decide +kernel
theorem dX11_init_710 : decode cX11_init 710 = .ok (.bipush 32, 2) := by decide +kernel
theorem dX11_init_712 : decode cX11_init 712 = .ok (.iastore, 1) := by decide +kernel
theorem dX11_init_713 : decode cX11_init 713 = .ok (.dup, 1) := by decide +kernel
theorem dX11_init_714 : decode cX11_init 714 = .ok (.bipush 61, 2) := by decide +kernel
theorem dX11_init_716 : decode cX11_init 716 = .ok (.bipush 32, 2) := by decide +kernel
theorem dX11_init_718 : decode cX11_init 718 = .ok (.iastore, 1) := by decide +kernel
theorem dX11_init_719 : decode cX11_init 719 = .ok (.dup, 1) := by decide +kernel
theorem dX11_init_720 : decode cX11_init 720 = .ok (.bipush 62, 2) := by decide +kernel
theorem dX11_init_722 : decode cX11_init 722 = .ok (.bipush 32, 2) := by decide +kernel
theorem dX11_init_724 : decode cX11_init 724 = .ok (.iastore, 1) := by decide +kernel
theorem dX11_init_725 : decode cX11_init 725 = .ok (.dup, 1) := by decide +kernel
theorem dX11_init_726 : decode cX11_init 726 = .ok (.bipush 63, 2) := by decide +kernel
theorem dX11_init_728 : decode cX11_init 728 = .ok (.bipush 32, 2) := by decide +kernel
theorem dX11_init_730 : decode cX11_init 730 = .ok (.iastore, 1) := by decide +kernel
theorem dX11_init_731 : decode cX11_init 731 = .ok (.dup, 1) := by decide +kernel
theorem dX11_init_732 : decode cX11_init 732 = .ok (.bipush 64, 2) := by decide +kernel
theorem dX11_init_734 : decode cX11_init 734 = .ok (.bipush 109, 2) := by decide +kernel
theorem dX11_init_736 : decode cX11_init 736 = .ok (.iastore, 1) := by decide +kernel
theorem dX11_init_737 : decode cX11_init 737 = .ok (.dup, 1) := by decide +kernel
theorem dX11_init_738 : decode cX11_init 738 = .ok (.bipush 65, 2) := by decide +kernel
theorem dX11_init_740 : decode cX11_init 740 = .ok (.bipush 111, 2) := by decide +kernel
theorem dX11_init_742 : decode cX11_init 742 = .ok (.iastore, 1) := by decide +kernel
theorem dX11_init_743 : decode cX11_init 743 = .ok (.dup, 1) := by decide +kernel
theorem dX11_init_744 : decode cX11_init 744 = .ok (.bipush 66, 2) := by decide +kernel
theorem dX11_init_746 : decode cX11_init 746 = .ok (.bipush 114, 2) := by decide +kernel
theorem dX11_init_748 : decode cX11_init 748 = .ok (.iastore, 1) := by decide +kernel
theorem dX11_init_749 : decode cX11_init 749 = .ok (.dup, 1) := by decide +kernel
theorem dX11_init_750 : decode cX11_init 750 = .ok (.bipush 67, 2) := by decide +kernel
theorem dX11_init_752 : decode cX11_init 752 = .ok (.bipush 101, 2) := by decide +kernel
theorem dX11_init_754 : decode cX11_init 754 = .ok (.iastore, 1) := by decide +kernel
theorem dX11_init_755 : decode cX11_init 755 = .ok (.dup, 1) := by decide +kernel
theorem dX11_init_756 : decode cX11_init 756 = .ok (.bipush 68, 2) := by decide +kernel
theorem dX11_init_758 : decode cX11_init 758 = .ok (.bipush 32, 2) := by decide +kernel
theorem dX11_init_760 : decode cX11_init 760 = .ok (.iastore, 1) := by decide +kernel
theorem dX11_init_761 : decode cX11_init 761 = .ok (.dup, 1) := by decide +kernel
theorem dX11_init_762 : decode cX11_init 762 = .ok (.bipush 69, 2) := by decide +kernel
theorem dX11_init_764 : decode cX11_init 764 = .ok (.bipush 32, 2) := by decide +kernel
theorem dX11_init_766 : decode cX11_init 766 = .ok (.iastore, 1) := by decide +kernel
theorem dX11_init_767 : decode cX11_init 767 = .ok (.dup, 1) := by decide +kernel
theorem dX11_init_768 : decode cX11_init 768 = .ok (.bipush 70, 2) := by decide +kernel
theorem dX11_init_770 : decode cX11_init 770 = .ok (.bipush 32, 2) := by decide +kernel
theorem dX11_init_772 : decode cX11_init 772 = .ok (.iastore, 1) := by decide +kernel
theorem dX11_init_773 : decode cX11_init 773 = .ok (.dup, 1) := by decide +kernel
theorem dX11_init_774 : decode cX11_init 774 = .ok (.bipush 71, 2) := by decide +kernel
theorem dX11_init_776 : decode cX11_init 776 = .ok (.bipush 32, 2) := by decide +kernel
theorem dX11_init_778 : decode cX11_init 778 = .ok (.iastore, 1) := by decide +kernel
theorem dX11_init_779 : decode cX11_init 779 = .ok (.dup, 1) := by decide +kernel
theorem dX11_init_780 : decode cX11_init 780 = .ok (.bipush 72, 2) := by decide +kernel
theorem dX11_init_782 : decode cX11_init 782 = .ok (.bipush 111, 2) := by decide +kernel
theorem dX11_init_784 : decode cX11_init 784 = .ok (.iastore, 1) := by decide +kernel
theorem dX11_init_785 : decode cX11_init 785 = .ok (.dup, 1) := by decide +kernel
theorem dX11_init_786 : decode cX11_init 786 = .ok (.bipush 73, 2) := by decide +kernel
theorem dX11_init_788 : decode cX11_init 788 = .ok (.bipush 114, 2) := by decide +kernel
theorem dX11_init_790 : decode cX11_init 790 = .ok (.iastore, 1) := by decide +kernel
theorem dX11_init_791 : decode cX11_init 791 = .ok (.dup, 1) := by decide +kernel
theorem dX11_init_792 : decode cX11_init 792 = .ok (.bipush 74, 2) := by decide +kernel
theorem dX11_init_794 : decode cX11_init 794 = .ok (.bipush 32, 2) := by decide +kernel
theorem dX11_init_796 : decode cX11_init 796 = .ok (.iastore, 1) := by decide +kernel
theorem dX11_init_797 : decode cX11_init 797 = .ok (.dup, 1) := by decide +kernel
theorem dX11_init_798 : decode cX11_init 798 = .ok (.bipush 75, 2) := by decide +kernel
theorem dX11_init_800 : decode cX11_init 800 = .ok (.bipush 32, 2) := by decide +kernel
theorem dX11_init_802 : decode cX11_init 802 = .ok (.iastore, 1) := by decide +kernel
theorem dX11_init_803 : decode cX11_init 803 = .ok (.dup, 1) := by decide +kernel
theorem dX11_init_804 : decode cX11_init 804 = .ok (.bipush 76, 2) := by decide +kernel
theorem dX11_init_806 : decode cX11_init 806 = .ok (.bipush 32, 2) := by decide +kernel
theorem dX11_init_808 : decode cX11_init 808 = .ok (.iastore, 1) := by decide +kernel
theorem dX11_init_809 : decode cX11_init 809 = .ok (.dup, 1) := by decide +kernel
theorem dX11_init_810 : decode cX11_init 810 = .ok (.bipush 77, 2) := by decide +kernel
theorem dX11_init_812 : decode cX11_init 812 = .ok (.bipush 32, 2) := by decide +kernel
theorem dX11_init_814 : decode cX11_init 814 = .ok (.iastore, 1) := by decide +kernel
theorem dX11_init_815 : decode cX11_init 815 = .ok (.dup, 1) := by decide +kernel
theorem dX11_init_816 : decode cX11_init 816 = .ok (.bipush 78, 2) := by decide +kernel
theorem dX11_init_818 : decode cX11_init 818 = .ok (.bipush 32, 2) := by decide +kernel
theorem dX11_init_820 : decode cX11_init 820 = .ok (.iastore, 1) := by decide +kernel
theorem dX11_init_821 : decode cX11_init 821 = .ok (.dup, 1) := by decide +kernel
theorem dX11_init_822 : decode cX11_init 822 = .ok (.bipush 79, 2) := by decide +kernel
theorem dX11_init_824 : decode cX11_init 824 = .ok (.bipush 32, 2) := by decide +kernel
theorem dX11_init_826 : decode cX11_init 826 = .ok (.iastore, 1) := by decide +kernel
theorem dX11_init_827 : decode cX11_init 827 = .ok (.dup, 1) := by decide +kernel
theorem dX11_init_828 : decode cX11_init 828 = .ok (.bipush 80, 2) := by decide +kernel
theorem dX11_init_830 : decode cX11_init 830 = .ok (.bipush 97, 2) := by decide +kernel
theorem dX11_init_832 : decode cX11_init 832 = .ok (.iastore, 1) := by decide +kernel
theorem dX11_init_833 : decode cX11_init 833 = .ok (.dup, 1) := by decide +kernel
theorem dX11_init_834 : decode cX11_init 834 = .ok (.bipush 81, 2) := by decide +kernel
theorem dX11_init_836 : decode cX11_init 836 = .ok (.bipush 110, 2) := by decide +kernel
theorem dX11_init_838 : decode cX11_init 838 = .ok (.iastore, 1) := by decide +kernel
theorem dX11_init_839 : decode cX11_init 839 = .ok (.dup, 1) := by decide +kernel
theorem dX11_init_840 : decode cX11_init 840 = .ok (.bipush 82, 2) := by decide +kernel
theorem dX11_init_842 : decode cX11_init 842 = .ok (.bipush 100, 2) := by decide +kernel
theorem dX11_init_844 : decode cX11_init 844 = .ok (.iastore, 1) := by decide +kernel
theorem dX11_init_845 : decode cX11_init 845 = .ok (.dup, 1) := by decide +kernel
theorem dX11_init_846 : decode cX11_init 846 = .ok (.bipush 83, 2) := by decide +kernel
theorem dX11_init_848 : decode cX11_init 848 = .ok (.bipush 32, 2) := by decide +kernel
theorem dX11_init_850 : decode cX11_init 850 = .ok (.iastore, 1) := by decide +kernel
theorem dX11_init_851 : decode cX11_init 851 = .ok (.dup, 1) := by decide +kernel
theorem dX11_init_852 : decode cX11_init 852 = .ok (.bipush 84, 2) := by decide +kernel
theorem dX11_init_854 : decode cX11_init 854 = .ok (.bipush 32, 2) := by decide +kernel
theorem dX11_init_856 : decode cX11_init 856 = .ok (.iastore, 1) := by decide +kernel
theorem dX11_init_857 : decode cX11_init 857 = .ok (.dup, 1) := by decide +kernel
theorem dX11_init_858 : decode cX11_init 858 = .ok (.bipush 85, 2) := by decide +kernel
theorem dX11_init_860 : decode cX11_init 860 = .ok (.bipush 32, 2) := by decide +kernel
theorem dX11_init_862 : decode cX11_init 862 = .ok (.iastore, 1) := by decide +kernel
theorem dX11_init_863 : decode cX11_init 863 = .ok (.dup, 1) := by decide +kernel
theorem dX11_init_864 : decode cX11_init 864 = .ok (.bipush 86, 2) := by decide +kernel
theorem dX11_init_866 : decode cX11_init 866 = .ok (.bipush 32, 2) := by decide +kernel
theorem dX11_init_868 : decode cX11_init 868 = .ok (.iastore, 1) := by decide +kernel
theorem dX11_init_869 : decode cX11_init 869 = .ok (.dup, 1) := by decide +kernel
theorem dX11_init_870 : decode cX11_init 870 = .ok (.bipush 87, 2) := by decide +kernel
theorem dX11_init_872 : decode cX11_init 872 = .ok (.bipush 32, 2) := by decide +kernel
theorem dX11_init_874 : decode cX11_init 874 = .ok (.iastore, 1) := by decide +kernel
theorem dX11_init_875 : decode cX11_init 875 = .ok (.dup, 1) := by decide +kernel
theorem dX11_init_876 : decode cX11_init 876 = .ok (.bipush 88, 2) := by decide +kernel
theorem dX11_init_878 : decode cX11_init 878 = .ok (.bipush 110, 2) := by decide +kernel
theorem dX11_init_880 : decode cX11_init 880 = .ok (.iastore, 1) := by decide +kernel
theorem dX11_init_881 : decode cX11_init 881 = .ok (.dup, 1) := by decide +kernel
theorem dX11_init_882 : decode cX11_init 882 = .ok (.bipush 89, 2) := by decide +kernel
theorem dX11_init_884 : decode cX11_init 884 = .ok (.bipush 111, 2) := by decide +kernel
theorem dX11_init_886 : decode cX11_init 886 = .ok (.iastore, 1) := by decide +kernel
theorem dX11_init_887 : decode cX11_init 887 = .ok (.dup, 1) := by decide +kernel
theorem dX11_init_888 : decode cX11_init 888 = .ok (.bipush 90, 2) := by decide +kernel
theorem dX11_init_890 : decode cX11_init 890 = .ok (.bipush 116, 2) := by decide +kernel
theorem dX11_init_892 : decode cX11_init 892 = .ok (.iastore, 1) := by decide +kernel
theorem dX11_init_893 : decode cX11_init 893 = .ok (.dup, 1) := by decide +kernel
theorem dX11_init_894 : decode cX11_init 894 = .ok (.bipush 91, 2) := by decide +kernel
theorem dX11_init_896 : decode cX11_init 896 = .ok (.bipush 32, 2) := by decide +kernel
theorem dX11_init_898 : decode cX11_init 898 = .ok (.iastore, 1) := by decide +kernel
theorem dX11_init_899 : decode cX11_init 899 = .ok (.dup, 1) := by decide +kernel
theorem dX11_init_900 : decode cX11_init 900 = .ok (.bipush 92, 2) := by decide +kernel
theorem dX11_init_902 : decode cX11_init 902 = .ok (.bipush 32, 2) := by decide +kernel
theorem dX11_init_904 : decode cX11_init 904 = .ok (.iastore, 1) := by decide +kernel
theorem dX11_init_905 : decode cX11_init 905 = .ok (.dup, 1) := by decide +kernel
theorem dX11_init_906 : decode cX11_init 906 = .ok (.bipush 93, 2) := by decide +kernel
theorem dX11_init_908 : decode cX11_init 908 = .ok (.bipush 32, 2) := by decide +kernel
theorem dX11_init_910 : decode cX11_init 910 = .ok (.iastore, 1) := by decide +kernel
theorem dX11_init_911 : decode cX11_init 911 = .ok (.dup, 1) := by decide +kernel
theorem dX11_init_912 : decode cX11_init 912 = .ok (.bipush 94, 2) := by decide +kernel
theorem dX11_init_914 : decode cX11_init 914 = .ok (.bipush 32, 2) := by decide +kernel
theorem dX11_init_916 : decode cX11_init 916 = .ok (.iastore, 1) := by decide +kernel
theorem dX11_init_917 : decode cX11_init 917 = .ok (.dup, 1) := by decide +kernel
theorem dX11_init_918 : decode cX11_init 918 = .ok (.bipush 95, 2) := by decide +kernel
theorem dX11_init_920 : decode cX11_init 920 = .ok (.bipush 32, 2) := by decide +kernel
theorem dX11_init_922 : decode cX11_init 922 = .ok (.iastore, 1) := by decide +kernel
theorem dX11_init_923 : decode cX11_init 923 = .ok (.putfield 52, 3) := by decide +kernel
theorem dX11_init_926 : decode cX11_init 926 = .ok (.aload_n 0, 1) := by decide +kernel
theorem dX11_init_927 : decode cX11_init 927 = .ok (.sipush 200, 3) := by decide +kernel
theorem dX11_init_930 : decode cX11_init 930 = .ok (.newarray .int, 2) := by decide +kernel
theorem dX11_init_932 : decode cX11_init 932 = .ok (.putfield 55, 3) := by decide +kernel
theorem dX11_init_935 : decode cX11_init 935 = .ok (.aload_n 0, 1) := by decide +kernel
theorem dX11_init_936 : decode cX11_init 936 = .ok (.sipush 200, 3) := by decide +kernel
theorem dX11_init_939 : decode cX11_init 939 = .ok (.newarray .int, 2) := by decide +kernel
theorem dX11_init_941 : decode cX11_init 941 = .ok (.putfield 58, 3) := by decide +kernel
theorem dX11_init_944 : decode cX11_init 944 = .ok (.aload_n 0, 1) := by decide +kernel
theorem dX11_init_945 : decode cX11_init 945 = .ok (.bipush 6, 2) := by decide +kernel
theorem dX11_init_947 : decode cX11_init 947 = .ok (.newarray .int, 2) := by decide +kernel
theorem dX11_init_949 : decode cX11_init 949 = .ok (.putfield 61, 3) := by decide +kernel
theorem dX11_init_952 : decode cX11_init 952 = .ok (.aload_n 0, 1) := by decide +kernel
theorem dX11_init_953 : decode cX11_init 953 = .ok (.bipush 37, 2) := by decide +kernel
theorem dX11_init_955 : decode cX11_init 955 = .ok (.newarray .int, 2) := by decide +kernel
theorem dX11_init_957 : decode cX11_init 957 = .ok (.putfield 64, 3) := by decide +kernel
theorem dX11_init_960 : decode cX11_init 960 = .ok (.aload_n 0, 1) := by decide +kernel
theorem dX11_init_961 : decode cX11_init 961 = .ok (.bipush 36, 2) := by decide +kernel
theorem dX11_init_963 : decode cX11_init 963 = .ok (.newarray .int, 2) := by decide +kernel
theorem dX11_init_965 : decode cX11_init 965 = .ok (.putfield 67, 3) := by decide +kernel
theorem dX11_init_968 : decode cX11_init 968 = .ok (.aload_n 0, 1) := by decide +kernel
theorem dX11_init_969 : decode cX11_init 969 = .ok (.bipush 36, 2) := by decide +kernel
theorem dX11_init_971 : decode cX11_init 971 = .ok (.newarray .int, 2) := by decide +kernel
theorem dX11_init_973 : decode cX11_init 973 = .ok (.putfield 70, 3) := by decide +kernel
theorem dX11_init_976 : decode cX11_init 976 = .ok (.iconst 0, 1) := by decide +kernel
theorem dX11_init_977 : decode cX11_init 977 = .ok (.istore_n 1, 1) := by decide +kernel
theorem dX11_init_978 : decode cX11_init 978 = .ok (.iload_n 1, 1) := by decide +kernel
theorem dX11_init_979 : decode cX11_init 979 = .ok (.bipush 37, 2) := by decide +kernel
theorem dX11_init_981 : decode cX11_init 981 = .ok (.if_icmp .ge 21, 3) := by decide +kernel
theorem dX11_init_984 : decode cX11_init 984 = .ok (.aload_n 0, 1) := by decide +kernel
theorem dX11_init_985 : decode cX11_init 985 = .ok (.getfield 25, 3) := by decide +kernel
theorem dX11_init_988 : decode cX11_init 988 = .ok (.iload_n 1, 1) := by decide +kernel
theorem dX11_init_989 : decode cX11_init 989 = .ok (.aload_n 0, 1) := by decide +kernel
theorem dX11_init_990 : decode cX11_init 990 = .ok (.getfield 49, 3) := by decide +kernel
theorem dX11_init_993 : decode cX11_init 993 = .ok (.iload_n 1, 1) := by decide +kernel
theorem dX11_init_994 : decode cX11_init 994 = .ok (.iaload, 1) := by decide +kernel
theorem dX11_init_995 : decode cX11_init 995 = .ok (.iastore, 1) := by decide +kernel
theorem dX11_init_996 : decode cX11_init 996 = .ok (.iinc 1 1, 3) := by decide +kernel
theorem dX11_init_999 : decode cX11_init 999 = .ok (.goto (-21), 3) := by decide +kernel
theorem dX11_init_1002 : decode cX11_init 1002 = .ok (.aload_n 0, 1) := by decide +kernel
theorem dX11_init_1003 : decode cX11_init 1003 = .ok (.bipush 37, 2) := by decide +kernel
theorem dX11_init_1005 : decode cX11_init 1005 = .ok (.putfield 73, 3) := by decide +kernel
theorem dX11_init_1008 : decode cX11_init 1008 = .ok (.aload_n 0, 1) := by decide +kernel
theorem dX11_init_1009 : decode cX11_init 1009 = .ok (.invokevirtual 77, 3) := by decide +kernel
theorem dX11_init_1012 : decode cX11_init 1012 = .ok (.pop, 1) := by decide +kernel
theorem dX11_init_1013 : decode cX11_init 1013 = .ok (.return_, 1) := by decide +kernel
theorem dX11_in_0 : decode cX11_in 0 = .ok (.iload_n 0, 1) := by decide +kernel
theorem dX11_in_1 : decode cX11_in 1 = .ok (.iload_n 1, 1) := by decide +kernel
theorem dX11_in_2 : decode cX11_in 2 = .ok (.if_icmp .lt 12, 3) := by decide +kernel
theorem dX11_in_5 : decode cX11_in 5 = .ok (.iload_n 0, 1) := by decide +kernel
theorem dX11_in_6 : decode cX11_in 6 = .ok (.iload_n 2, 1) := by decide +kernel
theorem dX11_in_7 : decode cX11_in 7 = .ok (.if_icmp .gt 7, 3) := by decide +kernel
theorem dX11_in_10 : decode cX11_in 10 = .ok (.iconst 1, 1) := by decide +kernel
theorem dX11_in_11 : decode cX11_in 11 = .ok (.goto 4, 3) := by decide +kernel
theorem dX11_in_14 : decode cX11_in 14 = .ok (.iconst 0, 1) := by decide +kernel
theorem dX11_in_15 : decode cX11_in 15 = .ok (.ireturn, 1) := by decide +kernel
theorem dX11_within_0 : decode cX11_within 0 = .ok (.iload_n 0, 1) := by decide +kernel
theorem dX11_within_1 : decode cX11_within 1 = .ok (.iload_n 1, 1) := by decide +kernel
theorem dX11_within_2 : decode cX11_within 2 = .ok (.if_icmp .ge 7, 3) := by decide +kernel
theorem dX11_within_5 : decode cX11_within 5 = .ok (.iload_n 1, 1) := by decide +kernel
theorem dX11_within_6 : decode cX11_within 6 = .ok (.goto 13, 3) := by decide +kernel
theorem dX11_within_9 : decode cX11_within 9 = .ok (.iload_n 0, 1) := by decide +kernel
theorem dX11_within_10 : decode cX11_within 10 = .ok (.iload_n 2, 1) := by decide +kernel
theorem dX11_within_11 : decode cX11_within 11 = .ok (.if_icmp .le 7, 3) := by decide +kernel
theorem dX11_within_14 : decode cX11_within 14 = .ok (.iload_n 2, 1) := by decide +kernel
theorem dX11_within_15 : decode cX11_within 15 = .ok (.goto 4, 3) := by decide +kernel
theorem dX11_within_18 : decode cX11_within 18 = .ok (.iload_n 0, 1) := by decide +kernel
theorem dX11_within_19 : decode cX11_within 19 = .ok (.ireturn, 1) := by decide +kernel
theorem dX11_isOne_0 : decode cX11_isOne 0 = .ok (.iload_n 1, 1) := by decide +kernel
theorem dX11_isOne_1 : decode cX11_isOne 1 = .ok (.iconst 0, 1) := by decide +kernel
theorem dX11_isOne_2 : decode cX11_isOne 2 = .ok (.aload_n 0, 1) := by decide +kernel
theorem dX11_isOne_3 : decode cX11_isOne 3 = .ok (.getfield 81, 3) := by decide +kernel
theorem dX11_isOne_6 : decode cX11_isOne 6 = .ok (.iconst 1, 1) := by decide +kernel
theorem dX11_isOne_7 : decode cX11_isOne 7 = .ok (.isub, 1) := by decide +kernel
theorem dX11_isOne_8 : decode cX11_isOne 8 = .ok (.invokestatic 84, 3) := by decide +kernel
theorem dX11_isOne_11 : decode cX11_isOne 11 = .ok (.ireturn, 1) := by decide +kernel
theorem dX11_isCell_0 : decode cX11_isCell 0 = .ok (.iload_n 0, 1) := by decide +kernel
theorem dX11_isCell_1 : decode cX11_isCell 1 = .ok (.iconst 0, 1) := by decide +kernel
theorem dX11_isCell_2 : decode cX11_isCell 2 = .ok (.bipush 35, 2) := by decide +kernel
theorem dX11_isCell_4 : decode cX11_isCell 4 = .ok (.invokestatic 84, 3) := by decide +kernel
theorem dX11_isCell_7 : decode cX11_isCell 7 = .ok (.ireturn, 1) := by decide +kernel
theorem dX11_without0_0 : decode cX11_without0 0 = .ok (.iload_n 0, 1) := by decide +kernel
theorem dX11_without0_1 : decode cX11_without0 1 = .ok (.iload_n 1, 1) := by decide +kernel
theorem dX11_without0_2 : decode cX11_without0 2 = .ok (.if_icmp .ge 9, 3) := by decide +kernel
theorem dX11_without0_5 : decode cX11_without0 5 = .ok (.iload_n 1, 1) := by decide +kernel
theorem dX11_without0_6 : decode cX11_without0 6 = .ok (.iload_n 0, 1) := by decide +kernel
theorem dX11_without0_7 : decode cX11_without0 7 = .ok (.isub, 1) := by decide +kernel
theorem dX11_without0_8 : decode cX11_without0 8 = .ok (.goto 6, 3) := by decide +kernel
theorem dX11_without0_11 : decode cX11_without0 11 = .ok (.iload_n 0, 1) := by decide +kernel
theorem dX11_without0_12 : decode cX11_without0 12 = .ok (.iload_n 1, 1) := by decide +kernel
theorem dX11_without0_13 : decode cX11_without0 13 = .ok (.isub, 1) := by decide +kernel
theorem dX11_without0_14 : decode cX11_without0 14 = .ok (.ireturn, 1) := by decide +kernel
theorem dX11_apart_0 : decode cX11_apart 0 = .ok (.iload_n 0, 1) := by decide +kernel
theorem dX11_apart_1 : decode cX11_apart 1 = .ok (.bipush 6, 2) := by decide +kernel
theorem dX11_apart_3 : decode cX11_apart 3 = .ok (.irem, 1) := by decide +kernel
theorem dX11_apart_4 : decode cX11_apart 4 = .ok (.iload_n 1, 1) := by decide +kernel
theorem dX11_apart_5 : decode cX11_apart 5 = .ok (.bipush 6, 2) := by decide +kernel
theorem dX11_apart_7 : decode cX11_apart 7 = .ok (.irem, 1) := by decide +kernel
theorem dX11_apart_8 : decode cX11_apart 8 = .ok (.invokestatic 88, 3) := by decide +kernel
theorem dX11_apart_11 : decode cX11_apart 11 = .ok (.iload_n 0, 1) := by decide +kernel
theorem dX11_apart_12 : decode cX11_apart 12 = .ok (.bipush 6, 2) := by decide +kernel
theorem dX11_apart_14 : decode cX11_apart 14 = .ok (.idiv, 1) := by decide +kernel
theorem dX11_apart_15 : decode cX11_apart 15 = .ok (.iload_n 1, 1) := by decide +kernel
theorem dX11_apart_16 : decode cX11_apart 16 = .ok (.bipush 6, 2) := by decide +kernel
theorem dX11_apart_18 : decode cX11_apart 18 = .ok (.idiv, 1) := by decide +kernel
theorem dX11_apart_19 : decode cX11_apart 19 = .ok (.invokestatic 88, 3) := by decide +kernel
theorem dX11_apart_22 : decode cX11_apart 22 = .ok (.iadd, 1) := by decide +kernel
theorem dX11_apart_23 : decode cX11_apart 23 = .ok (.ireturn, 1) := by decide +kernel
theorem dX11_allOf_0 : decode cX11_allOf 0 = .ok (.iconst 0, 1) := by decide +kernel
theorem dX11_allOf_1 : decode cX11_allOf 1 = .ok (.istore_n 1, 1) := by decide +kernel
theorem dX11_allOf_2 : decode cX11_allOf 2 = .ok (.iconst 0, 1) := by decide +kernel
theorem dX11_allOf_3 : decode cX11_allOf 3 = .ok (.istore_n 2, 1) := by decide +kernel
theorem dX11_allOf_4 : decode cX11_allOf 4 = .ok (.iload_n 2, 1) := by decide +kernel
theorem dX11_allOf_5 : decode cX11_allOf 5 = .ok (.bipush 36, 2) := by decide +kernel
theorem dX11_allOf_7 : decode cX11_allOf 7 = .ok (.if_icmp .ge 18, 3) := by decide +kernel
theorem dX11_allOf_10 : decode cX11_allOf 10 = .ok (.iload_n 1, 1) := by decide +kernel
theorem dX11_allOf_11 : decode cX11_allOf 11 = .ok (.aload_n 0, 1) := by decide +kernel
theorem dX11_allOf_12 : decode cX11_allOf 12 = .ok (.getfield 22, 3) := by decide +kernel
theorem dX11_allOf_15 : decode cX11_allOf 15 = .ok (.iload_n 2, 1) := by decide +kernel
theorem dX11_allOf_16 : decode cX11_allOf 16 = .ok (.iaload, 1) := by decide +kernel
theorem dX11_allOf_17 : decode cX11_allOf 17 = .ok (.iadd, 1) := by decide +kernel
theorem dX11_allOf_18 : decode cX11_allOf 18 = .ok (.istore_n 1, 1) := by decide +kernel
theorem dX11_allOf_19 : decode cX11_allOf 19 = .ok (.iinc 2 1, 3) := by decide +kernel
theorem dX11_allOf_22 : decode cX11_allOf 22 = .ok (.goto (-18), 3) := by decide +kernel
theorem dX11_allOf_25 : decode cX11_allOf 25 = .ok (.iload_n 1, 1) := by decide +kernel
theorem dX11_allOf_26 : decode cX11_allOf 26 = .ok (.ireturn, 1) := by decide +kernel
theorem dX11_count_0 : decode cX11_count 0 = .ok (.iload_n 1, 1) := by decide +kernel
theorem dX11_count_1 : decode cX11_count 1 = .ok (.tableswitch 69 0 5 #[39, 44, 49, 54, 59, 64], 39) := by decide +kernel
theorem dX11_count_40 : decode cX11_count 40 = .ok (.aload_n 0, 1) := by decide +kernel
theorem dX11_count_41 : decode cX11_count 41 = .ok (.getfield 81, 3) := by decide +kernel
theorem dX11_count_44 : decode cX11_count 44 = .ok (.ireturn, 1) := by decide +kernel
theorem dX11_count_45 : decode cX11_count 45 = .ok (.aload_n 0, 1) := by decide +kernel
theorem dX11_count_46 : decode cX11_count 46 = .ok (.getfield 92, 3) := by decide +kernel
theorem dX11_count_49 : decode cX11_count 49 = .ok (.ireturn, 1) := by decide +kernel
theorem dX11_count_50 : decode cX11_count 50 = .ok (.aload_n 0, 1) := by decide +kernel
theorem dX11_count_51 : decode cX11_count 51 = .ok (.invokevirtual 95, 3) := by decide +kernel
theorem dX11_count_54 : decode cX11_count 54 = .ok (.ireturn, 1) := by decide +kernel
theorem dX11_count_55 : decode cX11_count 55 = .ok (.aload_n 0, 1) := by decide +kernel
theorem dX11_count_56 : decode cX11_count 56 = .ok (.getfield 98, 3) := by decide +kernel
theorem dX11_count_59 : decode cX11_count 59 = .ok (.ireturn, 1) := by decide +kernel
theorem dX11_count_60 : decode cX11_count 60 = .ok (.aload_n 0, 1) := by decide +kernel
theorem dX11_count_61 : decode cX11_count 61 = .ok (.getfield 101, 3) := by decide +kernel
theorem dX11_count_64 : decode cX11_count 64 = .ok (.ireturn, 1) := by decide +kernel
theorem dX11_count_65 : decode cX11_count 65 = .ok (.aload_n 0, 1) := by decide +kernel
theorem dX11_count_66 : decode cX11_count 66 = .ok (.getfield 73, 3) := by decide +kernel
theorem dX11_count_69 : decode cX11_count 69 = .ok (.ireturn, 1) := by decide +kernel
theorem dX11_count_70 : decode cX11_count 70 = .ok (.bipush (-2), 2) := by decide +kernel
theorem dX11_count_72 : decode cX11_count 72 = .ok (.ireturn, 1) := by decide +kernel
theorem dX11_lay_0 : decode cX11_lay 0 = .ok (.iload_n 1, 1) := by decide +kernel
theorem dX11_lay_1 : decode cX11_lay 1 = .ok (.invokestatic 104, 3) := by decide +kernel
theorem dX11_lay_4 : decode cX11_lay 4 = .ok (.ifCond .ne 6, 3) := by decide +kernel
theorem dX11_lay_7 : decode cX11_lay 7 = .ok (.bipush (-5), 2) := by decide +kernel
theorem dX11_lay_9 : decode cX11_lay 9 = .ok (.ireturn, 1) := by decide +kernel
theorem dX11_lay_10 : decode cX11_lay 10 = .ok (.iload_n 2, 1) := by decide +kernel
theorem dX11_lay_11 : decode cX11_lay 11 = .ok (.iconst 0, 1) := by decide +kernel
theorem dX11_lay_12 : decode cX11_lay 12 = .ok (.sipush 999, 3) := by decide +kernel
theorem dX11_lay_15 : decode cX11_lay 15 = .ok (.invokestatic 84, 3) := by decide +kernel
theorem dX11_lay_18 : decode cX11_lay 18 = .ok (.ifCond .ne 6, 3) := by decide +kernel
theorem dX11_lay_21 : decode cX11_lay 21 = .ok (.bipush (-7), 2) := by decide +kernel
theorem dX11_lay_23 : decode cX11_lay 23 = .ok (.ireturn, 1) := by decide +kernel
theorem dX11_lay_24 : decode cX11_lay 24 = .ok (.aload_n 0, 1) := by decide +kernel
theorem dX11_lay_25 : decode cX11_lay 25 = .ok (.getfield 22, 3) := by decide +kernel
theorem dX11_lay_28 : decode cX11_lay 28 = .ok (.iload_n 1, 1) := by decide +kernel
theorem dX11_lay_29 : decode cX11_lay 29 = .ok (.iaload, 1) := by decide +kernel
theorem dX11_lay_30 : decode cX11_lay 30 = .ok (.istore_n 3, 1) := by decide +kernel
theorem dX11_lay_31 : decode cX11_lay 31 = .ok (.aload_n 0, 1) := by decide +kernel
theorem dX11_lay_32 : decode cX11_lay 32 = .ok (.getfield 22, 3) := by decide +kernel
theorem dX11_lay_35 : decode cX11_lay 35 = .ok (.iload_n 1, 1) := by decide +kernel
theorem dX11_lay_36 : decode cX11_lay 36 = .ok (.iload_n 2, 1) := by decide +kernel
theorem dX11_lay_37 : decode cX11_lay 37 = .ok (.iastore, 1) := by decide +kernel
theorem dX11_lay_38 : decode cX11_lay 38 = .ok (.iload_n 3, 1) := by decide +kernel
theorem dX11_lay_39 : decode cX11_lay 39 = .ok (.ireturn, 1) := by decide +kernel
theorem dX11_under_0 : decode cX11_under 0 = .ok (.iload_n 1, 1) := by decide +kernel
theorem dX11_under_1 : decode cX11_under 1 = .ok (.invokestatic 104, 3) := by decide +kernel
theorem dX11_under_4 : decode cX11_under 4 = .ok (.ifCond .eq 12, 3) := by decide +kernel
theorem dX11_under_7 : decode cX11_under 7 = .ok (.aload_n 0, 1) := by decide +kernel
theorem dX11_under_8 : decode cX11_under 8 = .ok (.getfield 22, 3) := by decide +kernel
theorem dX11_under_11 : decode cX11_under 11 = .ok (.iload_n 1, 1) := by decide +kernel
theorem dX11_under_12 : decode cX11_under 12 = .ok (.iaload, 1) := by decide +kernel
theorem dX11_under_13 : decode cX11_under 13 = .ok (.goto 5, 3) := by decide +kernel
theorem dX11_under_16 : decode cX11_under 16 = .ok (.bipush (-5), 2) := by decide +kernel
theorem dX11_under_18 : decode cX11_under 18 = .ok (.ireturn, 1) := by decide +kernel
theorem dX11_isByte_0 : decode cX11_isByte 0 = .ok (.iload_n 0, 1) := by decide +kernel
theorem dX11_isByte_1 : decode cX11_isByte 1 = .ok (.iconst 0, 1) := by decide +kernel
theorem dX11_isByte_2 : decode cX11_isByte 2 = .ok (.sipush 255, 3) := by decide +kernel
theorem dX11_isByte_5 : decode cX11_isByte 5 = .ok (.invokestatic 84, 3) := by decide +kernel
theorem dX11_isByte_8 : decode cX11_isByte 8 = .ok (.ireturn, 1) := by decide +kernel
theorem dX11_feed_0 : decode cX11_feed 0 = .ok (.iload_n 1, 1) := by decide +kernel
theorem dX11_feed_1 : decode cX11_feed 1 = .ok (.iconst 1, 1) := by decide +kernel
theorem dX11_feed_2 : decode cX11_feed 2 = .ok (.iconst 5, 1) := by decide +kernel
theorem dX11_feed_3 : decode cX11_feed 3 = .ok (.invokestatic 84, 3) := by decide +kernel
theorem dX11_feed_6 : decode cX11_feed 6 = .ok (.ifCond .eq 41, 3) := by decide +kernel
theorem dX11_feed_9 : decode cX11_feed 9 = .ok (.iload_n 2, 1) := by decide +kernel
theorem dX11_feed_10 : decode cX11_feed 10 = .ok (.invokestatic 108, 3) := by decide +kernel
theorem dX11_feed_13 : decode cX11_feed 13 = .ok (.ifCond .eq 34, 3) := by decide +kernel
theorem dX11_feed_16 : decode cX11_feed 16 = .ok (.iload_n 3, 1) := by decide +kernel
theorem dX11_feed_17 : decode cX11_feed 17 = .ok (.invokestatic 108, 3) := by decide +kernel
theorem dX11_feed_20 : decode cX11_feed 20 = .ok (.ifCond .eq 27, 3) := by decide +kernel
theorem dX11_feed_23 : decode cX11_feed 23 = .ok (.iload 4, 2) := by decide +kernel
theorem dX11_feed_25 : decode cX11_feed 25 = .ok (.invokestatic 108, 3) := by decide +kernel
theorem dX11_feed_28 : decode cX11_feed 28 = .ok (.ifCond .eq 19, 3) := by decide +kernel
theorem dX11_feed_31 : decode cX11_feed 31 = .ok (.iload 5, 2) := by decide +kernel
theorem dX11_feed_33 : decode cX11_feed 33 = .ok (.invokestatic 108, 3) := by decide +kernel
theorem dX11_feed_36 : decode cX11_feed 36 = .ok (.ifCond .eq 11, 3) := by decide +kernel
theorem dX11_feed_39 : decode cX11_feed 39 = .ok (.iload 6, 2) := by decide +kernel
theorem dX11_feed_41 : decode cX11_feed 41 = .ok (.invokestatic 108, 3) := by decide +kernel
theorem dX11_feed_44 : decode cX11_feed 44 = .ok (.ifCond .ne 6, 3) := by decide +kernel
theorem dX11_feed_47 : decode cX11_feed 47 = .ok (.bipush (-2), 2) := by decide +kernel
theorem dX11_feed_49 : decode cX11_feed 49 = .ok (.ireturn, 1) := by decide +kernel
theorem dX11_feed_50 : decode cX11_feed 50 = .ok (.aload_n 0, 1) := by decide +kernel
theorem dX11_feed_51 : decode cX11_feed 51 = .ok (.getfield 73, 3) := by decide +kernel
theorem dX11_feed_54 : decode cX11_feed 54 = .ok (.iload_n 1, 1) := by decide +kernel
theorem dX11_feed_55 : decode cX11_feed 55 = .ok (.iadd, 1) := by decide +kernel
theorem dX11_feed_56 : decode cX11_feed 56 = .ok (.sipush 160, 3) := by decide +kernel
theorem dX11_feed_59 : decode cX11_feed 59 = .ok (.if_icmp .le 6, 3) := by decide +kernel
theorem dX11_feed_62 : decode cX11_feed 62 = .ok (.bipush (-4), 2) := by decide +kernel
theorem dX11_feed_64 : decode cX11_feed 64 = .ok (.ireturn, 1) := by decide +kernel
theorem dX11_feed_65 : decode cX11_feed 65 = .ok (.iconst 0, 1) := by decide +kernel
theorem dX11_feed_66 : decode cX11_feed 66 = .ok (.istore 7, 2) := by decide +kernel
theorem dX11_feed_68 : decode cX11_feed 68 = .ok (.iload 7, 2) := by decide +kernel
theorem dX11_feed_70 : decode cX11_feed 70 = .ok (.iload_n 1, 1) := by decide +kernel
theorem dX11_feed_71 : decode cX11_feed 71 = .ok (.if_icmp .ge 71, 3) := by decide +kernel
theorem dX11_feed_74 : decode cX11_feed 74 = .ok (.aload_n 0, 1) := by decide +kernel
theorem dX11_feed_75 : decode cX11_feed 75 = .ok (.getfield 25, 3) := by decide +kernel
theorem dX11_feed_78 : decode cX11_feed 78 = .ok (.aload_n 0, 1) := by decide +kernel
theorem dX11_feed_79 : decode cX11_feed 79 = .ok (.getfield 73, 3) := by decide +kernel
theorem dX11_feed_82 : decode cX11_feed 82 = .ok (.iload 7, 2) := by decide +kernel
theorem dX11_feed_84 : decode cX11_feed 84 = .ok (.ifCond .ne 7, 3) := by decide +kernel
theorem dX11_feed_87 : decode cX11_feed 87 = .ok (.iload_n 2, 1) := by decide +kernel
theorem dX11_feed_88 : decode cX11_feed 88 = .ok (.goto 37, 3) := by decide +kernel
theorem dX11_feed_91 : decode cX11_feed 91 = .ok (.iload 7, 2) := by decide +kernel
theorem dX11_feed_93 : decode cX11_feed 93 = .ok (.iconst 1, 1) := by decide +kernel
theorem dX11_feed_94 : decode cX11_feed 94 = .ok (.if_icmp .ne 7, 3) := by decide +kernel
theorem dX11_feed_97 : decode cX11_feed 97 = .ok (.iload_n 3, 1) := by decide +kernel
theorem dX11_feed_98 : decode cX11_feed 98 = .ok (.goto 27, 3) := by decide +kernel
theorem dX11_feed_101 : decode cX11_feed 101 = .ok (.iload 7, 2) := by decide +kernel
theorem dX11_feed_103 : decode cX11_feed 103 = .ok (.iconst 2, 1) := by decide +kernel
theorem dX11_feed_104 : decode cX11_feed 104 = .ok (.if_icmp .ne 8, 3) := by decide +kernel
theorem dX11_feed_107 : decode cX11_feed 107 = .ok (.iload 4, 2) := by decide +kernel
theorem dX11_feed_109 : decode cX11_feed 109 = .ok (.goto 16, 3) := by decide +kernel
theorem dX11_feed_112 : decode cX11_feed 112 = .ok (.iload 7, 2) := by decide +kernel
theorem dX11_feed_114 : decode cX11_feed 114 = .ok (.iconst 3, 1) := by decide +kernel
theorem dX11_feed_115 : decode cX11_feed 115 = .ok (.if_icmp .ne 8, 3) := by decide +kernel
theorem dX11_feed_118 : decode cX11_feed 118 = .ok (.iload 5, 2) := by decide +kernel
theorem dX11_feed_120 : decode cX11_feed 120 = .ok (.goto 5, 3) := by decide +kernel
theorem dX11_feed_123 : decode cX11_feed 123 = .ok (.iload 6, 2) := by decide +kernel
theorem dX11_feed_125 : decode cX11_feed 125 = .ok (.iastore, 1) := by decide +kernel
theorem dX11_feed_126 : decode cX11_feed 126 = .ok (.aload_n 0, 1) := by decide +kernel
theorem dX11_feed_127 : decode cX11_feed 127 = .ok (.dup, 1) := by decide +kernel
theorem dX11_feed_128 : decode cX11_feed 128 = .ok (.getfield 73, 3) := by decide +kernel
theorem dX11_feed_131 : decode cX11_feed 131 = .ok (.iconst 1, 1) := by decide +kernel
theorem dX11_feed_132 : decode cX11_feed 132 = .ok (.iadd, 1) := by decide +kernel
theorem dX11_feed_133 : decode cX11_feed 133 = .ok (.putfield 73, 3) := by decide +kernel
theorem dX11_feed_136 : decode cX11_feed 136 = .ok (.iinc 7 1, 3) := by decide +kernel
theorem dX11_feed_139 : decode cX11_feed 139 = .ok (.goto (-71), 3) := by decide +kernel
theorem dX11_feed_142 : decode cX11_feed 142 = .ok (.aload_n 0, 1) := by decide +kernel
theorem dX11_feed_143 : decode cX11_feed 143 = .ok (.getfield 73, 3) := by decide +kernel
theorem dX11_feed_146 : decode cX11_feed 146 = .ok (.ireturn, 1) := by decide +kernel
theorem dX11_wordFrom_0 : decode cX11_wordFrom 0 = .ok (.iconst 0, 1) := by decide +kernel
theorem dX11_wordFrom_1 : decode cX11_wordFrom 1 = .ok (.istore_n 3, 1) := by decide +kernel
theorem dX11_wordFrom_2 : decode cX11_wordFrom 2 = .ok (.iload_n 3, 1) := by decide +kernel
theorem dX11_wordFrom_3 : decode cX11_wordFrom 3 = .ok (.bipush 12, 2) := by decide +kernel
theorem dX11_wordFrom_5 : decode cX11_wordFrom 5 = .ok (.if_icmp .ge 96, 3) := by decide +kernel
theorem dX11_wordFrom_8 : decode cX11_wordFrom 8 = .ok (.iload_n 2, 1) := by decide +kernel
theorem dX11_wordFrom_9 : decode cX11_wordFrom 9 = .ok (.iload_n 1, 1) := by decide +kernel
theorem dX11_wordFrom_10 : decode cX11_wordFrom 10 = .ok (.isub, 1) := by decide +kernel
theorem dX11_wordFrom_11 : decode cX11_wordFrom 11 = .ok (.bipush 8, 2) := by decide +kernel
theorem dX11_wordFrom_13 : decode cX11_wordFrom 13 = .ok (.if_icmp .gt 7, 3) := by decide +kernel
theorem dX11_wordFrom_16 : decode cX11_wordFrom 16 = .ok (.iconst 1, 1) := by decide +kernel
theorem dX11_wordFrom_17 : decode cX11_wordFrom 17 = .ok (.goto 4, 3) := by decide +kernel
theorem dX11_wordFrom_20 : decode cX11_wordFrom 20 = .ok (.iconst 0, 1) := by decide +kernel
theorem dX11_wordFrom_21 : decode cX11_wordFrom 21 = .ok (.istore 4, 2) := by decide +kernel
theorem dX11_wordFrom_23 : decode cX11_wordFrom 23 = .ok (.iconst 0, 1) := by decide +kernel
theorem dX11_wordFrom_24 : decode cX11_wordFrom 24 = .ok (.istore 5, 2) := by decide +kernel
theorem dX11_wordFrom_26 : decode cX11_wordFrom 26 = .ok (.iload 5, 2) := by decide +kernel
theorem dX11_wordFrom_28 : decode cX11_wordFrom 28 = .ok (.bipush 8, 2) := by decide +kernel
theorem dX11_wordFrom_30 : decode cX11_wordFrom 30 = .ok (.if_icmp .ge 58, 3) := by decide +kernel
theorem dX11_wordFrom_33 : decode cX11_wordFrom 33 = .ok (.iload 4, 2) := by decide +kernel
theorem dX11_wordFrom_35 : decode cX11_wordFrom 35 = .ok (.ifCond .eq 53, 3) := by decide +kernel
theorem dX11_wordFrom_38 : decode cX11_wordFrom 38 = .ok (.aload_n 0, 1) := by decide +kernel
theorem dX11_wordFrom_39 : decode cX11_wordFrom 39 = .ok (.getfield 52, 3) := by decide +kernel
theorem dX11_wordFrom_42 : decode cX11_wordFrom 42 = .ok (.bipush 8, 2) := by decide +kernel
theorem dX11_wordFrom_44 : decode cX11_wordFrom 44 = .ok (.iload_n 3, 1) := by decide +kernel
theorem dX11_wordFrom_45 : decode cX11_wordFrom 45 = .ok (.imul, 1) := by decide +kernel
theorem dX11_wordFrom_46 : decode cX11_wordFrom 46 = .ok (.iload 5, 2) := by decide +kernel
theorem dX11_wordFrom_48 : decode cX11_wordFrom 48 = .ok (.iadd, 1) := by decide +kernel
theorem dX11_wordFrom_49 : decode cX11_wordFrom 49 = .ok (.iaload, 1) := by decide +kernel
theorem dX11_wordFrom_50 : decode cX11_wordFrom 50 = .ok (.iload_n 1, 1) := by decide +kernel
theorem dX11_wordFrom_51 : decode cX11_wordFrom 51 = .ok (.iload 5, 2) := by decide +kernel
theorem dX11_wordFrom_53 : decode cX11_wordFrom 53 = .ok (.iadd, 1) := by decide +kernel
theorem dX11_wordFrom_54 : decode cX11_wordFrom 54 = .ok (.iload_n 2, 1) := by decide +kernel
theorem dX11_wordFrom_55 : decode cX11_wordFrom 55 = .ok (.if_icmp .ge 15, 3) := by decide +kernel
theorem dX11_wordFrom_58 : decode cX11_wordFrom 58 = .ok (.aload_n 0, 1) := by decide +kernel
theorem dX11_wordFrom_59 : decode cX11_wordFrom 59 = .ok (.getfield 25, 3) := by decide +kernel
theorem dX11_wordFrom_62 : decode cX11_wordFrom 62 = .ok (.iload_n 1, 1) := by decide +kernel
theorem dX11_wordFrom_63 : decode cX11_wordFrom 63 = .ok (.iload 5, 2) := by decide +kernel
theorem dX11_wordFrom_65 : decode cX11_wordFrom 65 = .ok (.iadd, 1) := by decide +kernel
theorem dX11_wordFrom_66 : decode cX11_wordFrom 66 = .ok (.iaload, 1) := by decide +kernel
theorem dX11_wordFrom_67 : decode cX11_wordFrom 67 = .ok (.goto 5, 3) := by decide +kernel
theorem dX11_wordFrom_70 : decode cX11_wordFrom 70 = .ok (.bipush 32, 2) := by decide +kernel
theorem dX11_wordFrom_72 : decode cX11_wordFrom 72 = .ok (.if_icmp .ne 7, 3) := by decide +kernel
theorem dX11_wordFrom_75 : decode cX11_wordFrom 75 = .ok (.iconst 1, 1) := by decide +kernel
theorem dX11_wordFrom_76 : decode cX11_wordFrom 76 = .ok (.goto 4, 3) := by decide +kernel
theorem dX11_wordFrom_79 : decode cX11_wordFrom 79 = .ok (.iconst 0, 1) := by decide +kernel
theorem dX11_wordFrom_80 : decode cX11_wordFrom 80 = .ok (.istore 4, 2) := by decide +kernel
theorem dX11_wordFrom_82 : decode cX11_wordFrom 82 = .ok (.iinc 5 1, 3) := by decide +kernel
theorem dX11_wordFrom_85 : decode cX11_wordFrom 85 = .ok (.goto (-59), 3) := by decide +kernel
theorem dX11_wordFrom_88 : decode cX11_wordFrom 88 = .ok (.iload 4, 2) := by decide +kernel
theorem dX11_wordFrom_90 : decode cX11_wordFrom 90 = .ok (.ifCond .eq 5, 3) := by decide +kernel
theorem dX11_wordFrom_93 : decode cX11_wordFrom 93 = .ok (.iload_n 3, 1) := by decide +kernel
theorem dX11_wordFrom_94 : decode cX11_wordFrom 94 = .ok (.ireturn, 1) := by decide +kernel
theorem dX11_wordFrom_95 : decode cX11_wordFrom 95 = .ok (.iinc 3 1, 3) := by decide +kernel
theorem dX11_wordFrom_98 : decode cX11_wordFrom 98 = .ok (.goto (-96), 3) := by decide +kernel
theorem dX11_wordFrom_101 : decode cX11_wordFrom 101 = .ok (.bipush 12, 2) := by decide +kernel
theorem dX11_wordFrom_103 : decode cX11_wordFrom 103 = .ok (.ireturn, 1) := by decide +kernel
theorem dX11_next_0 : decode cX11_next 0 = .ok (.aload_n 0, 1) := by decide +kernel
theorem dX11_next_1 : decode cX11_next 1 = .ok (.getfield 111, 3) := by decide +kernel
theorem dX11_next_4 : decode cX11_next 4 = .ok (.aload_n 0, 1) := by decide +kernel
theorem dX11_next_5 : decode cX11_next 5 = .ok (.getfield 73, 3) := by decide +kernel
theorem dX11_next_8 : decode cX11_next 8 = .ok (.if_icmp .ge 44, 3) := by decide +kernel
theorem dX11_next_11 : decode cX11_next 11 = .ok (.aload_n 0, 1) := by decide +kernel
theorem dX11_next_12 : decode cX11_next 12 = .ok (.getfield 25, 3) := by decide +kernel
theorem dX11_next_15 : decode cX11_next 15 = .ok (.aload_n 0, 1) := by decide +kernel
theorem dX11_next_16 : decode cX11_next 16 = .ok (.getfield 111, 3) := by decide +kernel
theorem dX11_next_19 : decode cX11_next 19 = .ok (.iaload, 1) := by decide +kernel
theorem dX11_next_20 : decode cX11_next 20 = .ok (.bipush 32, 2) := by decide +kernel
theorem dX11_next_22 : decode cX11_next 22 = .ok (.if_icmp .eq 17, 3) := by decide +kernel
theorem dX11_next_25 : decode cX11_next 25 = .ok (.aload_n 0, 1) := by decide +kernel
theorem dX11_next_26 : decode cX11_next 26 = .ok (.getfield 25, 3) := by decide +kernel
theorem dX11_next_29 : decode cX11_next 29 = .ok (.aload_n 0, 1) := by decide +kernel
theorem dX11_next_30 : decode cX11_next 30 = .ok (.getfield 111, 3) := by decide +kernel
theorem dX11_next_33 : decode cX11_next 33 = .ok (.iaload, 1) := by decide +kernel
theorem dX11_next_34 : decode cX11_next 34 = .ok (.bipush 10, 2) := by decide +kernel
theorem dX11_next_36 : decode cX11_next 36 = .ok (.if_icmp .ne 16, 3) := by decide +kernel
theorem dX11_next_39 : decode cX11_next 39 = .ok (.aload_n 0, 1) := by decide +kernel
theorem dX11_next_40 : decode cX11_next 40 = .ok (.dup, 1) := by decide +kernel
theorem dX11_next_41 : decode cX11_next 41 = .ok (.getfield 111, 3) := by decide +kernel
theorem dX11_next_44 : decode cX11_next 44 = .ok (.iconst 1, 1) := by decide +kernel
theorem dX11_next_45 : decode cX11_next 45 = .ok (.iadd, 1) := by decide +kernel
theorem dX11_next_46 : decode cX11_next 46 = .ok (.putfield 111, 3) := by decide +kernel
theorem dX11_next_49 : decode cX11_next 49 = .ok (.goto (-49), 3) := by decide +kernel
theorem dX11_next_52 : decode cX11_next 52 = .ok (.aload_n 0, 1) := by decide +kernel
theorem dX11_next_53 : decode cX11_next 53 = .ok (.aload_n 0, 1) := by decide +kernel
theorem dX11_next_54 : decode cX11_next 54 = .ok (.getfield 111, 3) := by decide +kernel
theorem dX11_next_57 : decode cX11_next 57 = .ok (.putfield 114, 3) := by decide +kernel
theorem dX11_next_60 : decode cX11_next 60 = .ok (.aload_n 0, 1) := by decide +kernel
theorem dX11_next_61 : decode cX11_next 61 = .ok (.iconst 0, 1) := by decide +kernel
theorem dX11_next_62 : decode cX11_next 62 = .ok (.putfield 117, 3) := by decide +kernel
theorem dX11_next_65 : decode cX11_next 65 = .ok (.aload_n 0, 1) := by decide +kernel
theorem dX11_next_66 : decode cX11_next 66 = .ok (.iconst 0, 1) := by decide +kernel
theorem dX11_next_67 : decode cX11_next 67 = .ok (.putfield 120, 3) := by decide +kernel
theorem dX11_next_70 : decode cX11_next 70 = .ok (.aload_n 0, 1) := by decide +kernel
theorem dX11_next_71 : decode cX11_next 71 = .ok (.getfield 111, 3) := by decide +kernel
theorem dX11_next_74 : decode cX11_next 74 = .ok (.aload_n 0, 1) := by decide +kernel
theorem dX11_next_75 : decode cX11_next 75 = .ok (.getfield 73, 3) := by decide +kernel
theorem dX11_next_78 : decode cX11_next 78 = .ok (.if_icmp .ne 4, 3) := by decide +kernel
theorem dX11_next_81 : decode cX11_next 81 = .ok (.return_, 1) := by decide +kernel
theorem dX11_next_82 : decode cX11_next 82 = .ok (.aload_n 0, 1) := by decide +kernel
theorem dX11_next_83 : decode cX11_next 83 = .ok (.getfield 25, 3) := by decide +kernel
theorem dX11_next_86 : decode cX11_next 86 = .ok (.aload_n 0, 1) := by decide +kernel
theorem dX11_next_87 : decode cX11_next 87 = .ok (.getfield 111, 3) := by decide +kernel
theorem dX11_next_90 : decode cX11_next 90 = .ok (.iaload, 1) := by decide +kernel
theorem dX11_next_91 : decode cX11_next 91 = .ok (.istore_n 1, 1) := by decide +kernel
theorem dX11_next_92 : decode cX11_next 92 = .ok (.iload_n 1, 1) := by decide +kernel
theorem dX11_next_93 : decode cX11_next 93 = .ok (.bipush 97, 2) := by decide +kernel
theorem dX11_next_95 : decode cX11_next 95 = .ok (.bipush 122, 2) := by decide +kernel
theorem dX11_next_97 : decode cX11_next 97 = .ok (.invokestatic 84, 3) := by decide +kernel
theorem dX11_next_100 : decode cX11_next 100 = .ok (.ifCond .eq 117, 3) := by decide +kernel
theorem dX11_next_103 : decode cX11_next 103 = .ok (.aload_n 0, 1) := by decide +kernel
theorem dX11_next_104 : decode cX11_next 104 = .ok (.getfield 111, 3) := by decide +kernel
theorem dX11_next_107 : decode cX11_next 107 = .ok (.aload_n 0, 1) := by decide +kernel
theorem dX11_next_108 : decode cX11_next 108 = .ok (.getfield 73, 3) := by decide +kernel
theorem dX11_next_111 : decode cX11_next 111 = .ok (.if_icmp .ge 35, 3) := by decide +kernel
theorem dX11_next_114 : decode cX11_next 114 = .ok (.aload_n 0, 1) := by decide +kernel
theorem dX11_next_115 : decode cX11_next 115 = .ok (.getfield 25, 3) := by decide +kernel
theorem dX11_next_118 : decode cX11_next 118 = .ok (.aload_n 0, 1) := by decide +kernel
theorem dX11_next_119 : decode cX11_next 119 = .ok (.getfield 111, 3) := by decide +kernel
theorem dX11_next_122 : decode cX11_next 122 = .ok (.iaload, 1) := by decide +kernel
theorem dX11_next_123 : decode cX11_next 123 = .ok (.bipush 97, 2) := by decide +kernel
theorem dX11_next_125 : decode cX11_next 125 = .ok (.bipush 122, 2) := by decide +kernel
theorem dX11_next_127 : decode cX11_next 127 = .ok (.invokestatic 84, 3) := by decide +kernel
theorem dX11_next_130 : decode cX11_next 130 = .ok (.ifCond .eq 16, 3) := by decide +kernel
theorem dX11_next_133 : decode cX11_next 133 = .ok (.aload_n 0, 1) := by decide +kernel
theorem dX11_next_134 : decode cX11_next 134 = .ok (.dup, 1) := by decide +kernel
theorem dX11_next_135 : decode cX11_next 135 = .ok (.getfield 111, 3) := by decide +kernel
theorem dX11_next_138 : decode cX11_next 138 = .ok (.iconst 1, 1) := by decide +kernel
theorem dX11_next_139 : decode cX11_next 139 = .ok (.iadd, 1) := by decide +kernel
theorem dX11_next_140 : decode cX11_next 140 = .ok (.putfield 111, 3) := by decide +kernel
theorem dX11_next_143 : decode cX11_next 143 = .ok (.goto (-40), 3) := by decide +kernel
theorem dX11_next_146 : decode cX11_next 146 = .ok (.aload_n 0, 1) := by decide +kernel
theorem dX11_next_147 : decode cX11_next 147 = .ok (.aload_n 0, 1) := by decide +kernel
theorem dX11_next_148 : decode cX11_next 148 = .ok (.getfield 114, 3) := by decide +kernel
theorem dX11_next_151 : decode cX11_next 151 = .ok (.aload_n 0, 1) := by decide +kernel
theorem dX11_next_152 : decode cX11_next 152 = .ok (.getfield 111, 3) := by decide +kernel
theorem dX11_next_155 : decode cX11_next 155 = .ok (.invokevirtual 123, 3) := by decide +kernel
theorem dX11_next_158 : decode cX11_next 158 = .ok (.istore_n 2, 1) := by decide +kernel
theorem dX11_next_159 : decode cX11_next 159 = .ok (.aload_n 0, 1) := by decide +kernel
theorem dX11_next_160 : decode cX11_next 160 = .ok (.iload_n 2, 1) := by decide +kernel
theorem dX11_next_161 : decode cX11_next 161 = .ok (.iconst 3, 1) := by decide +kernel
theorem dX11_next_162 : decode cX11_next 162 = .ok (.if_icmp .ge 7, 3) := by decide +kernel
theorem dX11_next_165 : decode cX11_next 165 = .ok (.iconst 3, 1) := by decide +kernel
theorem dX11_next_166 : decode cX11_next 166 = .ok (.goto 29, 3) := by decide +kernel
theorem dX11_next_169 : decode cX11_next 169 = .ok (.iload_n 2, 1) := by decide +kernel
theorem dX11_next_170 : decode cX11_next 170 = .ok (.bipush 9, 2) := by decide +kernel
theorem dX11_next_172 : decode cX11_next 172 = .ok (.if_icmp .ge 7, 3) := by decide +kernel
theorem dX11_next_175 : decode cX11_next 175 = .ok (.iconst 2, 1) := by decide +kernel
theorem dX11_next_176 : decode cX11_next 176 = .ok (.goto 19, 3) := by decide +kernel
theorem dX11_next_179 : decode cX11_next 179 = .ok (.iload_n 2, 1) := by decide +kernel
theorem dX11_next_180 : decode cX11_next 180 = .ok (.bipush 12, 2) := by decide +kernel
theorem dX11_next_182 : decode cX11_next 182 = .ok (.if_icmp .ne 7, 3) := by decide +kernel
theorem dX11_next_185 : decode cX11_next 185 = .ok (.iconst (-1), 1) := by decide +kernel
theorem dX11_next_186 : decode cX11_next 186 = .ok (.goto 9, 3) := by decide +kernel
theorem dX11_next_189 : decode cX11_next 189 = .ok (.iconst 4, 1) := by decide +kernel
theorem dX11_next_190 : decode cX11_next 190 = .ok (.iload_n 2, 1) := by decide +kernel
theorem dX11_next_191 : decode cX11_next 191 = .ok (.iadd, 1) := by decide +kernel
theorem dX11_next_192 : decode cX11_next 192 = .ok (.bipush 9, 2) := by decide +kernel
theorem dX11_next_194 : decode cX11_next 194 = .ok (.isub, 1) := by decide +kernel
theorem dX11_next_195 : decode cX11_next 195 = .ok (.putfield 117, 3) := by decide +kernel
theorem dX11_next_198 : decode cX11_next 198 = .ok (.aload_n 0, 1) := by decide +kernel
theorem dX11_next_199 : decode cX11_next 199 = .ok (.iload_n 2, 1) := by decide +kernel
theorem dX11_next_200 : decode cX11_next 200 = .ok (.iconst 3, 1) := by decide +kernel
theorem dX11_next_201 : decode cX11_next 201 = .ok (.if_icmp .ge 7, 3) := by decide +kernel
theorem dX11_next_204 : decode cX11_next 204 = .ok (.iload_n 2, 1) := by decide +kernel
theorem dX11_next_205 : decode cX11_next 205 = .ok (.goto 6, 3) := by decide +kernel
theorem dX11_next_208 : decode cX11_next 208 = .ok (.iload_n 2, 1) := by decide +kernel
theorem dX11_next_209 : decode cX11_next 209 = .ok (.iconst 3, 1) := by decide +kernel
theorem dX11_next_210 : decode cX11_next 210 = .ok (.isub, 1) := by decide +kernel
theorem dX11_next_211 : decode cX11_next 211 = .ok (.putfield 120, 3) := by decide +kernel
theorem dX11_next_214 : decode cX11_next 214 = .ok (.goto 189, 3) := by decide +kernel
theorem dX11_next_217 : decode cX11_next 217 = .ok (.iload_n 1, 1) := by decide +kernel
