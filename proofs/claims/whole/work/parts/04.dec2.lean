theorem dX7_init_0 : decode cX7_init 0 = .ok (.aload_n 0, 1) := by decide +kernel
theorem dX7_init_1 : decode cX7_init 1 = .ok (.invokespecial 3, 3) := by decide +kernel
theorem dX7_init_4 : decode cX7_init 4 = .ok (.aload_n 0, 1) := by decide +kernel
theorem dX7_init_5 : decode cX7_init 5 = .ok (.iconst 3, 1) := by decide +kernel
theorem dX7_init_6 : decode cX7_init 6 = .ok (.newarray .int, 2) := by decide +kernel
theorem dX7_init_8 : decode cX7_init 8 = .ok (.putfield 9, 3) := by decide +kernel
theorem dX7_init_11 : decode cX7_init 11 = .ok (.aload_n 0, 1) := by decide +kernel
theorem dX7_init_12 : decode cX7_init 12 = .ok (.bipush 40, 2) := by decide +kernel
theorem dX7_init_14 : decode cX7_init 14 = .ok (.newarray .int, 2) := by decide +kernel
theorem dX7_init_16 : decode cX7_init 16 = .ok (.putfield 15, 3) := by decide +kernel
theorem dX7_init_19 : decode cX7_init 19 = .ok (.aload_n 0, 1) := by decide +kernel
theorem dX7_init_20 : decode cX7_init 20 = .ok (.sipush 900, 3) := by decide +kernel
theorem dX7_init_23 : decode cX7_init 23 = .ok (.newarray .int, 2) := by decide +kernel
theorem dX7_init_25 : decode cX7_init 25 = .ok (.putfield 18, 3) := by decide +kernel
theorem dX7_init_28 : decode cX7_init 28 = .ok (.aload_n 0, 1) := by decide +kernel
theorem dX7_init_29 : decode cX7_init 29 = .ok (.iconst 3, 1) := by decide +kernel
theorem dX7_init_30 : decode cX7_init 30 = .ok (.newarray .int, 2) := by decide +kernel
theorem dX7_init_32 : decode cX7_init 32 = .ok (.putfield 21, 3) := by decide +kernel
theorem dX7_init_35 : decode cX7_init 35 = .ok (.aload_n 0, 1) := by decide +kernel
theorem dX7_init_36 : decode cX7_init 36 = .ok (.iconst 3, 1) := by decide +kernel
theorem dX7_init_37 : decode cX7_init 37 = .ok (.newarray .int, 2) := by decide +kernel
theorem dX7_init_39 : decode cX7_init 39 = .ok (.putfield 24, 3) := by decide +kernel
theorem dX7_init_42 : decode cX7_init 42 = .ok (.aload_n 0, 1) := by decide +kernel
theorem dX7_init_43 : decode cX7_init 43 = .ok (.iconst 2, 1) := by decide +kernel
theorem dX7_init_44 : decode cX7_init 44 = .ok (.putfield 27, 3) := by decide +kernel
theorem dX7_init_47 : decode cX7_init 47 = .ok (.aload_n 0, 1) := by decide +kernel
theorem dX7_init_48 : decode cX7_init 48 = .ok (.iconst 0, 1) := by decide +kernel
theorem dX7_init_49 : decode cX7_init 49 = .ok (.putfield 31, 3) := by decide +kernel
theorem dX7_init_52 : decode cX7_init 52 = .ok (.aload_n 0, 1) := by decide +kernel
theorem dX7_init_53 : decode cX7_init 53 = .ok (.iconst 0, 1) := by decide +kernel
theorem dX7_init_54 : decode cX7_init 54 = .ok (.putfield 34, 3) := by decide +kernel
theorem dX7_init_57 : decode cX7_init 57 = .ok (.aload_n 0, 1) := by decide +kernel
theorem dX7_init_58 : decode cX7_init 58 = .ok (.iconst 0, 1) := by decide +kernel
theorem dX7_init_59 : decode cX7_init 59 = .ok (.putfield 37, 3) := by decide +kernel
theorem dX7_init_62 : decode cX7_init 62 = .ok (.aload_n 0, 1) := by decide +kernel
theorem dX7_init_63 : decode cX7_init 63 = .ok (.iconst 0, 1) := by decide +kernel
theorem dX7_init_64 : decode cX7_init 64 = .ok (.putfield 40, 3) := by decide +kernel
theorem dX7_init_67 : decode cX7_init 67 = .ok (.aload_n 0, 1) := by decide +kernel
theorem dX7_init_68 : decode cX7_init 68 = .ok (.iconst 0, 1) := by decide +kernel
theorem dX7_init_69 : decode cX7_init 69 = .ok (.putfield 43, 3) := by decide +kernel
theorem dX7_init_72 : decode cX7_init 72 = .ok (.aload_n 0, 1) := by decide +kernel
theorem dX7_init_73 : decode cX7_init 73 = .ok (.iconst 0, 1) := by decide +kernel
theorem dX7_init_74 : decode cX7_init 74 = .ok (.putfield 46, 3) := by decide +kernel
theorem dX7_init_77 : decode cX7_init 77 = .ok (.aload_n 0, 1) := by decide +kernel
theorem dX7_init_78 : decode cX7_init 78 = .ok (.iconst 0, 1) := by decide +kernel
theorem dX7_init_79 : decode cX7_init 79 = .ok (.putfield 49, 3) := by decide +kernel
theorem dX7_init_82 : decode cX7_init 82 = .ok (.aload_n 0, 1) := by decide +kernel
theorem dX7_init_83 : decode cX7_init 83 = .ok (.iconst (-1), 1) := by decide +kernel
theorem dX7_init_84 : decode cX7_init 84 = .ok (.putfield 52, 3) := by decide +kernel
theorem dX7_init_87 : decode cX7_init 87 = .ok (.aload_n 0, 1) := by decide +kernel
theorem dX7_init_88 : decode cX7_init 88 = .ok (.aload_n 1, 1) := by decide +kernel
theorem dX7_init_89 : decode cX7_init 89 = .ok (.putfield 55, 3) := by decide +kernel
theorem dX7_init_92 : decode cX7_init 92 = .ok (.return_, 1) := by decide +kernel
theorem dX7_flaw_0 : decode cX7_flaw 0 = .ok (.aload_n 0, 1) := by decide +kernel
theorem dX7_flaw_1 : decode cX7_flaw 1 = .ok (.getfield 49, 3) := by decide +kernel
theorem dX7_flaw_4 : decode cX7_flaw 4 = .ok (.ireturn, 1) := by decide +kernel
theorem dX7_flawPlace_0 : decode cX7_flawPlace 0 = .ok (.aload_n 0, 1) := by decide +kernel
theorem dX7_flawPlace_1 : decode cX7_flawPlace 1 = .ok (.getfield 52, 3) := by decide +kernel
theorem dX7_flawPlace_4 : decode cX7_flawPlace 4 = .ok (.ireturn, 1) := by decide +kernel
theorem dX7_lines_0 : decode cX7_lines 0 = .ok (.aload_n 0, 1) := by decide +kernel
theorem dX7_lines_1 : decode cX7_lines 1 = .ok (.getfield 27, 3) := by decide +kernel
theorem dX7_lines_4 : decode cX7_lines 4 = .ok (.ireturn, 1) := by decide +kernel
theorem dX7_cords_0 : decode cX7_cords 0 = .ok (.aload_n 0, 1) := by decide +kernel
theorem dX7_cords_1 : decode cX7_cords 1 = .ok (.getfield 31, 3) := by decide +kernel
theorem dX7_cords_4 : decode cX7_cords 4 = .ok (.ireturn, 1) := by decide +kernel
theorem dX7_calls_0 : decode cX7_calls 0 = .ok (.aload_n 0, 1) := by decide +kernel
theorem dX7_calls_1 : decode cX7_calls 1 = .ok (.getfield 34, 3) := by decide +kernel
theorem dX7_calls_4 : decode cX7_calls 4 = .ok (.ireturn, 1) := by decide +kernel
theorem dX7_minute_0 : decode cX7_minute 0 = .ok (.aload_n 0, 1) := by decide +kernel
theorem dX7_minute_1 : decode cX7_minute 1 = .ok (.getfield 37, 3) := by decide +kernel
theorem dX7_minute_4 : decode cX7_minute 4 = .ok (.ireturn, 1) := by decide +kernel
theorem dX7_textLines_0 : decode cX7_textLines 0 = .ok (.aload_n 0, 1) := by decide +kernel
theorem dX7_textLines_1 : decode cX7_textLines 1 = .ok (.getfield 40, 3) := by decide +kernel
theorem dX7_textLines_4 : decode cX7_textLines 4 = .ok (.ireturn, 1) := by decide +kernel
theorem dX7_reachOf_0 : decode cX7_reachOf 0 = .ok (.iload_n 1, 1) := by decide +kernel
theorem dX7_reachOf_1 : decode cX7_reachOf 1 = .ok (.ifCond .lt 25, 3) := by decide +kernel
theorem dX7_reachOf_4 : decode cX7_reachOf 4 = .ok (.iload_n 1, 1) := by decide +kernel
theorem dX7_reachOf_5 : decode cX7_reachOf 5 = .ok (.aload_n 0, 1) := by decide +kernel
theorem dX7_reachOf_6 : decode cX7_reachOf 6 = .ok (.getfield 31, 3) := by decide +kernel
theorem dX7_reachOf_9 : decode cX7_reachOf 9 = .ok (.if_icmp .ge 17, 3) := by decide +kernel
theorem dX7_reachOf_12 : decode cX7_reachOf 12 = .ok (.iload_n 1, 1) := by decide +kernel
theorem dX7_reachOf_13 : decode cX7_reachOf 13 = .ok (.iconst 3, 1) := by decide +kernel
theorem dX7_reachOf_14 : decode cX7_reachOf 14 = .ok (.if_icmp .ge 12, 3) := by decide +kernel
theorem dX7_reachOf_17 : decode cX7_reachOf 17 = .ok (.aload_n 0, 1) := by decide +kernel
theorem dX7_reachOf_18 : decode cX7_reachOf 18 = .ok (.getfield 9, 3) := by decide +kernel
theorem dX7_reachOf_21 : decode cX7_reachOf 21 = .ok (.iload_n 1, 1) := by decide +kernel
theorem dX7_reachOf_22 : decode cX7_reachOf 22 = .ok (.iaload, 1) := by decide +kernel
theorem dX7_reachOf_23 : decode cX7_reachOf 23 = .ok (.goto 4, 3) := by decide +kernel
theorem dX7_reachOf_26 : decode cX7_reachOf 26 = .ok (.iconst 0, 1) := by decide +kernel
theorem dX7_reachOf_27 : decode cX7_reachOf 27 = .ok (.ireturn, 1) := by decide +kernel
theorem dX7_toldOf_0 : decode cX7_toldOf 0 = .ok (.iload_n 1, 1) := by decide +kernel
theorem dX7_toldOf_1 : decode cX7_toldOf 1 = .ok (.ifCond .lt 30, 3) := by decide +kernel
theorem dX7_toldOf_4 : decode cX7_toldOf 4 = .ok (.iload_n 1, 1) := by decide +kernel
theorem dX7_toldOf_5 : decode cX7_toldOf 5 = .ok (.aload_n 0, 1) := by decide +kernel
theorem dX7_toldOf_6 : decode cX7_toldOf 6 = .ok (.getfield 34, 3) := by decide +kernel
theorem dX7_toldOf_9 : decode cX7_toldOf 9 = .ok (.if_icmp .ge 22, 3) := by decide +kernel
theorem dX7_toldOf_12 : decode cX7_toldOf 12 = .ok (.iload_n 1, 1) := by decide +kernel
theorem dX7_toldOf_13 : decode cX7_toldOf 13 = .ok (.bipush 10, 2) := by decide +kernel
theorem dX7_toldOf_15 : decode cX7_toldOf 15 = .ok (.if_icmp .ge 16, 3) := by decide +kernel
theorem dX7_toldOf_18 : decode cX7_toldOf 18 = .ok (.iload_n 2, 1) := by decide +kernel
theorem dX7_toldOf_19 : decode cX7_toldOf 19 = .ok (.ifCond .lt 12, 3) := by decide +kernel
theorem dX7_toldOf_22 : decode cX7_toldOf 22 = .ok (.iload_n 2, 1) := by decide +kernel
theorem dX7_toldOf_23 : decode cX7_toldOf 23 = .ok (.iconst 4, 1) := by decide +kernel
theorem dX7_toldOf_24 : decode cX7_toldOf 24 = .ok (.if_icmp .ge 7, 3) := by decide +kernel
theorem dX7_toldOf_27 : decode cX7_toldOf 27 = .ok (.iconst 1, 1) := by decide +kernel
theorem dX7_toldOf_28 : decode cX7_toldOf 28 = .ok (.goto 4, 3) := by decide +kernel
theorem dX7_toldOf_31 : decode cX7_toldOf 31 = .ok (.iconst 0, 1) := by decide +kernel
theorem dX7_toldOf_32 : decode cX7_toldOf 32 = .ok (.istore_n 3, 1) := by decide +kernel
theorem dX7_toldOf_33 : decode cX7_toldOf 33 = .ok (.iload_n 3, 1) := by decide +kernel
theorem dX7_toldOf_34 : decode cX7_toldOf 34 = .ok (.ifCond .eq 16, 3) := by decide +kernel
theorem dX7_toldOf_37 : decode cX7_toldOf 37 = .ok (.aload_n 0, 1) := by decide +kernel
theorem dX7_toldOf_38 : decode cX7_toldOf 38 = .ok (.getfield 15, 3) := by decide +kernel
theorem dX7_toldOf_41 : decode cX7_toldOf 41 = .ok (.iload_n 1, 1) := by decide +kernel
theorem dX7_toldOf_42 : decode cX7_toldOf 42 = .ok (.iconst 4, 1) := by decide +kernel
theorem dX7_toldOf_43 : decode cX7_toldOf 43 = .ok (.imul, 1) := by decide +kernel
theorem dX7_toldOf_44 : decode cX7_toldOf 44 = .ok (.iload_n 2, 1) := by decide +kernel
theorem dX7_toldOf_45 : decode cX7_toldOf 45 = .ok (.iadd, 1) := by decide +kernel
theorem dX7_toldOf_46 : decode cX7_toldOf 46 = .ok (.iaload, 1) := by decide +kernel
theorem dX7_toldOf_47 : decode cX7_toldOf 47 = .ok (.goto 4, 3) := by decide +kernel
theorem dX7_toldOf_50 : decode cX7_toldOf 50 = .ok (.iconst 0, 1) := by decide +kernel
theorem dX7_toldOf_51 : decode cX7_toldOf 51 = .ok (.ireturn, 1) := by decide +kernel
theorem dX7_lawOf_0 : decode cX7_lawOf 0 = .ok (.iload_n 1, 1) := by decide +kernel
theorem dX7_lawOf_1 : decode cX7_lawOf 1 = .ok (.ifCond .lt 8, 3) := by decide +kernel
theorem dX7_lawOf_4 : decode cX7_lawOf 4 = .ok (.iload_n 1, 1) := by decide +kernel
theorem dX7_lawOf_5 : decode cX7_lawOf 5 = .ok (.iconst 3, 1) := by decide +kernel
theorem dX7_lawOf_6 : decode cX7_lawOf 6 = .ok (.if_icmp .lt 5, 3) := by decide +kernel
theorem dX7_lawOf_9 : decode cX7_lawOf 9 = .ok (.aconst_null, 1) := by decide +kernel
theorem dX7_lawOf_10 : decode cX7_lawOf 10 = .ok (.areturn, 1) := by decide +kernel
theorem dX7_lawOf_11 : decode cX7_lawOf 11 = .ok (.aload_n 0, 1) := by decide +kernel
theorem dX7_lawOf_12 : decode cX7_lawOf 12 = .ok (.getfield 21, 3) := by decide +kernel
theorem dX7_lawOf_15 : decode cX7_lawOf 15 = .ok (.iload_n 1, 1) := by decide +kernel
theorem dX7_lawOf_16 : decode cX7_lawOf 16 = .ok (.iaload, 1) := by decide +kernel
theorem dX7_lawOf_17 : decode cX7_lawOf 17 = .ok (.istore_n 2, 1) := by decide +kernel
theorem dX7_lawOf_18 : decode cX7_lawOf 18 = .ok (.aload_n 0, 1) := by decide +kernel
theorem dX7_lawOf_19 : decode cX7_lawOf 19 = .ok (.getfield 24, 3) := by decide +kernel
theorem dX7_lawOf_22 : decode cX7_lawOf 22 = .ok (.iload_n 1, 1) := by decide +kernel
theorem dX7_lawOf_23 : decode cX7_lawOf 23 = .ok (.iaload, 1) := by decide +kernel
theorem dX7_lawOf_24 : decode cX7_lawOf 24 = .ok (.istore_n 3, 1) := by decide +kernel
theorem dX7_lawOf_25 : decode cX7_lawOf 25 = .ok (.iload_n 2, 1) := by decide +kernel
theorem dX7_lawOf_26 : decode cX7_lawOf 26 = .ok (.ifCond .lt 15, 3) := by decide +kernel
theorem dX7_lawOf_29 : decode cX7_lawOf 29 = .ok (.iload_n 2, 1) := by decide +kernel
theorem dX7_lawOf_30 : decode cX7_lawOf 30 = .ok (.iload_n 3, 1) := by decide +kernel
theorem dX7_lawOf_31 : decode cX7_lawOf 31 = .ok (.if_icmp .ge 10, 3) := by decide +kernel
theorem dX7_lawOf_34 : decode cX7_lawOf 34 = .ok (.iload_n 3, 1) := by decide +kernel
theorem dX7_lawOf_35 : decode cX7_lawOf 35 = .ok (.sipush 900, 3) := by decide +kernel
theorem dX7_lawOf_38 : decode cX7_lawOf 38 = .ok (.if_icmp .le 5, 3) := by decide +kernel
theorem dX7_lawOf_41 : decode cX7_lawOf 41 = .ok (.aconst_null, 1) := by decide +kernel
theorem dX7_lawOf_42 : decode cX7_lawOf 42 = .ok (.areturn, 1) := by decide +kernel
theorem dX7_lawOf_43 : decode cX7_lawOf 43 = .ok (.new 59, 3) := by decide +kernel
theorem dX7_lawOf_46 : decode cX7_lawOf 46 = .ok (.dup, 1) := by decide +kernel
theorem dX7_lawOf_47 : decode cX7_lawOf 47 = .ok (.aload_n 0, 1) := by decide +kernel
theorem dX7_lawOf_48 : decode cX7_lawOf 48 = .ok (.getfield 18, 3) := by decide +kernel
theorem dX7_lawOf_51 : decode cX7_lawOf 51 = .ok (.iload_n 2, 1) := by decide +kernel
theorem dX7_lawOf_52 : decode cX7_lawOf 52 = .ok (.iload_n 3, 1) := by decide +kernel
theorem dX7_lawOf_53 : decode cX7_lawOf 53 = .ok (.invokestatic 61, 3) := by decide +kernel
theorem dX7_lawOf_56 : decode cX7_lawOf 56 = .ok (.invokespecial 67, 3) := by decide +kernel
theorem dX7_lawOf_59 : decode cX7_lawOf 59 = .ok (.areturn, 1) := by decide +kernel
theorem dX7_read_0 : decode cX7_read 0 = .ok (.aload_n 0, 1) := by decide +kernel
theorem dX7_read_1 : decode cX7_read 1 = .ok (.invokevirtual 70, 3) := by decide +kernel
theorem dX7_read_4 : decode cX7_read 4 = .ok (.aload_n 0, 1) := by decide +kernel
theorem dX7_read_5 : decode cX7_read 5 = .ok (.getfield 55, 3) := by decide +kernel
theorem dX7_read_8 : decode cX7_read 8 = .ok (.iload_n 1, 1) := by decide +kernel
theorem dX7_read_9 : decode cX7_read 9 = .ok (.invokevirtual 73, 3) := by decide +kernel
theorem dX7_read_12 : decode cX7_read 12 = .ok (.aload_n 0, 1) := by decide +kernel
theorem dX7_read_13 : decode cX7_read 13 = .ok (.invokevirtual 79, 3) := by decide +kernel
theorem dX7_read_16 : decode cX7_read 16 = .ok (.ifCond .eq 14, 3) := by decide +kernel
theorem dX7_read_19 : decode cX7_read 19 = .ok (.aload_n 0, 1) := by decide +kernel
theorem dX7_read_20 : decode cX7_read 20 = .ok (.invokevirtual 83, 3) := by decide +kernel
theorem dX7_read_23 : decode cX7_read 23 = .ok (.ifCond .eq 7, 3) := by decide +kernel
theorem dX7_read_26 : decode cX7_read 26 = .ok (.iconst 1, 1) := by decide +kernel
theorem dX7_read_27 : decode cX7_read 27 = .ok (.goto 4, 3) := by decide +kernel
theorem dX7_read_30 : decode cX7_read 30 = .ok (.iconst 0, 1) := by decide +kernel
theorem dX7_read_31 : decode cX7_read 31 = .ok (.istore_n 2, 1) := by decide +kernel
theorem dX7_read_32 : decode cX7_read 32 = .ok (.iconst 0, 1) := by decide +kernel
theorem dX7_read_33 : decode cX7_read 33 = .ok (.istore_n 3, 1) := by decide +kernel
theorem dX7_read_34 : decode cX7_read 34 = .ok (.iload_n 3, 1) := by decide +kernel
theorem dX7_read_35 : decode cX7_read 35 = .ok (.sipush 900, 3) := by decide +kernel
theorem dX7_read_38 : decode cX7_read 38 = .ok (.if_icmp .ge 169, 3) := by decide +kernel
theorem dX7_read_41 : decode cX7_read 41 = .ok (.iload_n 2, 1) := by decide +kernel
theorem dX7_read_42 : decode cX7_read 42 = .ok (.ifCond .eq 165, 3) := by decide +kernel
theorem dX7_read_45 : decode cX7_read 45 = .ok (.aload_n 0, 1) := by decide +kernel
theorem dX7_read_46 : decode cX7_read 46 = .ok (.getfield 55, 3) := by decide +kernel
theorem dX7_read_49 : decode cX7_read 49 = .ok (.invokevirtual 86, 3) := by decide +kernel
theorem dX7_read_52 : decode cX7_read 52 = .ok (.ifCond .ne 155, 3) := by decide +kernel
theorem dX7_read_55 : decode cX7_read 55 = .ok (.aload_n 0, 1) := by decide +kernel
theorem dX7_read_56 : decode cX7_read 56 = .ok (.getfield 55, 3) := by decide +kernel
theorem dX7_read_59 : decode cX7_read 59 = .ok (.ldc 89, 2) := by decide +kernel
theorem dX7_read_61 : decode cX7_read 61 = .ok (.invokevirtual 91, 3) := by decide +kernel
theorem dX7_read_64 : decode cX7_read 64 = .ok (.ifCond .eq 11, 3) := by decide +kernel
theorem dX7_read_67 : decode cX7_read 67 = .ok (.aload_n 0, 1) := by decide +kernel
theorem dX7_read_68 : decode cX7_read 68 = .ok (.invokevirtual 95, 3) := by decide +kernel
theorem dX7_read_71 : decode cX7_read 71 = .ok (.istore_n 2, 1) := by decide +kernel
theorem dX7_read_72 : decode cX7_read 72 = .ok (.goto 112, 3) := by decide +kernel
theorem dX7_read_75 : decode cX7_read 75 = .ok (.aload_n 0, 1) := by decide +kernel
theorem dX7_read_76 : decode cX7_read 76 = .ok (.getfield 55, 3) := by decide +kernel
theorem dX7_read_79 : decode cX7_read 79 = .ok (.ldc 98, 2) := by decide +kernel
theorem dX7_read_81 : decode cX7_read 81 = .ok (.invokevirtual 91, 3) := by decide +kernel
theorem dX7_read_84 : decode cX7_read 84 = .ok (.ifCond .eq 11, 3) := by decide +kernel
theorem dX7_read_87 : decode cX7_read 87 = .ok (.aload_n 0, 1) := by decide +kernel
theorem dX7_read_88 : decode cX7_read 88 = .ok (.invokevirtual 100, 3) := by decide +kernel
theorem dX7_read_91 : decode cX7_read 91 = .ok (.istore_n 2, 1) := by decide +kernel
theorem dX7_read_92 : decode cX7_read 92 = .ok (.goto 92, 3) := by decide +kernel
theorem dX7_read_95 : decode cX7_read 95 = .ok (.aload_n 0, 1) := by decide +kernel
theorem dX7_read_96 : decode cX7_read 96 = .ok (.getfield 55, 3) := by decide +kernel
theorem dX7_read_99 : decode cX7_read 99 = .ok (.ldc 103, 2) := by decide +kernel
theorem dX7_read_101 : decode cX7_read 101 = .ok (.invokevirtual 91, 3) := by decide +kernel
theorem dX7_read_104 : decode cX7_read 104 = .ok (.ifCond .eq 12, 3) := by decide +kernel
theorem dX7_read_107 : decode cX7_read 107 = .ok (.aload_n 0, 1) := by decide +kernel
theorem dX7_read_108 : decode cX7_read 108 = .ok (.iconst 0, 1) := by decide +kernel
theorem dX7_read_109 : decode cX7_read 109 = .ok (.invokevirtual 105, 3) := by decide +kernel
theorem dX7_read_112 : decode cX7_read 112 = .ok (.istore_n 2, 1) := by decide +kernel
theorem dX7_read_113 : decode cX7_read 113 = .ok (.goto 71, 3) := by decide +kernel
theorem dX7_read_116 : decode cX7_read 116 = .ok (.aload_n 0, 1) := by decide +kernel
theorem dX7_read_117 : decode cX7_read 117 = .ok (.getfield 55, 3) := by decide +kernel
theorem dX7_read_120 : decode cX7_read 120 = .ok (.ldc 109, 2) := by decide +kernel
theorem dX7_read_122 : decode cX7_read 122 = .ok (.invokevirtual 91, 3) := by decide +kernel
theorem dX7_read_125 : decode cX7_read 125 = .ok (.ifCond .eq 12, 3) := by decide +kernel
theorem dX7_read_128 : decode cX7_read 128 = .ok (.aload_n 0, 1) := by decide +kernel
theorem dX7_read_129 : decode cX7_read 129 = .ok (.iconst 1, 1) := by decide +kernel
theorem dX7_read_130 : decode cX7_read 130 = .ok (.invokevirtual 105, 3) := by decide +kernel
theorem dX7_read_133 : decode cX7_read 133 = .ok (.istore_n 2, 1) := by decide +kernel
theorem dX7_read_134 : decode cX7_read 134 = .ok (.goto 50, 3) := by decide +kernel
theorem dX7_read_137 : decode cX7_read 137 = .ok (.aload_n 0, 1) := by decide +kernel
theorem dX7_read_138 : decode cX7_read 138 = .ok (.getfield 55, 3) := by decide +kernel
theorem dX7_read_141 : decode cX7_read 141 = .ok (.ldc 111, 2) := by decide +kernel
theorem dX7_read_143 : decode cX7_read 143 = .ok (.invokevirtual 91, 3) := by decide +kernel
theorem dX7_read_146 : decode cX7_read 146 = .ok (.ifCond .eq 12, 3) := by decide +kernel
theorem dX7_read_149 : decode cX7_read 149 = .ok (.aload_n 0, 1) := by decide +kernel
theorem dX7_read_150 : decode cX7_read 150 = .ok (.iconst 2, 1) := by decide +kernel
theorem dX7_read_151 : decode cX7_read 151 = .ok (.invokevirtual 105, 3) := by decide +kernel
theorem dX7_read_154 : decode cX7_read 154 = .ok (.istore_n 2, 1) := by decide +kernel
theorem dX7_read_155 : decode cX7_read 155 = .ok (.goto 29, 3) := by decide +kernel
theorem dX7_read_158 : decode cX7_read 158 = .ok (.aload_n 0, 1) := by decide +kernel
theorem dX7_read_159 : decode cX7_read 159 = .ok (.getfield 55, 3) := by decide +kernel
theorem dX7_read_162 : decode cX7_read 162 = .ok (.ldc 113, 2) := by decide +kernel
theorem dX7_read_164 : decode cX7_read 164 = .ok (.invokevirtual 91, 3) := by decide +kernel
theorem dX7_read_167 : decode cX7_read 167 = .ok (.ifCond .eq 11, 3) := by decide +kernel
theorem dX7_read_170 : decode cX7_read 170 = .ok (.aload_n 0, 1) := by decide +kernel
theorem dX7_read_171 : decode cX7_read 171 = .ok (.invokevirtual 114, 3) := by decide +kernel
theorem dX7_read_174 : decode cX7_read 174 = .ok (.istore_n 2, 1) := by decide +kernel
theorem dX7_read_175 : decode cX7_read 175 = .ok (.goto 9, 3) := by decide +kernel
theorem dX7_read_178 : decode cX7_read 178 = .ok (.aload_n 0, 1) := by decide +kernel
theorem dX7_read_179 : decode cX7_read 179 = .ok (.iconst 2, 1) := by decide +kernel
theorem dX7_read_180 : decode cX7_read 180 = .ok (.invokevirtual 117, 3) := by decide +kernel
theorem dX7_read_183 : decode cX7_read 183 = .ok (.istore_n 2, 1) := by decide +kernel
theorem dX7_read_184 : decode cX7_read 184 = .ok (.iload_n 2, 1) := by decide +kernel
theorem dX7_read_185 : decode cX7_read 185 = .ok (.ifCond .eq 14, 3) := by decide +kernel
theorem dX7_read_188 : decode cX7_read 188 = .ok (.aload_n 0, 1) := by decide +kernel
theorem dX7_read_189 : decode cX7_read 189 = .ok (.invokevirtual 83, 3) := by decide +kernel
theorem dX7_read_192 : decode cX7_read 192 = .ok (.ifCond .eq 7, 3) := by decide +kernel
theorem dX7_read_195 : decode cX7_read 195 = .ok (.iconst 1, 1) := by decide +kernel
theorem dX7_read_196 : decode cX7_read 196 = .ok (.goto 4, 3) := by decide +kernel
theorem dX7_read_199 : decode cX7_read 199 = .ok (.iconst 0, 1) := by decide +kernel
theorem dX7_read_200 : decode cX7_read 200 = .ok (.istore_n 2, 1) := by decide +kernel
theorem dX7_read_201 : decode cX7_read 201 = .ok (.iinc 3 1, 3) := by decide +kernel
theorem dX7_read_204 : decode cX7_read 204 = .ok (.goto (-170), 3) := by decide +kernel
theorem dX7_read_207 : decode cX7_read 207 = .ok (.return_, 1) := by decide +kernel
theorem dX7_clear_0 : decode cX7_clear 0 = .ok (.aload_n 0, 1) := by decide +kernel
theorem dX7_clear_1 : decode cX7_clear 1 = .ok (.iconst 2, 1) := by decide +kernel
theorem dX7_clear_2 : decode cX7_clear 2 = .ok (.putfield 27, 3) := by decide +kernel
theorem dX7_clear_5 : decode cX7_clear 5 = .ok (.aload_n 0, 1) := by decide +kernel
theorem dX7_clear_6 : decode cX7_clear 6 = .ok (.iconst 0, 1) := by decide +kernel
theorem dX7_clear_7 : decode cX7_clear 7 = .ok (.putfield 31, 3) := by decide +kernel
theorem dX7_clear_10 : decode cX7_clear 10 = .ok (.aload_n 0, 1) := by decide +kernel
theorem dX7_clear_11 : decode cX7_clear 11 = .ok (.iconst 0, 1) := by decide +kernel
theorem dX7_clear_12 : decode cX7_clear 12 = .ok (.putfield 34, 3) := by decide +kernel
theorem dX7_clear_15 : decode cX7_clear 15 = .ok (.aload_n 0, 1) := by decide +kernel
theorem dX7_clear_16 : decode cX7_clear 16 = .ok (.iconst 0, 1) := by decide +kernel
theorem dX7_clear_17 : decode cX7_clear 17 = .ok (.putfield 37, 3) := by decide +kernel
theorem dX7_clear_20 : decode cX7_clear 20 = .ok (.aload_n 0, 1) := by decide +kernel
theorem dX7_clear_21 : decode cX7_clear 21 = .ok (.iconst 0, 1) := by decide +kernel
theorem dX7_clear_22 : decode cX7_clear 22 = .ok (.putfield 40, 3) := by decide +kernel
theorem dX7_clear_25 : decode cX7_clear 25 = .ok (.aload_n 0, 1) := by decide +kernel
theorem dX7_clear_26 : decode cX7_clear 26 = .ok (.iconst 0, 1) := by decide +kernel
theorem dX7_clear_27 : decode cX7_clear 27 = .ok (.putfield 43, 3) := by decide +kernel
theorem dX7_clear_30 : decode cX7_clear 30 = .ok (.aload_n 0, 1) := by decide +kernel
theorem dX7_clear_31 : decode cX7_clear 31 = .ok (.iconst 0, 1) := by decide +kernel
theorem dX7_clear_32 : decode cX7_clear 32 = .ok (.putfield 49, 3) := by decide +kernel
theorem dX7_clear_35 : decode cX7_clear 35 = .ok (.aload_n 0, 1) := by decide +kernel
theorem dX7_clear_36 : decode cX7_clear 36 = .ok (.iconst (-1), 1) := by decide +kernel
theorem dX7_clear_37 : decode cX7_clear 37 = .ok (.putfield 52, 3) := by decide +kernel
theorem dX7_clear_40 : decode cX7_clear 40 = .ok (.aload_n 0, 1) := by decide +kernel
theorem dX7_clear_41 : decode cX7_clear 41 = .ok (.getfield 21, 3) := by decide +kernel
theorem dX7_clear_44 : decode cX7_clear 44 = .ok (.iconst 0, 1) := by decide +kernel
theorem dX7_clear_45 : decode cX7_clear 45 = .ok (.invokestatic 120, 3) := by decide +kernel
theorem dX7_clear_48 : decode cX7_clear 48 = .ok (.aload_n 0, 1) := by decide +kernel
theorem dX7_clear_49 : decode cX7_clear 49 = .ok (.getfield 24, 3) := by decide +kernel
theorem dX7_clear_52 : decode cX7_clear 52 = .ok (.iconst 0, 1) := by decide +kernel
theorem dX7_clear_53 : decode cX7_clear 53 = .ok (.invokestatic 120, 3) := by decide +kernel
theorem dX7_clear_56 : decode cX7_clear 56 = .ok (.return_, 1) := by decide +kernel
theorem dX7_refuse_0 : decode cX7_refuse 0 = .ok (.aload_n 0, 1) := by decide +kernel
theorem dX7_refuse_1 : decode cX7_refuse 1 = .ok (.aload_n 0, 1) := by decide +kernel
theorem dX7_refuse_2 : decode cX7_refuse 2 = .ok (.getfield 55, 3) := by decide +kernel
theorem dX7_refuse_5 : decode cX7_refuse 5 = .ok (.invokevirtual 124, 3) := by decide +kernel
theorem dX7_refuse_8 : decode cX7_refuse 8 = .ok (.ifCond .eq 7, 3) := by decide +kernel
theorem dX7_refuse_11 : decode cX7_refuse 11 = .ok (.iconst 1, 1) := by decide +kernel
theorem dX7_refuse_12 : decode cX7_refuse 12 = .ok (.goto 4, 3) := by decide +kernel
theorem dX7_refuse_15 : decode cX7_refuse 15 = .ok (.iload_n 1, 1) := by decide +kernel
theorem dX7_refuse_16 : decode cX7_refuse 16 = .ok (.putfield 49, 3) := by decide +kernel
theorem dX7_refuse_19 : decode cX7_refuse 19 = .ok (.aload_n 0, 1) := by decide +kernel
theorem dX7_refuse_20 : decode cX7_refuse 20 = .ok (.aload_n 0, 1) := by decide +kernel
theorem dX7_refuse_21 : decode cX7_refuse 21 = .ok (.getfield 55, 3) := by decide +kernel
theorem dX7_refuse_24 : decode cX7_refuse 24 = .ok (.invokevirtual 127, 3) := by decide +kernel
theorem dX7_refuse_27 : decode cX7_refuse 27 = .ok (.putfield 52, 3) := by decide +kernel
theorem dX7_refuse_30 : decode cX7_refuse 30 = .ok (.iconst 0, 1) := by decide +kernel
theorem dX7_refuse_31 : decode cX7_refuse 31 = .ok (.ireturn, 1) := by decide +kernel
theorem dX7_takeWord_0 : decode cX7_takeWord 0 = .ok (.aload_n 0, 1) := by decide +kernel
theorem dX7_takeWord_1 : decode cX7_takeWord 1 = .ok (.getfield 55, 3) := by decide +kernel
theorem dX7_takeWord_4 : decode cX7_takeWord 4 = .ok (.aload_n 1, 1) := by decide +kernel
theorem dX7_takeWord_5 : decode cX7_takeWord 5 = .ok (.invokevirtual 91, 3) := by decide +kernel
theorem dX7_takeWord_8 : decode cX7_takeWord 8 = .ok (.ifCond .ne 9, 3) := by decide +kernel
theorem dX7_takeWord_11 : decode cX7_takeWord 11 = .ok (.aload_n 0, 1) := by decide +kernel
theorem dX7_takeWord_12 : decode cX7_takeWord 12 = .ok (.iconst 2, 1) := by decide +kernel
theorem dX7_takeWord_13 : decode cX7_takeWord 13 = .ok (.invokevirtual 117, 3) := by decide +kernel
theorem dX7_takeWord_16 : decode cX7_takeWord 16 = .ok (.ireturn, 1) := by decide +kernel
theorem dX7_takeWord_17 : decode cX7_takeWord 17 = .ok (.aload_n 0, 1) := by decide +kernel
theorem dX7_takeWord_18 : decode cX7_takeWord 18 = .ok (.getfield 55, 3) := by decide +kernel
theorem dX7_takeWord_21 : decode cX7_takeWord 21 = .ok (.invokevirtual 131, 3) := by decide +kernel
theorem dX7_takeWord_24 : decode cX7_takeWord 24 = .ok (.iconst 1, 1) := by decide +kernel
theorem dX7_takeWord_25 : decode cX7_takeWord 25 = .ok (.ireturn, 1) := by decide +kernel
theorem dX7_takeSign_0 : decode cX7_takeSign 0 = .ok (.aload_n 0, 1) := by decide +kernel
theorem dX7_takeSign_1 : decode cX7_takeSign 1 = .ok (.getfield 55, 3) := by decide +kernel
theorem dX7_takeSign_4 : decode cX7_takeSign 4 = .ok (.iload_n 1, 1) := by decide +kernel
theorem dX7_takeSign_5 : decode cX7_takeSign 5 = .ok (.invokevirtual 134, 3) := by decide +kernel
theorem dX7_takeSign_8 : decode cX7_takeSign 8 = .ok (.ifCond .ne 9, 3) := by decide +kernel
theorem dX7_takeSign_11 : decode cX7_takeSign 11 = .ok (.aload_n 0, 1) := by decide +kernel
theorem dX7_takeSign_12 : decode cX7_takeSign 12 = .ok (.iconst 2, 1) := by decide +kernel
theorem dX7_takeSign_13 : decode cX7_takeSign 13 = .ok (.invokevirtual 117, 3) := by decide +kernel
theorem dX7_takeSign_16 : decode cX7_takeSign 16 = .ok (.ireturn, 1) := by decide +kernel
theorem dX7_takeSign_17 : decode cX7_takeSign 17 = .ok (.aload_n 0, 1) := by decide +kernel
theorem dX7_takeSign_18 : decode cX7_takeSign 18 = .ok (.getfield 55, 3) := by decide +kernel
theorem dX7_takeSign_21 : decode cX7_takeSign 21 = .ok (.invokevirtual 131, 3) := by decide +kernel
theorem dX7_takeSign_24 : decode cX7_takeSign 24 = .ok (.iconst 1, 1) := by decide +kernel
theorem dX7_takeSign_25 : decode cX7_takeSign 25 = .ok (.ireturn, 1) := by decide +kernel
theorem dX7_takeNumber_0 : decode cX7_takeNumber 0 = .ok (.aload_n 0, 1) := by decide +kernel
theorem dX7_takeNumber_1 : decode cX7_takeNumber 1 = .ok (.getfield 55, 3) := by decide +kernel
theorem dX7_takeNumber_4 : decode cX7_takeNumber 4 = .ok (.invokevirtual 138, 3) := by decide +kernel
theorem dX7_takeNumber_7 : decode cX7_takeNumber 7 = .ok (.ifCond .ne 11, 3) := by decide +kernel
theorem dX7_takeNumber_10 : decode cX7_takeNumber 10 = .ok (.aload_n 0, 1) := by decide +kernel
theorem dX7_takeNumber_11 : decode cX7_takeNumber 11 = .ok (.iconst 2, 1) := by decide +kernel
theorem dX7_takeNumber_12 : decode cX7_takeNumber 12 = .ok (.invokevirtual 117, 3) := by decide +kernel
theorem dX7_takeNumber_15 : decode cX7_takeNumber 15 = .ok (.pop, 1) := by decide +kernel
theorem dX7_takeNumber_16 : decode cX7_takeNumber 16 = .ok (.iconst (-1), 1) := by decide +kernel
theorem dX7_takeNumber_17 : decode cX7_takeNumber 17 = .ok (.ireturn, 1) := by decide +kernel
theorem dX7_takeNumber_18 : decode cX7_takeNumber 18 = .ok (.aload_n 0, 1) := by decide +kernel
theorem dX7_takeNumber_19 : decode cX7_takeNumber 19 = .ok (.getfield 55, 3) := by decide +kernel
theorem dX7_takeNumber_22 : decode cX7_takeNumber 22 = .ok (.invokevirtual 141, 3) := by decide +kernel
theorem dX7_takeNumber_25 : decode cX7_takeNumber 25 = .ok (.istore 4, 2) := by decide +kernel
theorem dX7_takeNumber_27 : decode cX7_takeNumber 27 = .ok (.iload 4, 2) := by decide +kernel
theorem dX7_takeNumber_29 : decode cX7_takeNumber 29 = .ok (.iload_n 1, 1) := by decide +kernel
theorem dX7_takeNumber_30 : decode cX7_takeNumber 30 = .ok (.if_icmp .lt 15, 3) := by decide +kernel
theorem dX7_takeNumber_33 : decode cX7_takeNumber 33 = .ok (.iload 4, 2) := by decide +kernel
theorem dX7_takeNumber_35 : decode cX7_takeNumber 35 = .ok (.iload_n 2, 1) := by decide +kernel
theorem dX7_takeNumber_36 : decode cX7_takeNumber 36 = .ok (.if_icmp .gt 9, 3) := by decide +kernel
theorem dX7_takeNumber_39 : decode cX7_takeNumber 39 = .ok (.iload 4, 2) := by decide +kernel
theorem dX7_takeNumber_41 : decode cX7_takeNumber 41 = .ok (.iload_n 3, 1) := by decide +kernel
theorem dX7_takeNumber_42 : decode cX7_takeNumber 42 = .ok (.if_icmp .ne 11, 3) := by decide +kernel
theorem dX7_takeNumber_45 : decode cX7_takeNumber 45 = .ok (.aload_n 0, 1) := by decide +kernel
theorem dX7_takeNumber_46 : decode cX7_takeNumber 46 = .ok (.iconst 3, 1) := by decide +kernel
theorem dX7_takeNumber_47 : decode cX7_takeNumber 47 = .ok (.invokevirtual 117, 3) := by decide +kernel
theorem dX7_takeNumber_50 : decode cX7_takeNumber 50 = .ok (.pop, 1) := by decide +kernel
theorem dX7_takeNumber_51 : decode cX7_takeNumber 51 = .ok (.iconst (-1), 1) := by decide +kernel
theorem dX7_takeNumber_52 : decode cX7_takeNumber 52 = .ok (.ireturn, 1) := by decide +kernel
theorem dX7_takeNumber_53 : decode cX7_takeNumber 53 = .ok (.aload_n 0, 1) := by decide +kernel
theorem dX7_takeNumber_54 : decode cX7_takeNumber 54 = .ok (.getfield 55, 3) := by decide +kernel
theorem dX7_takeNumber_57 : decode cX7_takeNumber 57 = .ok (.invokevirtual 131, 3) := by decide +kernel
theorem dX7_takeNumber_60 : decode cX7_takeNumber 60 = .ok (.iload 4, 2) := by decide +kernel
theorem dX7_takeNumber_62 : decode cX7_takeNumber 62 = .ok (.ireturn, 1) := by decide +kernel
theorem dX7_endLine_0 : decode cX7_endLine 0 = .ok (.aload_n 0, 1) := by decide +kernel
theorem dX7_endLine_1 : decode cX7_endLine 1 = .ok (.dup, 1) := by decide +kernel
theorem dX7_endLine_2 : decode cX7_endLine 2 = .ok (.getfield 40, 3) := by decide +kernel
theorem dX7_endLine_5 : decode cX7_endLine 5 = .ok (.iconst 1, 1) := by decide +kernel
theorem dX7_endLine_6 : decode cX7_endLine 6 = .ok (.iadd, 1) := by decide +kernel
theorem dX7_endLine_7 : decode cX7_endLine 7 = .ok (.putfield 40, 3) := by decide +kernel
theorem dX7_endLine_10 : decode cX7_endLine 10 = .ok (.aload_n 0, 1) := by decide +kernel
theorem dX7_endLine_11 : decode cX7_endLine 11 = .ok (.bipush 59, 2) := by decide +kernel
theorem dX7_endLine_13 : decode cX7_endLine 13 = .ok (.invokevirtual 144, 3) := by decide +kernel
theorem dX7_endLine_16 : decode cX7_endLine 16 = .ok (.ireturn, 1) := by decide +kernel
theorem dX7_readHead_0 : decode cX7_readHead 0 = .ok (.aload_n 0, 1) := by decide +kernel
theorem dX7_readHead_1 : decode cX7_readHead 1 = .ok (.ldc 147, 2) := by decide +kernel
theorem dX7_readHead_3 : decode cX7_readHead 3 = .ok (.invokevirtual 148, 3) := by decide +kernel
theorem dX7_readHead_6 : decode cX7_readHead 6 = .ok (.ifCond .ne 5, 3) := by decide +kernel
theorem dX7_readHead_9 : decode cX7_readHead 9 = .ok (.iconst 0, 1) := by decide +kernel
theorem dX7_readHead_10 : decode cX7_readHead 10 = .ok (.ireturn, 1) := by decide +kernel
theorem dX7_readHead_11 : decode cX7_readHead 11 = .ok (.aload_n 0, 1) := by decide +kernel
theorem dX7_readHead_12 : decode cX7_readHead 12 = .ok (.iconst 2, 1) := by decide +kernel
theorem dX7_readHead_13 : decode cX7_readHead 13 = .ok (.bipush 8, 2) := by decide +kernel
theorem dX7_readHead_15 : decode cX7_readHead 15 = .ok (.iconst (-1), 1) := by decide +kernel
theorem dX7_readHead_16 : decode cX7_readHead 16 = .ok (.invokevirtual 151, 3) := by decide +kernel
theorem dX7_readHead_19 : decode cX7_readHead 19 = .ok (.istore_n 1, 1) := by decide +kernel
theorem dX7_readHead_20 : decode cX7_readHead 20 = .ok (.iload_n 1, 1) := by decide +kernel
theorem dX7_readHead_21 : decode cX7_readHead 21 = .ok (.iconst (-1), 1) := by decide +kernel
theorem dX7_readHead_22 : decode cX7_readHead 22 = .ok (.if_icmp .ne 5, 3) := by decide +kernel
theorem dX7_readHead_25 : decode cX7_readHead 25 = .ok (.iconst 0, 1) := by decide +kernel
theorem dX7_readHead_26 : decode cX7_readHead 26 = .ok (.ireturn, 1) := by decide +kernel
theorem dX7_readHead_27 : decode cX7_readHead 27 = .ok (.aload_n 0, 1) := by decide +kernel
theorem dX7_readHead_28 : decode cX7_readHead 28 = .ok (.iload_n 1, 1) := by decide +kernel
theorem dX7_readHead_29 : decode cX7_readHead 29 = .ok (.putfield 27, 3) := by decide +kernel
theorem dX7_readHead_32 : decode cX7_readHead 32 = .ok (.iconst 1, 1) := by decide +kernel
theorem dX7_readHead_33 : decode cX7_readHead 33 = .ok (.ireturn, 1) := by decide +kernel
theorem dX7_readCord_0 : decode cX7_readCord 0 = .ok (.aload_n 0, 1) := by decide +kernel
theorem dX7_readCord_1 : decode cX7_readCord 1 = .ok (.getfield 31, 3) := by decide +kernel
theorem dX7_readCord_4 : decode cX7_readCord 4 = .ok (.iconst 3, 1) := by decide +kernel
theorem dX7_readCord_5 : decode cX7_readCord 5 = .ok (.if_icmp .lt 9, 3) := by decide +kernel
theorem dX7_readCord_8 : decode cX7_readCord 8 = .ok (.aload_n 0, 1) := by decide +kernel
theorem dX7_readCord_9 : decode cX7_readCord 9 = .ok (.iconst 4, 1) := by decide +kernel
theorem dX7_readCord_10 : decode cX7_readCord 10 = .ok (.invokevirtual 117, 3) := by decide +kernel
theorem dX7_readCord_13 : decode cX7_readCord 13 = .ok (.ireturn, 1) := by decide +kernel
theorem dX7_readCord_14 : decode cX7_readCord 14 = .ok (.aload_n 0, 1) := by decide +kernel
theorem dX7_readCord_15 : decode cX7_readCord 15 = .ok (.getfield 55, 3) := by decide +kernel
theorem dX7_readCord_18 : decode cX7_readCord 18 = .ok (.invokevirtual 131, 3) := by decide +kernel
theorem dX7_readCord_21 : decode cX7_readCord 21 = .ok (.iconst 0, 1) := by decide +kernel
theorem dX7_readCord_22 : decode cX7_readCord 22 = .ok (.istore_n 1, 1) := by decide +kernel
theorem dX7_readCord_23 : decode cX7_readCord 23 = .ok (.iconst 0, 1) := by decide +kernel
theorem dX7_readCord_24 : decode cX7_readCord 24 = .ok (.istore_n 2, 1) := by decide +kernel
theorem dX7_readCord_25 : decode cX7_readCord 25 = .ok (.iload_n 2, 1) := by decide +kernel
theorem dX7_readCord_26 : decode cX7_readCord 26 = .ok (.sipush 900, 3) := by decide +kernel
theorem dX7_readCord_29 : decode cX7_readCord 29 = .ok (.if_icmp .ge 45, 3) := by decide +kernel
theorem dX7_readCord_32 : decode cX7_readCord 32 = .ok (.aload_n 0, 1) := by decide +kernel
theorem dX7_readCord_33 : decode cX7_readCord 33 = .ok (.getfield 55, 3) := by decide +kernel
theorem dX7_readCord_36 : decode cX7_readCord 36 = .ok (.invokevirtual 138, 3) := by decide +kernel
theorem dX7_readCord_39 : decode cX7_readCord 39 = .ok (.ifCond .eq 35, 3) := by decide +kernel
theorem dX7_readCord_42 : decode cX7_readCord 42 = .ok (.aload_n 0, 1) := by decide +kernel
theorem dX7_readCord_43 : decode cX7_readCord 43 = .ok (.iconst 0, 1) := by decide +kernel
theorem dX7_readCord_44 : decode cX7_readCord 44 = .ok (.aload_n 0, 1) := by decide +kernel
theorem dX7_readCord_45 : decode cX7_readCord 45 = .ok (.getfield 27, 3) := by decide +kernel
theorem dX7_readCord_48 : decode cX7_readCord 48 = .ok (.iconst 1, 1) := by decide +kernel
theorem dX7_readCord_49 : decode cX7_readCord 49 = .ok (.isub, 1) := by decide +kernel
theorem dX7_readCord_50 : decode cX7_readCord 50 = .ok (.iconst (-1), 1) := by decide +kernel
theorem dX7_readCord_51 : decode cX7_readCord 51 = .ok (.invokevirtual 151, 3) := by decide +kernel
theorem dX7_readCord_54 : decode cX7_readCord 54 = .ok (.istore_n 3, 1) := by decide +kernel
theorem dX7_readCord_55 : decode cX7_readCord 55 = .ok (.iload_n 3, 1) := by decide +kernel
theorem dX7_readCord_56 : decode cX7_readCord 56 = .ok (.iconst (-1), 1) := by decide +kernel
theorem dX7_readCord_57 : decode cX7_readCord 57 = .ok (.if_icmp .ne 5, 3) := by decide +kernel
theorem dX7_readCord_60 : decode cX7_readCord 60 = .ok (.iconst 0, 1) := by decide +kernel
theorem dX7_readCord_61 : decode cX7_readCord 61 = .ok (.ireturn, 1) := by decide +kernel
theorem dX7_readCord_62 : decode cX7_readCord 62 = .ok (.iload_n 1, 1) := by decide +kernel
theorem dX7_readCord_63 : decode cX7_readCord 63 = .ok (.iconst 1, 1) := by decide +kernel
theorem dX7_readCord_64 : decode cX7_readCord 64 = .ok (.iload_n 3, 1) := by decide +kernel
theorem dX7_readCord_65 : decode cX7_readCord 65 = .ok (.ishl, 1) := by decide +kernel
theorem dX7_readCord_66 : decode cX7_readCord 66 = .ok (.ior, 1) := by decide +kernel
theorem dX7_readCord_67 : decode cX7_readCord 67 = .ok (.istore_n 1, 1) := by decide +kernel
theorem dX7_readCord_68 : decode cX7_readCord 68 = .ok (.iinc 2 1, 3) := by decide +kernel
theorem dX7_readCord_71 : decode cX7_readCord 71 = .ok (.goto (-46), 3) := by decide +kernel
theorem dX7_readCord_74 : decode cX7_readCord 74 = .ok (.aload_n 0, 1) := by decide +kernel
theorem dX7_readCord_75 : decode cX7_readCord 75 = .ok (.getfield 9, 3) := by decide +kernel
theorem dX7_readCord_78 : decode cX7_readCord 78 = .ok (.aload_n 0, 1) := by decide +kernel
theorem dX7_readCord_79 : decode cX7_readCord 79 = .ok (.getfield 31, 3) := by decide +kernel
theorem dX7_readCord_82 : decode cX7_readCord 82 = .ok (.iload_n 1, 1) := by decide +kernel
theorem dX7_readCord_83 : decode cX7_readCord 83 = .ok (.ifCond .ne 14, 3) := by decide +kernel
theorem dX7_readCord_86 : decode cX7_readCord 86 = .ok (.iconst 1, 1) := by decide +kernel
theorem dX7_readCord_87 : decode cX7_readCord 87 = .ok (.aload_n 0, 1) := by decide +kernel
theorem dX7_readCord_88 : decode cX7_readCord 88 = .ok (.getfield 27, 3) := by decide +kernel
theorem dX7_readCord_91 : decode cX7_readCord 91 = .ok (.ishl, 1) := by decide +kernel
theorem dX7_readCord_92 : decode cX7_readCord 92 = .ok (.iconst 1, 1) := by decide +kernel
theorem dX7_readCord_93 : decode cX7_readCord 93 = .ok (.isub, 1) := by decide +kernel
theorem dX7_readCord_94 : decode cX7_readCord 94 = .ok (.goto 4, 3) := by decide +kernel
theorem dX7_readCord_97 : decode cX7_readCord 97 = .ok (.iload_n 1, 1) := by decide +kernel
theorem dX7_readCord_98 : decode cX7_readCord 98 = .ok (.iastore, 1) := by decide +kernel
theorem dX7_readCord_99 : decode cX7_readCord 99 = .ok (.aload_n 0, 1) := by decide +kernel
theorem dX7_readCord_100 : decode cX7_readCord 100 = .ok (.dup, 1) := by decide +kernel
theorem dX7_readCord_101 : decode cX7_readCord 101 = .ok (.getfield 31, 3) := by decide +kernel
theorem dX7_readCord_104 : decode cX7_readCord 104 = .ok (.iconst 1, 1) := by decide +kernel
theorem dX7_readCord_105 : decode cX7_readCord 105 = .ok (.iadd, 1) := by decide +kernel
theorem dX7_readCord_106 : decode cX7_readCord 106 = .ok (.putfield 31, 3) := by decide +kernel
theorem dX7_readCord_109 : decode cX7_readCord 109 = .ok (.iconst 1, 1) := by decide +kernel
theorem dX7_readCord_110 : decode cX7_readCord 110 = .ok (.ireturn, 1) := by decide +kernel
theorem dX7_readCall_0 : decode cX7_readCall 0 = .ok (.aload_n 0, 1) := by decide +kernel
theorem dX7_readCall_1 : decode cX7_readCall 1 = .ok (.getfield 34, 3) := by decide +kernel
theorem dX7_readCall_4 : decode cX7_readCall 4 = .ok (.bipush 10, 2) := by decide +kernel
theorem dX7_readCall_6 : decode cX7_readCall 6 = .ok (.if_icmp .lt 9, 3) := by decide +kernel
theorem dX7_readCall_9 : decode cX7_readCall 9 = .ok (.aload_n 0, 1) := by decide +kernel
theorem dX7_readCall_10 : decode cX7_readCall 10 = .ok (.iconst 4, 1) := by decide +kernel
theorem dX7_readCall_11 : decode cX7_readCall 11 = .ok (.invokevirtual 117, 3) := by decide +kernel
theorem dX7_readCall_14 : decode cX7_readCall 14 = .ok (.ireturn, 1) := by decide +kernel
theorem dX7_readCall_15 : decode cX7_readCall 15 = .ok (.aload_n 0, 1) := by decide +kernel
theorem dX7_readCall_16 : decode cX7_readCall 16 = .ok (.getfield 55, 3) := by decide +kernel
theorem dX7_readCall_19 : decode cX7_readCall 19 = .ok (.invokevirtual 131, 3) := by decide +kernel
theorem dX7_readCall_22 : decode cX7_readCall 22 = .ok (.aload_n 0, 1) := by decide +kernel
theorem dX7_readCall_23 : decode cX7_readCall 23 = .ok (.iconst 0, 1) := by decide +kernel
theorem dX7_readCall_24 : decode cX7_readCall 24 = .ok (.aload_n 0, 1) := by decide +kernel
theorem dX7_readCall_25 : decode cX7_readCall 25 = .ok (.getfield 27, 3) := by decide +kernel
theorem dX7_readCall_28 : decode cX7_readCall 28 = .ok (.iconst 1, 1) := by decide +kernel
theorem dX7_readCall_29 : decode cX7_readCall 29 = .ok (.isub, 1) := by decide +kernel
theorem dX7_readCall_30 : decode cX7_readCall 30 = .ok (.iconst (-1), 1) := by decide +kernel
theorem dX7_readCall_31 : decode cX7_readCall 31 = .ok (.invokevirtual 151, 3) := by decide +kernel
theorem dX7_readCall_34 : decode cX7_readCall 34 = .ok (.istore_n 1, 1) := by decide +kernel
theorem dX7_readCall_35 : decode cX7_readCall 35 = .ok (.iload_n 1, 1) := by decide +kernel
theorem dX7_readCall_36 : decode cX7_readCall 36 = .ok (.iconst (-1), 1) := by decide +kernel
theorem dX7_readCall_37 : decode cX7_readCall 37 = .ok (.if_icmp .eq 12, 3) := by decide +kernel
theorem dX7_readCall_40 : decode cX7_readCall 40 = .ok (.aload_n 0, 1) := by decide +kernel
theorem dX7_readCall_41 : decode cX7_readCall 41 = .ok (.ldc 155, 2) := by decide +kernel
theorem dX7_readCall_43 : decode cX7_readCall 43 = .ok (.invokevirtual 148, 3) := by decide +kernel
theorem dX7_readCall_46 : decode cX7_readCall 46 = .ok (.ifCond .ne 5, 3) := by decide +kernel
theorem dX7_readCall_49 : decode cX7_readCall 49 = .ok (.iconst 0, 1) := by decide +kernel
theorem dX7_readCall_50 : decode cX7_readCall 50 = .ok (.ireturn, 1) := by decide +kernel
theorem dX7_readCall_51 : decode cX7_readCall 51 = .ok (.aload_n 0, 1) := by decide +kernel
theorem dX7_readCall_52 : decode cX7_readCall 52 = .ok (.iconst 0, 1) := by decide +kernel
theorem dX7_readCall_53 : decode cX7_readCall 53 = .ok (.aload_n 0, 1) := by decide +kernel
theorem dX7_readCall_54 : decode cX7_readCall 54 = .ok (.getfield 27, 3) := by decide +kernel
theorem dX7_readCall_57 : decode cX7_readCall 57 = .ok (.iconst 1, 1) := by decide +kernel
theorem dX7_readCall_58 : decode cX7_readCall 58 = .ok (.isub, 1) := by decide +kernel
theorem dX7_readCall_59 : decode cX7_readCall 59 = .ok (.iload_n 1, 1) := by decide +kernel
theorem dX7_readCall_60 : decode cX7_readCall 60 = .ok (.invokevirtual 151, 3) := by decide +kernel
theorem dX7_readCall_63 : decode cX7_readCall 63 = .ok (.istore_n 2, 1) := by decide +kernel
theorem dX7_readCall_64 : decode cX7_readCall 64 = .ok (.iload_n 2, 1) := by decide +kernel
theorem dX7_readCall_65 : decode cX7_readCall 65 = .ok (.iconst (-1), 1) := by decide +kernel
theorem dX7_readCall_66 : decode cX7_readCall 66 = .ok (.if_icmp .eq 12, 3) := by decide +kernel
theorem dX7_readCall_69 : decode cX7_readCall 69 = .ok (.aload_n 0, 1) := by decide +kernel
theorem dX7_readCall_70 : decode cX7_readCall 70 = .ok (.ldc 157, 2) := by decide +kernel
theorem dX7_readCall_72 : decode cX7_readCall 72 = .ok (.invokevirtual 148, 3) := by decide +kernel
theorem dX7_readCall_75 : decode cX7_readCall 75 = .ok (.ifCond .ne 5, 3) := by decide +kernel
theorem dX7_readCall_78 : decode cX7_readCall 78 = .ok (.iconst 0, 1) := by decide +kernel
theorem dX7_readCall_79 : decode cX7_readCall 79 = .ok (.ireturn, 1) := by decide +kernel
theorem dX7_readCall_80 : decode cX7_readCall 80 = .ok (.aload_n 0, 1) := by decide +kernel
theorem dX7_readCall_81 : decode cX7_readCall 81 = .ok (.iconst 0, 1) := by decide +kernel
theorem dX7_readCall_82 : decode cX7_readCall 82 = .ok (.sipush 999, 3) := by decide +kernel
theorem dX7_readCall_85 : decode cX7_readCall 85 = .ok (.iconst (-1), 1) := by decide +kernel
theorem dX7_readCall_86 : decode cX7_readCall 86 = .ok (.invokevirtual 151, 3) := by decide +kernel
theorem dX7_readCall_89 : decode cX7_readCall 89 = .ok (.istore_n 3, 1) := by decide +kernel
theorem dX7_readCall_90 : decode cX7_readCall 90 = .ok (.iload_n 3, 1) := by decide +kernel
theorem dX7_readCall_91 : decode cX7_readCall 91 = .ok (.iconst (-1), 1) := by decide +kernel
theorem dX7_readCall_92 : decode cX7_readCall 92 = .ok (.if_icmp .eq 12, 3) := by decide +kernel
theorem dX7_readCall_95 : decode cX7_readCall 95 = .ok (.aload_n 0, 1) := by decide +kernel
theorem dX7_readCall_96 : decode cX7_readCall 96 = .ok (.ldc 159, 2) := by decide +kernel
theorem dX7_readCall_98 : decode cX7_readCall 98 = .ok (.invokevirtual 148, 3) := by decide +kernel
theorem dX7_readCall_101 : decode cX7_readCall 101 = .ok (.ifCond .ne 5, 3) := by decide +kernel
theorem dX7_readCall_104 : decode cX7_readCall 104 = .ok (.iconst 0, 1) := by decide +kernel
theorem dX7_readCall_105 : decode cX7_readCall 105 = .ok (.ireturn, 1) := by decide +kernel
theorem dX7_readCall_106 : decode cX7_readCall 106 = .ok (.aload_n 0, 1) := by decide +kernel
theorem dX7_readCall_107 : decode cX7_readCall 107 = .ok (.iconst 1, 1) := by decide +kernel
theorem dX7_readCall_108 : decode cX7_readCall 108 = .ok (.bipush 99, 2) := by decide +kernel
theorem dX7_readCall_110 : decode cX7_readCall 110 = .ok (.iconst (-1), 1) := by decide +kernel
theorem dX7_readCall_111 : decode cX7_readCall 111 = .ok (.invokevirtual 151, 3) := by decide +kernel
theorem dX7_readCall_114 : decode cX7_readCall 114 = .ok (.istore 4, 2) := by decide +kernel
theorem dX7_readCall_116 : decode cX7_readCall 116 = .ok (.iload 4, 2) := by decide +kernel
theorem dX7_readCall_118 : decode cX7_readCall 118 = .ok (.iconst (-1), 1) := by decide +kernel
theorem dX7_readCall_119 : decode cX7_readCall 119 = .ok (.if_icmp .ne 5, 3) := by decide +kernel
theorem dX7_readCall_122 : decode cX7_readCall 122 = .ok (.iconst 0, 1) := by decide +kernel
theorem dX7_readCall_123 : decode cX7_readCall 123 = .ok (.ireturn, 1) := by decide +kernel
theorem dX7_readCall_124 : decode cX7_readCall 124 = .ok (.aload_n 0, 1) := by decide +kernel
theorem dX7_readCall_125 : decode cX7_readCall 125 = .ok (.getfield 34, 3) := by decide +kernel
theorem dX7_readCall_128 : decode cX7_readCall 128 = .ok (.iconst 4, 1) := by decide +kernel
theorem dX7_readCall_129 : decode cX7_readCall 129 = .ok (.imul, 1) := by decide +kernel
theorem dX7_readCall_130 : decode cX7_readCall 130 = .ok (.istore 5, 2) := by decide +kernel
theorem dX7_readCall_132 : decode cX7_readCall 132 = .ok (.aload_n 0, 1) := by decide +kernel
theorem dX7_readCall_133 : decode cX7_readCall 133 = .ok (.getfield 15, 3) := by decide +kernel
theorem dX7_readCall_136 : decode cX7_readCall 136 = .ok (.iload 5, 2) := by decide +kernel
theorem dX7_readCall_138 : decode cX7_readCall 138 = .ok (.iload_n 1, 1) := by decide +kernel
theorem dX7_readCall_139 : decode cX7_readCall 139 = .ok (.iastore, 1) := by decide +kernel
theorem dX7_readCall_140 : decode cX7_readCall 140 = .ok (.aload_n 0, 1) := by decide +kernel
theorem dX7_readCall_141 : decode cX7_readCall 141 = .ok (.getfield 15, 3) := by decide +kernel
theorem dX7_readCall_144 : decode cX7_readCall 144 = .ok (.iload 5, 2) := by decide +kernel
theorem dX7_readCall_146 : decode cX7_readCall 146 = .ok (.iconst 1, 1) := by decide +kernel
theorem dX7_readCall_147 : decode cX7_readCall 147 = .ok (.iadd, 1) := by decide +kernel
theorem dX7_readCall_148 : decode cX7_readCall 148 = .ok (.iload_n 2, 1) := by decide +kernel
theorem dX7_readCall_149 : decode cX7_readCall 149 = .ok (.iastore, 1) := by decide +kernel
theorem dX7_readCall_150 : decode cX7_readCall 150 = .ok (.aload_n 0, 1) := by decide +kernel
theorem dX7_readCall_151 : decode cX7_readCall 151 = .ok (.getfield 15, 3) := by decide +kernel
theorem dX7_readCall_154 : decode cX7_readCall 154 = .ok (.iload 5, 2) := by decide +kernel
theorem dX7_readCall_156 : decode cX7_readCall 156 = .ok (.iconst 2, 1) := by decide +kernel
theorem dX7_readCall_157 : decode cX7_readCall 157 = .ok (.iadd, 1) := by decide +kernel
theorem dX7_readCall_158 : decode cX7_readCall 158 = .ok (.iload_n 3, 1) := by decide +kernel
theorem dX7_readCall_159 : decode cX7_readCall 159 = .ok (.iastore, 1) := by decide +kernel
theorem dX7_readCall_160 : decode cX7_readCall 160 = .ok (.aload_n 0, 1) := by decide +kernel
theorem dX7_readCall_161 : decode cX7_readCall 161 = .ok (.getfield 15, 3) := by decide +kernel
theorem dX7_readCall_164 : decode cX7_readCall 164 = .ok (.iload 5, 2) := by decide +kernel
theorem dX7_readCall_166 : decode cX7_readCall 166 = .ok (.iconst 3, 1) := by decide +kernel
theorem dX7_readCall_167 : decode cX7_readCall 167 = .ok (.iadd, 1) := by decide +kernel
theorem dX7_readCall_168 : decode cX7_readCall 168 = .ok (.iload 4, 2) := by decide +kernel
theorem dX7_readCall_170 : decode cX7_readCall 170 = .ok (.iastore, 1) := by decide +kernel
theorem dX7_readCall_171 : decode cX7_readCall 171 = .ok (.aload_n 0, 1) := by decide +kernel
theorem dX7_readCall_172 : decode cX7_readCall 172 = .ok (.dup, 1) := by decide +kernel
theorem dX7_readCall_173 : decode cX7_readCall 173 = .ok (.getfield 34, 3) := by decide +kernel
theorem dX7_readCall_176 : decode cX7_readCall 176 = .ok (.iconst 1, 1) := by decide +kernel
theorem dX7_readCall_177 : decode cX7_readCall 177 = .ok (.iadd, 1) := by decide +kernel
theorem dX7_readCall_178 : decode cX7_readCall 178 = .ok (.putfield 34, 3) := by decide +kernel
theorem dX7_readCall_181 : decode cX7_readCall 181 = .ok (.iconst 1, 1) := by decide +kernel
theorem dX7_readCall_182 : decode cX7_readCall 182 = .ok (.ireturn, 1) := by decide +kernel
theorem dX7_readMinute_0 : decode cX7_readMinute 0 = .ok (.aload_n 0, 1) := by decide +kernel
theorem dX7_readMinute_1 : decode cX7_readMinute 1 = .ok (.getfield 55, 3) := by decide +kernel
theorem dX7_readMinute_4 : decode cX7_readMinute 4 = .ok (.invokevirtual 131, 3) := by decide +kernel
theorem dX7_readMinute_7 : decode cX7_readMinute 7 = .ok (.aload_n 0, 1) := by decide +kernel
theorem dX7_readMinute_8 : decode cX7_readMinute 8 = .ok (.iconst 0, 1) := by decide +kernel
theorem dX7_readMinute_9 : decode cX7_readMinute 9 = .ok (.sipush 999, 3) := by decide +kernel
theorem dX7_readMinute_12 : decode cX7_readMinute 12 = .ok (.iconst (-1), 1) := by decide +kernel
theorem dX7_readMinute_13 : decode cX7_readMinute 13 = .ok (.invokevirtual 151, 3) := by decide +kernel
theorem dX7_readMinute_16 : decode cX7_readMinute 16 = .ok (.istore_n 1, 1) := by decide +kernel
theorem dX7_readMinute_17 : decode cX7_readMinute 17 = .ok (.iload_n 1, 1) := by decide +kernel
theorem dX7_readMinute_18 : decode cX7_readMinute 18 = .ok (.iconst (-1), 1) := by decide +kernel
theorem dX7_readMinute_19 : decode cX7_readMinute 19 = .ok (.if_icmp .ne 5, 3) := by decide +kernel
theorem dX7_readMinute_22 : decode cX7_readMinute 22 = .ok (.iconst 0, 1) := by decide +kernel
theorem dX7_readMinute_23 : decode cX7_readMinute 23 = .ok (.ireturn, 1) := by decide +kernel
theorem dX7_readMinute_24 : decode cX7_readMinute 24 = .ok (.aload_n 0, 1) := by decide +kernel
theorem dX7_readMinute_25 : decode cX7_readMinute 25 = .ok (.iload_n 1, 1) := by decide +kernel
theorem dX7_readMinute_26 : decode cX7_readMinute 26 = .ok (.putfield 37, 3) := by decide +kernel
theorem dX7_readMinute_29 : decode cX7_readMinute 29 = .ok (.iconst 1, 1) := by decide +kernel
theorem dX7_readMinute_30 : decode cX7_readMinute 30 = .ok (.ireturn, 1) := by decide +kernel
theorem dX7_readLaw_0 : decode cX7_readLaw 0 = .ok (.iload_n 1, 1) := by decide +kernel
theorem dX7_readLaw_1 : decode cX7_readLaw 1 = .ok (.ifCond .lt 8, 3) := by decide +kernel
theorem dX7_readLaw_4 : decode cX7_readLaw 4 = .ok (.iload_n 1, 1) := by decide +kernel
theorem dX7_readLaw_5 : decode cX7_readLaw 5 = .ok (.iconst 3, 1) := by decide +kernel
theorem dX7_readLaw_6 : decode cX7_readLaw 6 = .ok (.if_icmp .lt 5, 3) := by decide +kernel
theorem dX7_readLaw_9 : decode cX7_readLaw 9 = .ok (.iconst 0, 1) := by decide +kernel
theorem dX7_readLaw_10 : decode cX7_readLaw 10 = .ok (.ireturn, 1) := by decide +kernel
theorem dX7_readLaw_11 : decode cX7_readLaw 11 = .ok (.aload_n 0, 1) := by decide +kernel
theorem dX7_readLaw_12 : decode cX7_readLaw 12 = .ok (.getfield 55, 3) := by decide +kernel
theorem dX7_readLaw_15 : decode cX7_readLaw 15 = .ok (.invokevirtual 131, 3) := by decide +kernel
theorem dX7_readLaw_18 : decode cX7_readLaw 18 = .ok (.aload_n 0, 1) := by decide +kernel
theorem dX7_readLaw_19 : decode cX7_readLaw 19 = .ok (.bipush 58, 2) := by decide +kernel
theorem dX7_readLaw_21 : decode cX7_readLaw 21 = .ok (.invokevirtual 144, 3) := by decide +kernel
theorem dX7_readLaw_24 : decode cX7_readLaw 24 = .ok (.ifCond .ne 5, 3) := by decide +kernel
theorem dX7_readLaw_27 : decode cX7_readLaw 27 = .ok (.iconst 0, 1) := by decide +kernel
theorem dX7_readLaw_28 : decode cX7_readLaw 28 = .ok (.ireturn, 1) := by decide +kernel
theorem dX7_readLaw_29 : decode cX7_readLaw 29 = .ok (.aload_n 0, 1) := by decide +kernel
theorem dX7_readLaw_30 : decode cX7_readLaw 30 = .ok (.iload_n 1, 1) := by decide +kernel
theorem dX7_readLaw_31 : decode cX7_readLaw 31 = .ok (.putfield 46, 3) := by decide +kernel
theorem dX7_readLaw_34 : decode cX7_readLaw 34 = .ok (.aload_n 0, 1) := by decide +kernel
theorem dX7_readLaw_35 : decode cX7_readLaw 35 = .ok (.getfield 43, 3) := by decide +kernel
theorem dX7_readLaw_38 : decode cX7_readLaw 38 = .ok (.istore_n 2, 1) := by decide +kernel
theorem dX7_readLaw_39 : decode cX7_readLaw 39 = .ok (.iload_n 1, 1) := by decide +kernel
theorem dX7_readLaw_40 : decode cX7_readLaw 40 = .ok (.iconst 2, 1) := by decide +kernel
theorem dX7_readLaw_41 : decode cX7_readLaw 41 = .ok (.if_icmp .ne 11, 3) := by decide +kernel
theorem dX7_readLaw_44 : decode cX7_readLaw 44 = .ok (.aload_n 0, 1) := by decide +kernel
theorem dX7_readLaw_45 : decode cX7_readLaw 45 = .ok (.iconst 0, 1) := by decide +kernel
theorem dX7_readLaw_46 : decode cX7_readLaw 46 = .ok (.invokevirtual 161, 3) := by decide +kernel
theorem dX7_readLaw_49 : decode cX7_readLaw 49 = .ok (.goto 8, 3) := by decide +kernel
theorem dX7_readLaw_52 : decode cX7_readLaw 52 = .ok (.aload_n 0, 1) := by decide +kernel
theorem dX7_readLaw_53 : decode cX7_readLaw 53 = .ok (.iconst 0, 1) := by decide +kernel
theorem dX7_readLaw_54 : decode cX7_readLaw 54 = .ok (.invokevirtual 164, 3) := by decide +kernel
theorem dX7_readLaw_57 : decode cX7_readLaw 57 = .ok (.istore_n 3, 1) := by decide +kernel
theorem dX7_readLaw_58 : decode cX7_readLaw 58 = .ok (.aload_n 0, 1) := by decide +kernel
theorem dX7_readLaw_59 : decode cX7_readLaw 59 = .ok (.getfield 21, 3) := by decide +kernel
theorem dX7_readLaw_62 : decode cX7_readLaw 62 = .ok (.iload_n 1, 1) := by decide +kernel
theorem dX7_readLaw_63 : decode cX7_readLaw 63 = .ok (.iload_n 2, 1) := by decide +kernel
theorem dX7_readLaw_64 : decode cX7_readLaw 64 = .ok (.iastore, 1) := by decide +kernel
theorem dX7_readLaw_65 : decode cX7_readLaw 65 = .ok (.aload_n 0, 1) := by decide +kernel
theorem dX7_readLaw_66 : decode cX7_readLaw 66 = .ok (.getfield 24, 3) := by decide +kernel
theorem dX7_readLaw_69 : decode cX7_readLaw 69 = .ok (.iload_n 1, 1) := by decide +kernel
theorem dX7_readLaw_70 : decode cX7_readLaw 70 = .ok (.aload_n 0, 1) := by decide +kernel
theorem dX7_readLaw_71 : decode cX7_readLaw 71 = .ok (.getfield 43, 3) := by decide +kernel
theorem dX7_readLaw_74 : decode cX7_readLaw 74 = .ok (.iastore, 1) := by decide +kernel
theorem dX7_readLaw_75 : decode cX7_readLaw 75 = .ok (.iload_n 3, 1) := by decide +kernel
theorem dX7_readLaw_76 : decode cX7_readLaw 76 = .ok (.ireturn, 1) := by decide +kernel
theorem dX7_emit_0 : decode cX7_emit 0 = .ok (.aload_n 0, 1) := by decide +kernel
theorem dX7_emit_1 : decode cX7_emit 1 = .ok (.getfield 43, 3) := by decide +kernel
theorem dX7_emit_4 : decode cX7_emit 4 = .ok (.sipush 900, 3) := by decide +kernel
theorem dX7_emit_7 : decode cX7_emit 7 = .ok (.if_icmp .ge 23, 3) := by decide +kernel
theorem dX7_emit_10 : decode cX7_emit 10 = .ok (.aload_n 0, 1) := by decide +kernel
theorem dX7_emit_11 : decode cX7_emit 11 = .ok (.getfield 18, 3) := by decide +kernel
theorem dX7_emit_14 : decode cX7_emit 14 = .ok (.aload_n 0, 1) := by decide +kernel
theorem dX7_emit_15 : decode cX7_emit 15 = .ok (.getfield 43, 3) := by decide +kernel
theorem dX7_emit_18 : decode cX7_emit 18 = .ok (.iload_n 1, 1) := by decide +kernel
theorem dX7_emit_19 : decode cX7_emit 19 = .ok (.iastore, 1) := by decide +kernel
theorem dX7_emit_20 : decode cX7_emit 20 = .ok (.aload_n 0, 1) := by decide +kernel
theorem dX7_emit_21 : decode cX7_emit 21 = .ok (.dup, 1) := by decide +kernel
theorem dX7_emit_22 : decode cX7_emit 22 = .ok (.getfield 43, 3) := by decide +kernel
theorem dX7_emit_25 : decode cX7_emit 25 = .ok (.iconst 1, 1) := by decide +kernel
theorem dX7_emit_26 : decode cX7_emit 26 = .ok (.iadd, 1) := by decide +kernel
theorem dX7_emit_27 : decode cX7_emit 27 = .ok (.putfield 43, 3) := by decide +kernel
theorem dX7_emit_30 : decode cX7_emit 30 = .ok (.return_, 1) := by decide +kernel
theorem dX7_readTruth_0 : decode cX7_readTruth 0 = .ok (.aload_n 0, 1) := by decide +kernel
theorem dX7_readTruth_1 : decode cX7_readTruth 1 = .ok (.iload_n 1, 1) := by decide +kernel
theorem dX7_readTruth_2 : decode cX7_readTruth 2 = .ok (.invokevirtual 167, 3) := by decide +kernel
theorem dX7_readTruth_5 : decode cX7_readTruth 5 = .ok (.istore_n 2, 1) := by decide +kernel
theorem dX7_readTruth_6 : decode cX7_readTruth 6 = .ok (.iconst 0, 1) := by decide +kernel
theorem dX7_readTruth_7 : decode cX7_readTruth 7 = .ok (.istore_n 3, 1) := by decide +kernel
theorem dX7_readTruth_8 : decode cX7_readTruth 8 = .ok (.iload_n 3, 1) := by decide +kernel
theorem dX7_readTruth_9 : decode cX7_readTruth 9 = .ok (.sipush 900, 3) := by decide +kernel
theorem dX7_readTruth_12 : decode cX7_readTruth 12 = .ok (.if_icmp .ge 45, 3) := by decide +kernel
theorem dX7_readTruth_15 : decode cX7_readTruth 15 = .ok (.iload_n 2, 1) := by decide +kernel
theorem dX7_readTruth_16 : decode cX7_readTruth 16 = .ok (.ifCond .eq 41, 3) := by decide +kernel
theorem dX7_readTruth_19 : decode cX7_readTruth 19 = .ok (.aload_n 0, 1) := by decide +kernel
theorem dX7_readTruth_20 : decode cX7_readTruth 20 = .ok (.getfield 55, 3) := by decide +kernel
theorem dX7_readTruth_23 : decode cX7_readTruth 23 = .ok (.ldc 170, 2) := by decide +kernel
theorem dX7_readTruth_25 : decode cX7_readTruth 25 = .ok (.invokevirtual 91, 3) := by decide +kernel
theorem dX7_readTruth_28 : decode cX7_readTruth 28 = .ok (.ifCond .eq 29, 3) := by decide +kernel
theorem dX7_readTruth_31 : decode cX7_readTruth 31 = .ok (.aload_n 0, 1) := by decide +kernel
theorem dX7_readTruth_32 : decode cX7_readTruth 32 = .ok (.getfield 55, 3) := by decide +kernel
theorem dX7_readTruth_35 : decode cX7_readTruth 35 = .ok (.invokevirtual 131, 3) := by decide +kernel
theorem dX7_readTruth_38 : decode cX7_readTruth 38 = .ok (.aload_n 0, 1) := by decide +kernel
theorem dX7_readTruth_39 : decode cX7_readTruth 39 = .ok (.iload_n 1, 1) := by decide +kernel
theorem dX7_readTruth_40 : decode cX7_readTruth 40 = .ok (.invokevirtual 167, 3) := by decide +kernel
theorem dX7_readTruth_43 : decode cX7_readTruth 43 = .ok (.istore_n 2, 1) := by decide +kernel
theorem dX7_readTruth_44 : decode cX7_readTruth 44 = .ok (.aload_n 0, 1) := by decide +kernel
theorem dX7_readTruth_45 : decode cX7_readTruth 45 = .ok (.sipush 2007, 3) := by decide +kernel
theorem dX7_readTruth_48 : decode cX7_readTruth 48 = .ok (.invokevirtual 172, 3) := by decide +kernel
theorem dX7_readTruth_51 : decode cX7_readTruth 51 = .ok (.iinc 3 1, 3) := by decide +kernel
theorem dX7_readTruth_54 : decode cX7_readTruth 54 = .ok (.goto (-46), 3) := by decide +kernel
theorem dX7_readTruth_57 : decode cX7_readTruth 57 = .ok (.iload_n 2, 1) := by decide +kernel
theorem dX7_readTruth_58 : decode cX7_readTruth 58 = .ok (.ireturn, 1) := by decide +kernel
theorem dX7_readBoth_0 : decode cX7_readBoth 0 = .ok (.aload_n 0, 1) := by decide +kernel
theorem dX7_readBoth_1 : decode cX7_readBoth 1 = .ok (.iload_n 1, 1) := by decide +kernel
theorem dX7_readBoth_2 : decode cX7_readBoth 2 = .ok (.invokevirtual 175, 3) := by decide +kernel
theorem dX7_readBoth_5 : decode cX7_readBoth 5 = .ok (.istore_n 2, 1) := by decide +kernel
theorem dX7_readBoth_6 : decode cX7_readBoth 6 = .ok (.iconst 0, 1) := by decide +kernel
theorem dX7_readBoth_7 : decode cX7_readBoth 7 = .ok (.istore_n 3, 1) := by decide +kernel
theorem dX7_readBoth_8 : decode cX7_readBoth 8 = .ok (.iload_n 3, 1) := by decide +kernel
theorem dX7_readBoth_9 : decode cX7_readBoth 9 = .ok (.sipush 900, 3) := by decide +kernel
theorem dX7_readBoth_12 : decode cX7_readBoth 12 = .ok (.if_icmp .ge 45, 3) := by decide +kernel
theorem dX7_readBoth_15 : decode cX7_readBoth 15 = .ok (.iload_n 2, 1) := by decide +kernel
theorem dX7_readBoth_16 : decode cX7_readBoth 16 = .ok (.ifCond .eq 41, 3) := by decide +kernel
theorem dX7_readBoth_19 : decode cX7_readBoth 19 = .ok (.aload_n 0, 1) := by decide +kernel
theorem dX7_readBoth_20 : decode cX7_readBoth 20 = .ok (.getfield 55, 3) := by decide +kernel
theorem dX7_readBoth_23 : decode cX7_readBoth 23 = .ok (.ldc 178, 2) := by decide +kernel
theorem dX7_readBoth_25 : decode cX7_readBoth 25 = .ok (.invokevirtual 91, 3) := by decide +kernel
theorem dX7_readBoth_28 : decode cX7_readBoth 28 = .ok (.ifCond .eq 29, 3) := by decide +kernel
theorem dX7_readBoth_31 : decode cX7_readBoth 31 = .ok (.aload_n 0, 1) := by decide +kernel
theorem dX7_readBoth_32 : decode cX7_readBoth 32 = .ok (.getfield 55, 3) := by decide +kernel
theorem dX7_readBoth_35 : decode cX7_readBoth 35 = .ok (.invokevirtual 131, 3) := by decide +kernel
theorem dX7_readBoth_38 : decode cX7_readBoth 38 = .ok (.aload_n 0, 1) := by decide +kernel
theorem dX7_readBoth_39 : decode cX7_readBoth 39 = .ok (.iload_n 1, 1) := by decide +kernel
theorem dX7_readBoth_40 : decode cX7_readBoth 40 = .ok (.invokevirtual 175, 3) := by decide +kernel
theorem dX7_readBoth_43 : decode cX7_readBoth 43 = .ok (.istore_n 2, 1) := by decide +kernel
theorem dX7_readBoth_44 : decode cX7_readBoth 44 = .ok (.aload_n 0, 1) := by decide +kernel
theorem dX7_readBoth_45 : decode cX7_readBoth 45 = .ok (.sipush 2006, 3) := by decide +kernel
theorem dX7_readBoth_48 : decode cX7_readBoth 48 = .ok (.invokevirtual 172, 3) := by decide +kernel
theorem dX7_readBoth_51 : decode cX7_readBoth 51 = .ok (.iinc 3 1, 3) := by decide +kernel
theorem dX7_readBoth_54 : decode cX7_readBoth 54 = .ok (.goto (-46), 3) := by decide +kernel
theorem dX7_readBoth_57 : decode cX7_readBoth 57 = .ok (.iload_n 2, 1) := by decide +kernel
theorem dX7_readBoth_58 : decode cX7_readBoth 58 = .ok (.ireturn, 1) := by decide +kernel
theorem dX7_readUnit_0 : decode cX7_readUnit 0 = .ok (.aload_n 0, 1) := by decide +kernel
theorem dX7_readUnit_1 : decode cX7_readUnit 1 = .ok (.getfield 55, 3) := by decide +kernel
theorem dX7_readUnit_4 : decode cX7_readUnit 4 = .ok (.ldc 180, 2) := by decide +kernel
theorem dX7_readUnit_6 : decode cX7_readUnit 6 = .ok (.invokevirtual 91, 3) := by decide +kernel
theorem dX7_readUnit_9 : decode cX7_readUnit 9 = .ok (.ifCond .eq 36, 3) := by decide +kernel
theorem dX7_readUnit_12 : decode cX7_readUnit 12 = .ok (.aload_n 0, 1) := by decide +kernel
theorem dX7_readUnit_13 : decode cX7_readUnit 13 = .ok (.iload_n 1, 1) := by decide +kernel
theorem dX7_readUnit_14 : decode cX7_readUnit 14 = .ok (.invokevirtual 182, 3) := by decide +kernel
theorem dX7_readUnit_17 : decode cX7_readUnit 17 = .ok (.ifCond .eq 17, 3) := by decide +kernel
theorem dX7_readUnit_20 : decode cX7_readUnit 20 = .ok (.aload_n 0, 1) := by decide +kernel
theorem dX7_readUnit_21 : decode cX7_readUnit 21 = .ok (.iload_n 1, 1) := by decide +kernel
theorem dX7_readUnit_22 : decode cX7_readUnit 22 = .ok (.iconst 1, 1) := by decide +kernel
theorem dX7_readUnit_23 : decode cX7_readUnit 23 = .ok (.iadd, 1) := by decide +kernel
theorem dX7_readUnit_24 : decode cX7_readUnit 24 = .ok (.invokevirtual 175, 3) := by decide +kernel
theorem dX7_readUnit_27 : decode cX7_readUnit 27 = .ok (.ifCond .eq 7, 3) := by decide +kernel
theorem dX7_readUnit_30 : decode cX7_readUnit 30 = .ok (.iconst 1, 1) := by decide +kernel
theorem dX7_readUnit_31 : decode cX7_readUnit 31 = .ok (.goto 4, 3) := by decide +kernel
theorem dX7_readUnit_34 : decode cX7_readUnit 34 = .ok (.iconst 0, 1) := by decide +kernel
theorem dX7_readUnit_35 : decode cX7_readUnit 35 = .ok (.istore_n 2, 1) := by decide +kernel
theorem dX7_readUnit_36 : decode cX7_readUnit 36 = .ok (.aload_n 0, 1) := by decide +kernel
theorem dX7_readUnit_37 : decode cX7_readUnit 37 = .ok (.sipush 2008, 3) := by decide +kernel
theorem dX7_readUnit_40 : decode cX7_readUnit 40 = .ok (.invokevirtual 172, 3) := by decide +kernel
theorem dX7_readUnit_43 : decode cX7_readUnit 43 = .ok (.iload_n 2, 1) := by decide +kernel
theorem dX7_readUnit_44 : decode cX7_readUnit 44 = .ok (.ireturn, 1) := by decide +kernel
theorem dX7_readUnit_45 : decode cX7_readUnit 45 = .ok (.aload_n 0, 1) := by decide +kernel
theorem dX7_readUnit_46 : decode cX7_readUnit 46 = .ok (.getfield 55, 3) := by decide +kernel
theorem dX7_readUnit_49 : decode cX7_readUnit 49 = .ok (.bipush 91, 2) := by decide +kernel
theorem dX7_readUnit_51 : decode cX7_readUnit 51 = .ok (.invokevirtual 134, 3) := by decide +kernel
theorem dX7_readUnit_54 : decode cX7_readUnit 54 = .ok (.ifCond .eq 36, 3) := by decide +kernel
theorem dX7_readUnit_57 : decode cX7_readUnit 57 = .ok (.aload_n 0, 1) := by decide +kernel
theorem dX7_readUnit_58 : decode cX7_readUnit 58 = .ok (.iload_n 1, 1) := by decide +kernel
theorem dX7_readUnit_59 : decode cX7_readUnit 59 = .ok (.invokevirtual 182, 3) := by decide +kernel
theorem dX7_readUnit_62 : decode cX7_readUnit 62 = .ok (.ifCond .eq 26, 3) := by decide +kernel
theorem dX7_readUnit_65 : decode cX7_readUnit 65 = .ok (.aload_n 0, 1) := by decide +kernel
theorem dX7_readUnit_66 : decode cX7_readUnit 66 = .ok (.iload_n 1, 1) := by decide +kernel
theorem dX7_readUnit_67 : decode cX7_readUnit 67 = .ok (.iconst 1, 1) := by decide +kernel
theorem dX7_readUnit_68 : decode cX7_readUnit 68 = .ok (.iadd, 1) := by decide +kernel
theorem dX7_readUnit_69 : decode cX7_readUnit 69 = .ok (.invokevirtual 161, 3) := by decide +kernel
theorem dX7_readUnit_72 : decode cX7_readUnit 72 = .ok (.ifCond .eq 16, 3) := by decide +kernel
theorem dX7_readUnit_75 : decode cX7_readUnit 75 = .ok (.aload_n 0, 1) := by decide +kernel
theorem dX7_readUnit_76 : decode cX7_readUnit 76 = .ok (.bipush 93, 2) := by decide +kernel
theorem dX7_readUnit_78 : decode cX7_readUnit 78 = .ok (.invokevirtual 144, 3) := by decide +kernel
theorem dX7_readUnit_81 : decode cX7_readUnit 81 = .ok (.ifCond .eq 7, 3) := by decide +kernel
theorem dX7_readUnit_84 : decode cX7_readUnit 84 = .ok (.iconst 1, 1) := by decide +kernel
theorem dX7_readUnit_85 : decode cX7_readUnit 85 = .ok (.goto 4, 3) := by decide +kernel
theorem dX7_readUnit_88 : decode cX7_readUnit 88 = .ok (.iconst 0, 1) := by decide +kernel
theorem dX7_readUnit_89 : decode cX7_readUnit 89 = .ok (.ireturn, 1) := by decide +kernel
theorem dX7_readUnit_90 : decode cX7_readUnit 90 = .ok (.aload_n 0, 1) := by decide +kernel
theorem dX7_readUnit_91 : decode cX7_readUnit 91 = .ok (.iload_n 1, 1) := by decide +kernel
theorem dX7_readUnit_92 : decode cX7_readUnit 92 = .ok (.invokevirtual 164, 3) := by decide +kernel
theorem dX7_readUnit_95 : decode cX7_readUnit 95 = .ok (.ifCond .ne 5, 3) := by decide +kernel
theorem dX7_readUnit_98 : decode cX7_readUnit 98 = .ok (.iconst 0, 1) := by decide +kernel
theorem dX7_readUnit_99 : decode cX7_readUnit 99 = .ok (.ireturn, 1) := by decide +kernel
theorem dX7_readUnit_100 : decode cX7_readUnit 100 = .ok (.aload_n 0, 1) := by decide +kernel
theorem dX7_readUnit_101 : decode cX7_readUnit 101 = .ok (.invokevirtual 185, 3) := by decide +kernel
theorem dX7_readUnit_104 : decode cX7_readUnit 104 = .ok (.istore_n 2, 1) := by decide +kernel
theorem dX7_readUnit_105 : decode cX7_readUnit 105 = .ok (.iload_n 2, 1) := by decide +kernel
theorem dX7_readUnit_106 : decode cX7_readUnit 106 = .ok (.iconst (-1), 1) := by decide +kernel
theorem dX7_readUnit_107 : decode cX7_readUnit 107 = .ok (.if_icmp .ne 9, 3) := by decide +kernel
theorem dX7_readUnit_110 : decode cX7_readUnit 110 = .ok (.aload_n 0, 1) := by decide +kernel
theorem dX7_readUnit_111 : decode cX7_readUnit 111 = .ok (.iconst 2, 1) := by decide +kernel
theorem dX7_readUnit_112 : decode cX7_readUnit 112 = .ok (.invokevirtual 117, 3) := by decide +kernel
theorem dX7_readUnit_115 : decode cX7_readUnit 115 = .ok (.ireturn, 1) := by decide +kernel
theorem dX7_readUnit_116 : decode cX7_readUnit 116 = .ok (.aload_n 0, 1) := by decide +kernel
theorem dX7_readUnit_117 : decode cX7_readUnit 117 = .ok (.getfield 55, 3) := by decide +kernel
theorem dX7_readUnit_120 : decode cX7_readUnit 120 = .ok (.invokevirtual 131, 3) := by decide +kernel
theorem dX7_readUnit_123 : decode cX7_readUnit 123 = .ok (.aload_n 0, 1) := by decide +kernel
theorem dX7_readUnit_124 : decode cX7_readUnit 124 = .ok (.iload_n 1, 1) := by decide +kernel
theorem dX7_readUnit_125 : decode cX7_readUnit 125 = .ok (.invokevirtual 164, 3) := by decide +kernel
theorem dX7_readUnit_128 : decode cX7_readUnit 128 = .ok (.istore_n 3, 1) := by decide +kernel
theorem dX7_readUnit_129 : decode cX7_readUnit 129 = .ok (.aload_n 0, 1) := by decide +kernel
theorem dX7_readUnit_130 : decode cX7_readUnit 130 = .ok (.iload_n 2, 1) := by decide +kernel
theorem dX7_readUnit_131 : decode cX7_readUnit 131 = .ok (.invokevirtual 172, 3) := by decide +kernel
theorem dX7_readUnit_134 : decode cX7_readUnit 134 = .ok (.iload_n 3, 1) := by decide +kernel
theorem dX7_readUnit_135 : decode cX7_readUnit 135 = .ok (.ireturn, 1) := by decide +kernel
theorem dX7_goDeeper_0 : decode cX7_goDeeper 0 = .ok (.iload_n 1, 1) := by decide +kernel
theorem dX7_goDeeper_1 : decode cX7_goDeeper 1 = .ok (.bipush 6, 2) := by decide +kernel
theorem dX7_goDeeper_3 : decode cX7_goDeeper 3 = .ok (.if_icmp .lt 9, 3) := by decide +kernel
theorem dX7_goDeeper_6 : decode cX7_goDeeper 6 = .ok (.aload_n 0, 1) := by decide +kernel
theorem dX7_goDeeper_7 : decode cX7_goDeeper 7 = .ok (.iconst 4, 1) := by decide +kernel
theorem dX7_goDeeper_8 : decode cX7_goDeeper 8 = .ok (.invokevirtual 117, 3) := by decide +kernel
theorem dX7_goDeeper_11 : decode cX7_goDeeper 11 = .ok (.ireturn, 1) := by decide +kernel
theorem dX7_goDeeper_12 : decode cX7_goDeeper 12 = .ok (.aload_n 0, 1) := by decide +kernel
theorem dX7_goDeeper_13 : decode cX7_goDeeper 13 = .ok (.getfield 55, 3) := by decide +kernel
theorem dX7_goDeeper_16 : decode cX7_goDeeper 16 = .ok (.invokevirtual 131, 3) := by decide +kernel
theorem dX7_goDeeper_19 : decode cX7_goDeeper 19 = .ok (.iconst 1, 1) := by decide +kernel
theorem dX7_goDeeper_20 : decode cX7_goDeeper 20 = .ok (.ireturn, 1) := by decide +kernel
theorem dX7_relation_0 : decode cX7_relation 0 = .ok (.aload_n 0, 1) := by decide +kernel
theorem dX7_relation_1 : decode cX7_relation 1 = .ok (.getfield 55, 3) := by decide +kernel
theorem dX7_relation_4 : decode cX7_relation 4 = .ok (.bipush 61, 2) := by decide +kernel
theorem dX7_relation_6 : decode cX7_relation 6 = .ok (.invokevirtual 134, 3) := by decide +kernel
theorem dX7_relation_9 : decode cX7_relation 9 = .ok (.ifCond .eq 7, 3) := by decide +kernel
theorem dX7_relation_12 : decode cX7_relation 12 = .ok (.sipush 2003, 3) := by decide +kernel
theorem dX7_relation_15 : decode cX7_relation 15 = .ok (.ireturn, 1) := by decide +kernel
theorem dX7_relation_16 : decode cX7_relation 16 = .ok (.aload_n 0, 1) := by decide +kernel
theorem dX7_relation_17 : decode cX7_relation 17 = .ok (.getfield 55, 3) := by decide +kernel
theorem dX7_relation_20 : decode cX7_relation 20 = .ok (.bipush 60, 2) := by decide +kernel
theorem dX7_relation_22 : decode cX7_relation 22 = .ok (.invokevirtual 134, 3) := by decide +kernel
theorem dX7_relation_25 : decode cX7_relation 25 = .ok (.ifCond .eq 7, 3) := by decide +kernel
theorem dX7_relation_28 : decode cX7_relation 28 = .ok (.sipush 2004, 3) := by decide +kernel
theorem dX7_relation_31 : decode cX7_relation 31 = .ok (.ireturn, 1) := by decide +kernel
theorem dX7_relation_32 : decode cX7_relation 32 = .ok (.aload_n 0, 1) := by decide +kernel
theorem dX7_relation_33 : decode cX7_relation 33 = .ok (.getfield 55, 3) := by decide +kernel
theorem dX7_relation_36 : decode cX7_relation 36 = .ok (.bipush 62, 2) := by decide +kernel
theorem dX7_relation_38 : decode cX7_relation 38 = .ok (.invokevirtual 134, 3) := by decide +kernel
theorem dX7_relation_41 : decode cX7_relation 41 = .ok (.ifCond .eq 9, 3) := by decide +kernel
theorem dX7_relation_44 : decode cX7_relation 44 = .ok (.sipush 2005, 3) := by decide +kernel
theorem dX7_relation_47 : decode cX7_relation 47 = .ok (.goto 4, 3) := by decide +kernel
theorem dX7_relation_50 : decode cX7_relation 50 = .ok (.iconst (-1), 1) := by decide +kernel
theorem dX7_relation_51 : decode cX7_relation 51 = .ok (.ireturn, 1) := by decide +kernel
theorem dX7_readSum_0 : decode cX7_readSum 0 = .ok (.aload_n 0, 1) := by decide +kernel
theorem dX7_readSum_1 : decode cX7_readSum 1 = .ok (.iload_n 1, 1) := by decide +kernel
theorem dX7_readSum_2 : decode cX7_readSum 2 = .ok (.invokevirtual 188, 3) := by decide +kernel
theorem dX7_readSum_5 : decode cX7_readSum 5 = .ok (.istore_n 2, 1) := by decide +kernel
theorem dX7_readSum_6 : decode cX7_readSum 6 = .ok (.iconst 0, 1) := by decide +kernel
theorem dX7_readSum_7 : decode cX7_readSum 7 = .ok (.istore_n 3, 1) := by decide +kernel
theorem dX7_readSum_8 : decode cX7_readSum 8 = .ok (.iload_n 3, 1) := by decide +kernel
theorem dX7_readSum_9 : decode cX7_readSum 9 = .ok (.sipush 900, 3) := by decide +kernel
theorem dX7_readSum_12 : decode cX7_readSum 12 = .ok (.if_icmp .ge 79, 3) := by decide +kernel
theorem dX7_readSum_15 : decode cX7_readSum 15 = .ok (.iload_n 2, 1) := by decide +kernel
theorem dX7_readSum_16 : decode cX7_readSum 16 = .ok (.ifCond .eq 75, 3) := by decide +kernel
theorem dX7_readSum_19 : decode cX7_readSum 19 = .ok (.aload_n 0, 1) := by decide +kernel
theorem dX7_readSum_20 : decode cX7_readSum 20 = .ok (.getfield 55, 3) := by decide +kernel
theorem dX7_readSum_23 : decode cX7_readSum 23 = .ok (.bipush 43, 2) := by decide +kernel
theorem dX7_readSum_25 : decode cX7_readSum 25 = .ok (.invokevirtual 134, 3) := by decide +kernel
theorem dX7_readSum_28 : decode cX7_readSum 28 = .ok (.ifCond .ne 15, 3) := by decide +kernel
theorem dX7_readSum_31 : decode cX7_readSum 31 = .ok (.aload_n 0, 1) := by decide +kernel
theorem dX7_readSum_32 : decode cX7_readSum 32 = .ok (.getfield 55, 3) := by decide +kernel
theorem dX7_readSum_35 : decode cX7_readSum 35 = .ok (.bipush 45, 2) := by decide +kernel
theorem dX7_readSum_37 : decode cX7_readSum 37 = .ok (.invokevirtual 134, 3) := by decide +kernel
theorem dX7_readSum_40 : decode cX7_readSum 40 = .ok (.ifCond .eq 51, 3) := by decide +kernel
theorem dX7_readSum_43 : decode cX7_readSum 43 = .ok (.aload_n 0, 1) := by decide +kernel
theorem dX7_readSum_44 : decode cX7_readSum 44 = .ok (.getfield 55, 3) := by decide +kernel
theorem dX7_readSum_47 : decode cX7_readSum 47 = .ok (.bipush 43, 2) := by decide +kernel
theorem dX7_readSum_49 : decode cX7_readSum 49 = .ok (.invokevirtual 134, 3) := by decide +kernel
theorem dX7_readSum_52 : decode cX7_readSum 52 = .ok (.ifCond .eq 9, 3) := by decide +kernel
theorem dX7_readSum_55 : decode cX7_readSum 55 = .ok (.sipush 2000, 3) := by decide +kernel
theorem dX7_readSum_58 : decode cX7_readSum 58 = .ok (.goto 6, 3) := by decide +kernel
theorem dX7_readSum_61 : decode cX7_readSum 61 = .ok (.sipush 2001, 3) := by decide +kernel
theorem dX7_readSum_64 : decode cX7_readSum 64 = .ok (.istore 4, 2) := by decide +kernel
theorem dX7_readSum_66 : decode cX7_readSum 66 = .ok (.aload_n 0, 1) := by decide +kernel
theorem dX7_readSum_67 : decode cX7_readSum 67 = .ok (.getfield 55, 3) := by decide +kernel
theorem dX7_readSum_70 : decode cX7_readSum 70 = .ok (.invokevirtual 131, 3) := by decide +kernel
theorem dX7_readSum_73 : decode cX7_readSum 73 = .ok (.aload_n 0, 1) := by decide +kernel
theorem dX7_readSum_74 : decode cX7_readSum 74 = .ok (.iload_n 1, 1) := by decide +kernel
theorem dX7_readSum_75 : decode cX7_readSum 75 = .ok (.invokevirtual 188, 3) := by decide +kernel
theorem dX7_readSum_78 : decode cX7_readSum 78 = .ok (.istore_n 2, 1) := by decide +kernel
theorem dX7_readSum_79 : decode cX7_readSum 79 = .ok (.aload_n 0, 1) := by decide +kernel
theorem dX7_readSum_80 : decode cX7_readSum 80 = .ok (.iload 4, 2) := by decide +kernel
theorem dX7_readSum_82 : decode cX7_readSum 82 = .ok (.invokevirtual 172, 3) := by decide +kernel
theorem dX7_readSum_85 : decode cX7_readSum 85 = .ok (.iinc 3 1, 3) := by decide +kernel
theorem dX7_readSum_88 : decode cX7_readSum 88 = .ok (.goto (-80), 3) := by decide +kernel
theorem dX7_readSum_91 : decode cX7_readSum 91 = .ok (.iload_n 2, 1) := by decide +kernel
theorem dX7_readSum_92 : decode cX7_readSum 92 = .ok (.ireturn, 1) := by decide +kernel
theorem dX7_readTerm_0 : decode cX7_readTerm 0 = .ok (.aload_n 0, 1) := by decide +kernel
theorem dX7_readTerm_1 : decode cX7_readTerm 1 = .ok (.iload_n 1, 1) := by decide +kernel
theorem dX7_readTerm_2 : decode cX7_readTerm 2 = .ok (.invokevirtual 191, 3) := by decide +kernel
theorem dX7_readTerm_5 : decode cX7_readTerm 5 = .ok (.istore_n 2, 1) := by decide +kernel
theorem dX7_readTerm_6 : decode cX7_readTerm 6 = .ok (.iconst 0, 1) := by decide +kernel
theorem dX7_readTerm_7 : decode cX7_readTerm 7 = .ok (.istore_n 3, 1) := by decide +kernel
theorem dX7_readTerm_8 : decode cX7_readTerm 8 = .ok (.iload_n 3, 1) := by decide +kernel
theorem dX7_readTerm_9 : decode cX7_readTerm 9 = .ok (.sipush 900, 3) := by decide +kernel
theorem dX7_readTerm_12 : decode cX7_readTerm 12 = .ok (.if_icmp .ge 45, 3) := by decide +kernel
theorem dX7_readTerm_15 : decode cX7_readTerm 15 = .ok (.iload_n 2, 1) := by decide +kernel
theorem dX7_readTerm_16 : decode cX7_readTerm 16 = .ok (.ifCond .eq 41, 3) := by decide +kernel
theorem dX7_readTerm_19 : decode cX7_readTerm 19 = .ok (.aload_n 0, 1) := by decide +kernel
theorem dX7_readTerm_20 : decode cX7_readTerm 20 = .ok (.getfield 55, 3) := by decide +kernel
theorem dX7_readTerm_23 : decode cX7_readTerm 23 = .ok (.bipush 42, 2) := by decide +kernel
theorem dX7_readTerm_25 : decode cX7_readTerm 25 = .ok (.invokevirtual 134, 3) := by decide +kernel
theorem dX7_readTerm_28 : decode cX7_readTerm 28 = .ok (.ifCond .eq 29, 3) := by decide +kernel
theorem dX7_readTerm_31 : decode cX7_readTerm 31 = .ok (.aload_n 0, 1) := by decide +kernel
theorem dX7_readTerm_32 : decode cX7_readTerm 32 = .ok (.getfield 55, 3) := by decide +kernel
theorem dX7_readTerm_35 : decode cX7_readTerm 35 = .ok (.invokevirtual 131, 3) := by decide +kernel
theorem dX7_readTerm_38 : decode cX7_readTerm 38 = .ok (.aload_n 0, 1) := by decide +kernel
theorem dX7_readTerm_39 : decode cX7_readTerm 39 = .ok (.iload_n 1, 1) := by decide +kernel
theorem dX7_readTerm_40 : decode cX7_readTerm 40 = .ok (.invokevirtual 191, 3) := by decide +kernel
theorem dX7_readTerm_43 : decode cX7_readTerm 43 = .ok (.istore_n 2, 1) := by decide +kernel
theorem dX7_readTerm_44 : decode cX7_readTerm 44 = .ok (.aload_n 0, 1) := by decide +kernel
theorem dX7_readTerm_45 : decode cX7_readTerm 45 = .ok (.sipush 2002, 3) := by decide +kernel
theorem dX7_readTerm_48 : decode cX7_readTerm 48 = .ok (.invokevirtual 172, 3) := by decide +kernel
theorem dX7_readTerm_51 : decode cX7_readTerm 51 = .ok (.iinc 3 1, 3) := by decide +kernel
theorem dX7_readTerm_54 : decode cX7_readTerm 54 = .ok (.goto (-46), 3) := by decide +kernel
theorem dX7_readTerm_57 : decode cX7_readTerm 57 = .ok (.iload_n 2, 1) := by decide +kernel
theorem dX7_readTerm_58 : decode cX7_readTerm 58 = .ok (.ireturn, 1) := by decide +kernel
theorem dX7_readAtom_0 : decode cX7_readAtom 0 = .ok (.aload_n 0, 1) := by decide +kernel
theorem dX7_readAtom_1 : decode cX7_readAtom 1 = .ok (.getfield 55, 3) := by decide +kernel
theorem dX7_readAtom_4 : decode cX7_readAtom 4 = .ok (.bipush 40, 2) := by decide +kernel
theorem dX7_readAtom_6 : decode cX7_readAtom 6 = .ok (.invokevirtual 134, 3) := by decide +kernel
theorem dX7_readAtom_9 : decode cX7_readAtom 9 = .ok (.ifCond .eq 36, 3) := by decide +kernel
theorem dX7_readAtom_12 : decode cX7_readAtom 12 = .ok (.aload_n 0, 1) := by decide +kernel
theorem dX7_readAtom_13 : decode cX7_readAtom 13 = .ok (.iload_n 1, 1) := by decide +kernel
theorem dX7_readAtom_14 : decode cX7_readAtom 14 = .ok (.invokevirtual 182, 3) := by decide +kernel
theorem dX7_readAtom_17 : decode cX7_readAtom 17 = .ok (.ifCond .eq 26, 3) := by decide +kernel
theorem dX7_readAtom_20 : decode cX7_readAtom 20 = .ok (.aload_n 0, 1) := by decide +kernel
theorem dX7_readAtom_21 : decode cX7_readAtom 21 = .ok (.iload_n 1, 1) := by decide +kernel
theorem dX7_readAtom_22 : decode cX7_readAtom 22 = .ok (.iconst 1, 1) := by decide +kernel
theorem dX7_readAtom_23 : decode cX7_readAtom 23 = .ok (.iadd, 1) := by decide +kernel
theorem dX7_readAtom_24 : decode cX7_readAtom 24 = .ok (.invokevirtual 164, 3) := by decide +kernel
theorem dX7_readAtom_27 : decode cX7_readAtom 27 = .ok (.ifCond .eq 16, 3) := by decide +kernel
theorem dX7_readAtom_30 : decode cX7_readAtom 30 = .ok (.aload_n 0, 1) := by decide +kernel
theorem dX7_readAtom_31 : decode cX7_readAtom 31 = .ok (.bipush 41, 2) := by decide +kernel
theorem dX7_readAtom_33 : decode cX7_readAtom 33 = .ok (.invokevirtual 144, 3) := by decide +kernel
theorem dX7_readAtom_36 : decode cX7_readAtom 36 = .ok (.ifCond .eq 7, 3) := by decide +kernel
theorem dX7_readAtom_39 : decode cX7_readAtom 39 = .ok (.iconst 1, 1) := by decide +kernel
theorem dX7_readAtom_40 : decode cX7_readAtom 40 = .ok (.goto 4, 3) := by decide +kernel
theorem dX7_readAtom_43 : decode cX7_readAtom 43 = .ok (.iconst 0, 1) := by decide +kernel
theorem dX7_readAtom_44 : decode cX7_readAtom 44 = .ok (.ireturn, 1) := by decide +kernel
theorem dX7_readAtom_45 : decode cX7_readAtom 45 = .ok (.aload_n 0, 1) := by decide +kernel
theorem dX7_readAtom_46 : decode cX7_readAtom 46 = .ok (.getfield 55, 3) := by decide +kernel
theorem dX7_readAtom_49 : decode cX7_readAtom 49 = .ok (.invokevirtual 138, 3) := by decide +kernel
theorem dX7_readAtom_52 : decode cX7_readAtom 52 = .ok (.ifCond .eq 23, 3) := by decide +kernel
theorem dX7_readAtom_55 : decode cX7_readAtom 55 = .ok (.aload_n 0, 1) := by decide +kernel
theorem dX7_readAtom_56 : decode cX7_readAtom 56 = .ok (.aload_n 0, 1) := by decide +kernel
theorem dX7_readAtom_57 : decode cX7_readAtom 57 = .ok (.getfield 55, 3) := by decide +kernel
theorem dX7_readAtom_60 : decode cX7_readAtom 60 = .ok (.invokevirtual 141, 3) := by decide +kernel
theorem dX7_readAtom_63 : decode cX7_readAtom 63 = .ok (.invokevirtual 172, 3) := by decide +kernel
theorem dX7_readAtom_66 : decode cX7_readAtom 66 = .ok (.aload_n 0, 1) := by decide +kernel
theorem dX7_readAtom_67 : decode cX7_readAtom 67 = .ok (.getfield 55, 3) := by decide +kernel
theorem dX7_readAtom_70 : decode cX7_readAtom 70 = .ok (.invokevirtual 131, 3) := by decide +kernel
theorem dX7_readAtom_73 : decode cX7_readAtom 73 = .ok (.iconst 1, 1) := by decide +kernel
theorem dX7_readAtom_74 : decode cX7_readAtom 74 = .ok (.ireturn, 1) := by decide +kernel
theorem dX7_readAtom_75 : decode cX7_readAtom 75 = .ok (.aload_n 0, 1) := by decide +kernel
theorem dX7_readAtom_76 : decode cX7_readAtom 76 = .ok (.getfield 46, 3) := by decide +kernel
theorem dX7_readAtom_79 : decode cX7_readAtom 79 = .ok (.iconst 1, 1) := by decide +kernel
theorem dX7_readAtom_80 : decode cX7_readAtom 80 = .ok (.if_icmp .ne 10, 3) := by decide +kernel
theorem dX7_readAtom_83 : decode cX7_readAtom 83 = .ok (.aload_n 0, 1) := by decide +kernel
theorem dX7_readAtom_84 : decode cX7_readAtom 84 = .ok (.invokevirtual 194, 3) := by decide +kernel
theorem dX7_readAtom_87 : decode cX7_readAtom 87 = .ok (.goto 7, 3) := by decide +kernel
theorem dX7_readAtom_90 : decode cX7_readAtom 90 = .ok (.aload_n 0, 1) := by decide +kernel
theorem dX7_readAtom_91 : decode cX7_readAtom 91 = .ok (.invokevirtual 197, 3) := by decide +kernel
theorem dX7_readAtom_94 : decode cX7_readAtom 94 = .ok (.istore_n 2, 1) := by decide +kernel
theorem dX7_readAtom_95 : decode cX7_readAtom 95 = .ok (.iload_n 2, 1) := by decide +kernel
theorem dX7_readAtom_96 : decode cX7_readAtom 96 = .ok (.iconst (-1), 1) := by decide +kernel
theorem dX7_readAtom_97 : decode cX7_readAtom 97 = .ok (.if_icmp .ne 9, 3) := by decide +kernel
theorem dX7_readAtom_100 : decode cX7_readAtom 100 = .ok (.aload_n 0, 1) := by decide +kernel
theorem dX7_readAtom_101 : decode cX7_readAtom 101 = .ok (.iconst 2, 1) := by decide +kernel
theorem dX7_readAtom_102 : decode cX7_readAtom 102 = .ok (.invokevirtual 117, 3) := by decide +kernel
theorem dX7_readAtom_105 : decode cX7_readAtom 105 = .ok (.ireturn, 1) := by decide +kernel
theorem dX7_readAtom_106 : decode cX7_readAtom 106 = .ok (.aload_n 0, 1) := by decide +kernel
theorem dX7_readAtom_107 : decode cX7_readAtom 107 = .ok (.sipush 1000, 3) := by decide +kernel
theorem dX7_readAtom_110 : decode cX7_readAtom 110 = .ok (.iload_n 2, 1) := by decide +kernel
theorem dX7_readAtom_111 : decode cX7_readAtom 111 = .ok (.iadd, 1) := by decide +kernel
theorem dX7_readAtom_112 : decode cX7_readAtom 112 = .ok (.invokevirtual 172, 3) := by decide +kernel
theorem dX7_readAtom_115 : decode cX7_readAtom 115 = .ok (.aload_n 0, 1) := by decide +kernel
theorem dX7_readAtom_116 : decode cX7_readAtom 116 = .ok (.getfield 55, 3) := by decide +kernel
theorem dX7_readAtom_119 : decode cX7_readAtom 119 = .ok (.invokevirtual 131, 3) := by decide +kernel
theorem dX7_readAtom_122 : decode cX7_readAtom 122 = .ok (.iconst 1, 1) := by decide +kernel
theorem dX7_readAtom_123 : decode cX7_readAtom 123 = .ok (.ireturn, 1) := by decide +kernel
theorem dX7_variableOfLikes_0 : decode cX7_variableOfLikes 0 = .ok (.aload_n 0, 1) := by decide +kernel
theorem dX7_variableOfLikes_1 : decode cX7_variableOfLikes 1 = .ok (.getfield 55, 3) := by decide +kernel
theorem dX7_variableOfLikes_4 : decode cX7_variableOfLikes 4 = .ok (.ldc 200, 2) := by decide +kernel
theorem dX7_variableOfLikes_6 : decode cX7_variableOfLikes 6 = .ok (.invokevirtual 91, 3) := by decide +kernel
theorem dX7_variableOfLikes_9 : decode cX7_variableOfLikes 9 = .ok (.ifCond .eq 5, 3) := by decide +kernel
theorem dX7_variableOfLikes_12 : decode cX7_variableOfLikes 12 = .ok (.iconst 0, 1) := by decide +kernel
theorem dX7_variableOfLikes_13 : decode cX7_variableOfLikes 13 = .ok (.ireturn, 1) := by decide +kernel
theorem dX7_variableOfLikes_14 : decode cX7_variableOfLikes 14 = .ok (.aload_n 0, 1) := by decide +kernel
theorem dX7_variableOfLikes_15 : decode cX7_variableOfLikes 15 = .ok (.getfield 55, 3) := by decide +kernel
theorem dX7_variableOfLikes_18 : decode cX7_variableOfLikes 18 = .ok (.ldc 202, 2) := by decide +kernel
theorem dX7_variableOfLikes_20 : decode cX7_variableOfLikes 20 = .ok (.invokevirtual 91, 3) := by decide +kernel
theorem dX7_variableOfLikes_23 : decode cX7_variableOfLikes 23 = .ok (.ifCond .eq 7, 3) := by decide +kernel
theorem dX7_variableOfLikes_26 : decode cX7_variableOfLikes 26 = .ok (.iconst 1, 1) := by decide +kernel
theorem dX7_variableOfLikes_27 : decode cX7_variableOfLikes 27 = .ok (.goto 4, 3) := by decide +kernel
theorem dX7_variableOfLikes_30 : decode cX7_variableOfLikes 30 = .ok (.iconst (-1), 1) := by decide +kernel
theorem dX7_variableOfLikes_31 : decode cX7_variableOfLikes 31 = .ok (.ireturn, 1) := by decide +kernel
theorem dX7_variableOfCalls_0 : decode cX7_variableOfCalls 0 = .ok (.aload_n 0, 1) := by decide +kernel
theorem dX7_variableOfCalls_1 : decode cX7_variableOfCalls 1 = .ok (.getfield 55, 3) := by decide +kernel
theorem dX7_variableOfCalls_4 : decode cX7_variableOfCalls 4 = .ok (.ldc 204, 2) := by decide +kernel
theorem dX7_variableOfCalls_6 : decode cX7_variableOfCalls 6 = .ok (.invokevirtual 91, 3) := by decide +kernel
theorem dX7_variableOfCalls_9 : decode cX7_variableOfCalls 9 = .ok (.ifCond .eq 5, 3) := by decide +kernel
theorem dX7_variableOfCalls_12 : decode cX7_variableOfCalls 12 = .ok (.iconst 0, 1) := by decide +kernel
theorem dX7_variableOfCalls_13 : decode cX7_variableOfCalls 13 = .ok (.ireturn, 1) := by decide +kernel
theorem dX7_variableOfCalls_14 : decode cX7_variableOfCalls 14 = .ok (.aload_n 0, 1) := by decide +kernel
theorem dX7_variableOfCalls_15 : decode cX7_variableOfCalls 15 = .ok (.getfield 55, 3) := by decide +kernel
theorem dX7_variableOfCalls_18 : decode cX7_variableOfCalls 18 = .ok (.ldc 155, 2) := by decide +kernel
theorem dX7_variableOfCalls_20 : decode cX7_variableOfCalls 20 = .ok (.invokevirtual 91, 3) := by decide +kernel
theorem dX7_variableOfCalls_23 : decode cX7_variableOfCalls 23 = .ok (.ifCond .eq 5, 3) := by decide +kernel
theorem dX7_variableOfCalls_26 : decode cX7_variableOfCalls 26 = .ok (.iconst 1, 1) := by decide +kernel
theorem dX7_variableOfCalls_27 : decode cX7_variableOfCalls 27 = .ok (.ireturn, 1) := by decide +kernel
theorem dX7_variableOfCalls_28 : decode cX7_variableOfCalls 28 = .ok (.aload_n 0, 1) := by decide +kernel
theorem dX7_variableOfCalls_29 : decode cX7_variableOfCalls 29 = .ok (.getfield 55, 3) := by decide +kernel
theorem dX7_variableOfCalls_32 : decode cX7_variableOfCalls 32 = .ok (.ldc 113, 2) := by decide +kernel
theorem dX7_variableOfCalls_34 : decode cX7_variableOfCalls 34 = .ok (.invokevirtual 91, 3) := by decide +kernel
theorem dX7_variableOfCalls_37 : decode cX7_variableOfCalls 37 = .ok (.ifCond .eq 5, 3) := by decide +kernel
theorem dX7_variableOfCalls_40 : decode cX7_variableOfCalls 40 = .ok (.iconst 2, 1) := by decide +kernel
theorem dX7_variableOfCalls_41 : decode cX7_variableOfCalls 41 = .ok (.ireturn, 1) := by decide +kernel
theorem dX7_variableOfCalls_42 : decode cX7_variableOfCalls 42 = .ok (.aload_n 0, 1) := by decide +kernel
theorem dX7_variableOfCalls_43 : decode cX7_variableOfCalls 43 = .ok (.getfield 55, 3) := by decide +kernel
theorem dX7_variableOfCalls_46 : decode cX7_variableOfCalls 46 = .ok (.ldc 98, 2) := by decide +kernel
theorem dX7_variableOfCalls_48 : decode cX7_variableOfCalls 48 = .ok (.invokevirtual 91, 3) := by decide +kernel
theorem dX7_variableOfCalls_51 : decode cX7_variableOfCalls 51 = .ok (.ifCond .eq 5, 3) := by decide +kernel
theorem dX7_variableOfCalls_54 : decode cX7_variableOfCalls 54 = .ok (.iconst 3, 1) := by decide +kernel
theorem dX7_variableOfCalls_55 : decode cX7_variableOfCalls 55 = .ok (.ireturn, 1) := by decide +kernel
theorem dX7_variableOfCalls_56 : decode cX7_variableOfCalls 56 = .ok (.aload_n 0, 1) := by decide +kernel
theorem dX7_variableOfCalls_57 : decode cX7_variableOfCalls 57 = .ok (.getfield 46, 3) := by decide +kernel
theorem dX7_variableOfCalls_60 : decode cX7_variableOfCalls 60 = .ok (.iconst 2, 1) := by decide +kernel
theorem dX7_variableOfCalls_61 : decode cX7_variableOfCalls 61 = .ok (.if_icmp .ne 17, 3) := by decide +kernel
theorem dX7_variableOfCalls_64 : decode cX7_variableOfCalls 64 = .ok (.aload_n 0, 1) := by decide +kernel
theorem dX7_variableOfCalls_65 : decode cX7_variableOfCalls 65 = .ok (.getfield 55, 3) := by decide +kernel
theorem dX7_variableOfCalls_68 : decode cX7_variableOfCalls 68 = .ok (.ldc 109, 2) := by decide +kernel
theorem dX7_variableOfCalls_70 : decode cX7_variableOfCalls 70 = .ok (.invokevirtual 91, 3) := by decide +kernel
theorem dX7_variableOfCalls_73 : decode cX7_variableOfCalls 73 = .ok (.ifCond .eq 5, 3) := by decide +kernel
theorem dX7_variableOfCalls_76 : decode cX7_variableOfCalls 76 = .ok (.iconst 4, 1) := by decide +kernel
theorem dX7_variableOfCalls_77 : decode cX7_variableOfCalls 77 = .ok (.ireturn, 1) := by decide +kernel
theorem dX7_variableOfCalls_78 : decode cX7_variableOfCalls 78 = .ok (.aload_n 0, 1) := by decide +kernel
theorem dX7_variableOfCalls_79 : decode cX7_variableOfCalls 79 = .ok (.getfield 46, 3) := by decide +kernel
theorem dX7_variableOfCalls_82 : decode cX7_variableOfCalls 82 = .ok (.iconst 2, 1) := by decide +kernel
theorem dX7_variableOfCalls_83 : decode cX7_variableOfCalls 83 = .ok (.if_icmp .ne 19, 3) := by decide +kernel
theorem dX7_variableOfCalls_86 : decode cX7_variableOfCalls 86 = .ok (.aload_n 0, 1) := by decide +kernel
theorem dX7_variableOfCalls_87 : decode cX7_variableOfCalls 87 = .ok (.getfield 55, 3) := by decide +kernel
theorem dX7_variableOfCalls_90 : decode cX7_variableOfCalls 90 = .ok (.ldc 206, 2) := by decide +kernel
theorem dX7_variableOfCalls_92 : decode cX7_variableOfCalls 92 = .ok (.invokevirtual 91, 3) := by decide +kernel
theorem dX7_variableOfCalls_95 : decode cX7_variableOfCalls 95 = .ok (.ifCond .eq 7, 3) := by decide +kernel
theorem dX7_variableOfCalls_98 : decode cX7_variableOfCalls 98 = .ok (.iconst 5, 1) := by decide +kernel
theorem dX7_variableOfCalls_99 : decode cX7_variableOfCalls 99 = .ok (.goto 4, 3) := by decide +kernel
theorem dX7_variableOfCalls_102 : decode cX7_variableOfCalls 102 = .ok (.iconst (-1), 1) := by decide +kernel
theorem dX7_variableOfCalls_103 : decode cX7_variableOfCalls 103 = .ok (.ireturn, 1) := by decide +kernel
theorem dX8_init_0 : decode cX8_init 0 = .ok (.aload_n 0, 1) := by decide +kernel
theorem dX8_init_1 : decode cX8_init 1 = .ok (.invokespecial 3, 3) := by decide +kernel
theorem dX8_init_4 : decode cX8_init 4 = .ok (.aload_n 0, 1) := by decide +kernel
theorem dX8_init_5 : decode cX8_init 5 = .ok (.iconst 3, 1) := by decide +kernel
theorem dX8_init_6 : decode cX8_init 6 = .ok (.newarray .int, 2) := by decide +kernel
theorem dX8_init_8 : decode cX8_init 8 = .ok (.putfield 9, 3) := by decide +kernel
theorem dX8_init_11 : decode cX8_init 11 = .ok (.aload_n 0, 1) := by decide +kernel
theorem dX8_init_12 : decode cX8_init 12 = .ok (.bipush 64, 2) := by decide +kernel
theorem dX8_init_14 : decode cX8_init 14 = .ok (.newarray .int, 2) := by decide +kernel
theorem dX8_init_16 : decode cX8_init 16 = .ok (.putfield 15, 3) := by decide +kernel
theorem dX8_init_19 : decode cX8_init 19 = .ok (.aload_n 0, 1) := by decide +kernel
theorem dX8_init_20 : decode cX8_init 20 = .ok (.iconst 2, 1) := by decide +kernel
theorem dX8_init_21 : decode cX8_init 21 = .ok (.bipush 8, 2) := by decide +kernel
theorem dX8_init_23 : decode cX8_init 23 = .ok (.aload_n 1, 1) := by decide +kernel
theorem dX8_init_24 : decode cX8_init 24 = .ok (.invokevirtual 18, 3) := by decide +kernel
theorem dX8_init_27 : decode cX8_init 27 = .ok (.invokestatic 24, 3) := by decide +kernel
theorem dX8_init_30 : decode cX8_init 30 = .ok (.invokestatic 30, 3) := by decide +kernel
theorem dX8_init_33 : decode cX8_init 33 = .ok (.putfield 33, 3) := by decide +kernel
theorem dX8_init_36 : decode cX8_init 36 = .ok (.aload_n 0, 1) := by decide +kernel
theorem dX8_init_37 : decode cX8_init 37 = .ok (.iconst 0, 1) := by decide +kernel
theorem dX8_init_38 : decode cX8_init 38 = .ok (.iconst 3, 1) := by decide +kernel
theorem dX8_init_39 : decode cX8_init 39 = .ok (.aload_n 1, 1) := by decide +kernel
theorem dX8_init_40 : decode cX8_init 40 = .ok (.invokevirtual 36, 3) := by decide +kernel
theorem dX8_init_43 : decode cX8_init 43 = .ok (.invokestatic 24, 3) := by decide +kernel
theorem dX8_init_46 : decode cX8_init 46 = .ok (.invokestatic 30, 3) := by decide +kernel
theorem dX8_init_49 : decode cX8_init 49 = .ok (.putfield 39, 3) := by decide +kernel
theorem dX8_init_52 : decode cX8_init 52 = .ok (.aload_n 0, 1) := by decide +kernel
theorem dX8_init_53 : decode cX8_init 53 = .ok (.aload_n 1, 1) := by decide +kernel
theorem dX8_init_54 : decode cX8_init 54 = .ok (.invokevirtual 41, 3) := by decide +kernel
theorem dX8_init_57 : decode cX8_init 57 = .ok (.putfield 44, 3) := by decide +kernel
theorem dX8_init_60 : decode cX8_init 60 = .ok (.iconst 0, 1) := by decide +kernel
theorem dX8_init_61 : decode cX8_init 61 = .ok (.istore_n 2, 1) := by decide +kernel
theorem dX8_init_62 : decode cX8_init 62 = .ok (.iload_n 2, 1) := by decide +kernel
theorem dX8_init_63 : decode cX8_init 63 = .ok (.aload_n 0, 1) := by decide +kernel
theorem dX8_init_64 : decode cX8_init 64 = .ok (.getfield 39, 3) := by decide +kernel
theorem dX8_init_67 : decode cX8_init 67 = .ok (.if_icmp .ge 20, 3) := by decide +kernel
theorem dX8_init_70 : decode cX8_init 70 = .ok (.aload_n 0, 1) := by decide +kernel
theorem dX8_init_71 : decode cX8_init 71 = .ok (.getfield 9, 3) := by decide +kernel
theorem dX8_init_74 : decode cX8_init 74 = .ok (.iload_n 2, 1) := by decide +kernel
theorem dX8_init_75 : decode cX8_init 75 = .ok (.aload_n 1, 1) := by decide +kernel
theorem dX8_init_76 : decode cX8_init 76 = .ok (.iload_n 2, 1) := by decide +kernel
theorem dX8_init_77 : decode cX8_init 77 = .ok (.invokevirtual 46, 3) := by decide +kernel
theorem dX8_init_80 : decode cX8_init 80 = .ok (.iastore, 1) := by decide +kernel
theorem dX8_init_81 : decode cX8_init 81 = .ok (.iinc 2 1, 3) := by decide +kernel
theorem dX8_init_84 : decode cX8_init 84 = .ok (.goto (-22), 3) := by decide +kernel
theorem dX8_init_87 : decode cX8_init 87 = .ok (.aload_n 0, 1) := by decide +kernel
theorem dX8_init_88 : decode cX8_init 88 = .ok (.aload_n 1, 1) := by decide +kernel
theorem dX8_init_89 : decode cX8_init 89 = .ok (.iconst 0, 1) := by decide +kernel
theorem dX8_init_90 : decode cX8_init 90 = .ok (.invokevirtual 50, 3) := by decide +kernel
theorem dX8_init_93 : decode cX8_init 93 = .ok (.putfield 54, 3) := by decide +kernel
theorem dX8_init_96 : decode cX8_init 96 = .ok (.aload_n 0, 1) := by decide +kernel
theorem dX8_init_97 : decode cX8_init 97 = .ok (.aload_n 1, 1) := by decide +kernel
theorem dX8_init_98 : decode cX8_init 98 = .ok (.iconst 2, 1) := by decide +kernel
theorem dX8_init_99 : decode cX8_init 99 = .ok (.invokevirtual 50, 3) := by decide +kernel
theorem dX8_init_102 : decode cX8_init 102 = .ok (.putfield 58, 3) := by decide +kernel
theorem dX8_init_105 : decode cX8_init 105 = .ok (.aload_n 1, 1) := by decide +kernel
theorem dX8_init_106 : decode cX8_init 106 = .ok (.iconst 1, 1) := by decide +kernel
theorem dX8_init_107 : decode cX8_init 107 = .ok (.invokevirtual 50, 3) := by decide +kernel
theorem dX8_init_110 : decode cX8_init 110 = .ok (.astore_n 2, 1) := by decide +kernel
theorem dX8_init_111 : decode cX8_init 111 = .ok (.iconst 0, 1) := by decide +kernel
theorem dX8_init_112 : decode cX8_init 112 = .ok (.istore_n 3, 1) := by decide +kernel
theorem dX8_init_113 : decode cX8_init 113 = .ok (.aload_n 2, 1) := by decide +kernel
theorem dX8_init_114 : decode cX8_init 114 = .ok (.ifnull 60, 3) := by decide +kernel
theorem dX8_init_117 : decode cX8_init 117 = .ok (.iload_n 3, 1) := by decide +kernel
theorem dX8_init_118 : decode cX8_init 118 = .ok (.aload_n 0, 1) := by decide +kernel
theorem dX8_init_119 : decode cX8_init 119 = .ok (.getfield 33, 3) := by decide +kernel
theorem dX8_init_122 : decode cX8_init 122 = .ok (.if_icmp .ge 52, 3) := by decide +kernel
theorem dX8_init_125 : decode cX8_init 125 = .ok (.iconst 0, 1) := by decide +kernel
theorem dX8_init_126 : decode cX8_init 126 = .ok (.istore 4, 2) := by decide +kernel
theorem dX8_init_128 : decode cX8_init 128 = .ok (.iload 4, 2) := by decide +kernel
theorem dX8_init_130 : decode cX8_init 130 = .ok (.aload_n 0, 1) := by decide +kernel
theorem dX8_init_131 : decode cX8_init 131 = .ok (.getfield 33, 3) := by decide +kernel
theorem dX8_init_134 : decode cX8_init 134 = .ok (.if_icmp .ge 34, 3) := by decide +kernel
theorem dX8_init_137 : decode cX8_init 137 = .ok (.aload_n 2, 1) := by decide +kernel
theorem dX8_init_138 : decode cX8_init 138 = .ok (.iload_n 3, 1) := by decide +kernel
theorem dX8_init_139 : decode cX8_init 139 = .ok (.iload 4, 2) := by decide +kernel
theorem dX8_init_141 : decode cX8_init 141 = .ok (.iconst 0, 1) := by decide +kernel
theorem dX8_init_142 : decode cX8_init 142 = .ok (.iconst 0, 1) := by decide +kernel
theorem dX8_init_143 : decode cX8_init 143 = .ok (.invokevirtual 61, 3) := by decide +kernel
theorem dX8_init_146 : decode cX8_init 146 = .ok (.aload_n 0, 1) := by decide +kernel
theorem dX8_init_147 : decode cX8_init 147 = .ok (.getfield 15, 3) := by decide +kernel
theorem dX8_init_150 : decode cX8_init 150 = .ok (.iload_n 3, 1) := by decide +kernel
theorem dX8_init_151 : decode cX8_init 151 = .ok (.bipush 8, 2) := by decide +kernel
theorem dX8_init_153 : decode cX8_init 153 = .ok (.imul, 1) := by decide +kernel
theorem dX8_init_154 : decode cX8_init 154 = .ok (.iload 4, 2) := by decide +kernel
theorem dX8_init_156 : decode cX8_init 156 = .ok (.iadd, 1) := by decide +kernel
theorem dX8_init_157 : decode cX8_init 157 = .ok (.aload_n 2, 1) := by decide +kernel
theorem dX8_init_158 : decode cX8_init 158 = .ok (.invokevirtual 67, 3) := by decide +kernel
theorem dX8_init_161 : decode cX8_init 161 = .ok (.iastore, 1) := by decide +kernel
theorem dX8_init_162 : decode cX8_init 162 = .ok (.iinc 4 1, 3) := by decide +kernel
theorem dX8_init_165 : decode cX8_init 165 = .ok (.goto (-37), 3) := by decide +kernel
theorem dX8_init_168 : decode cX8_init 168 = .ok (.iinc 3 1, 3) := by decide +kernel
theorem dX8_init_171 : decode cX8_init 171 = .ok (.goto (-58), 3) := by decide +kernel
theorem dX8_init_174 : decode cX8_init 174 = .ok (.return_, 1) := by decide +kernel
theorem dX8_reachOf_0 : decode cX8_reachOf 0 = .ok (.iload_n 1, 1) := by decide +kernel
theorem dX8_reachOf_1 : decode cX8_reachOf 1 = .ok (.ifCond .lt 17, 3) := by decide +kernel
theorem dX8_reachOf_4 : decode cX8_reachOf 4 = .ok (.iload_n 1, 1) := by decide +kernel
theorem dX8_reachOf_5 : decode cX8_reachOf 5 = .ok (.iconst 3, 1) := by decide +kernel
theorem dX8_reachOf_6 : decode cX8_reachOf 6 = .ok (.if_icmp .ge 12, 3) := by decide +kernel
theorem dX8_reachOf_9 : decode cX8_reachOf 9 = .ok (.aload_n 0, 1) := by decide +kernel
theorem dX8_reachOf_10 : decode cX8_reachOf 10 = .ok (.getfield 9, 3) := by decide +kernel
theorem dX8_reachOf_13 : decode cX8_reachOf 13 = .ok (.iload_n 1, 1) := by decide +kernel
theorem dX8_reachOf_14 : decode cX8_reachOf 14 = .ok (.iaload, 1) := by decide +kernel
theorem dX8_reachOf_15 : decode cX8_reachOf 15 = .ok (.goto 4, 3) := by decide +kernel
theorem dX8_reachOf_18 : decode cX8_reachOf 18 = .ok (.iconst 0, 1) := by decide +kernel
theorem dX8_reachOf_19 : decode cX8_reachOf 19 = .ok (.ireturn, 1) := by decide +kernel
theorem dX8_reaches_0 : decode cX8_reaches 0 = .ok (.iconst 1, 1) := by decide +kernel
theorem dX8_reaches_1 : decode cX8_reaches 1 = .ok (.iload_n 2, 1) := by decide +kernel
theorem dX8_reaches_2 : decode cX8_reaches 2 = .ok (.ishl, 1) := by decide +kernel
theorem dX8_reaches_3 : decode cX8_reaches 3 = .ok (.iconst 1, 1) := by decide +kernel
theorem dX8_reaches_4 : decode cX8_reaches 4 = .ok (.iload_n 3, 1) := by decide +kernel
theorem dX8_reaches_5 : decode cX8_reaches 5 = .ok (.ishl, 1) := by decide +kernel
theorem dX8_reaches_6 : decode cX8_reaches 6 = .ok (.ior, 1) := by decide +kernel
theorem dX8_reaches_7 : decode cX8_reaches 7 = .ok (.istore 4, 2) := by decide +kernel
theorem dX8_reaches_9 : decode cX8_reaches 9 = .ok (.iload_n 1, 1) := by decide +kernel
theorem dX8_reaches_10 : decode cX8_reaches 10 = .ok (.ifCond .lt 26, 3) := by decide +kernel
theorem dX8_reaches_13 : decode cX8_reaches 13 = .ok (.iload_n 1, 1) := by decide +kernel
theorem dX8_reaches_14 : decode cX8_reaches 14 = .ok (.iconst 3, 1) := by decide +kernel
theorem dX8_reaches_15 : decode cX8_reaches 15 = .ok (.if_icmp .ge 21, 3) := by decide +kernel
theorem dX8_reaches_18 : decode cX8_reaches 18 = .ok (.aload_n 0, 1) := by decide +kernel
theorem dX8_reaches_19 : decode cX8_reaches 19 = .ok (.getfield 9, 3) := by decide +kernel
theorem dX8_reaches_22 : decode cX8_reaches 22 = .ok (.iload_n 1, 1) := by decide +kernel
theorem dX8_reaches_23 : decode cX8_reaches 23 = .ok (.iaload, 1) := by decide +kernel
theorem dX8_reaches_24 : decode cX8_reaches 24 = .ok (.iload 4, 2) := by decide +kernel
theorem dX8_reaches_26 : decode cX8_reaches 26 = .ok (.iand, 1) := by decide +kernel
theorem dX8_reaches_27 : decode cX8_reaches 27 = .ok (.iload 4, 2) := by decide +kernel
theorem dX8_reaches_29 : decode cX8_reaches 29 = .ok (.if_icmp .ne 7, 3) := by decide +kernel
theorem dX8_reaches_32 : decode cX8_reaches 32 = .ok (.iconst 1, 1) := by decide +kernel
theorem dX8_reaches_33 : decode cX8_reaches 33 = .ok (.goto 4, 3) := by decide +kernel
theorem dX8_reaches_36 : decode cX8_reaches 36 = .ok (.iconst 0, 1) := by decide +kernel
theorem dX8_reaches_37 : decode cX8_reaches 37 = .ok (.ireturn, 1) := by decide +kernel
theorem dX8_liking_0 : decode cX8_liking 0 = .ok (.iload_n 1, 1) := by decide +kernel
theorem dX8_liking_1 : decode cX8_liking 1 = .ok (.ifCond .lt 23, 3) := by decide +kernel
theorem dX8_liking_4 : decode cX8_liking 4 = .ok (.iload_n 1, 1) := by decide +kernel
theorem dX8_liking_5 : decode cX8_liking 5 = .ok (.bipush 8, 2) := by decide +kernel
theorem dX8_liking_7 : decode cX8_liking 7 = .ok (.if_icmp .ge 17, 3) := by decide +kernel
theorem dX8_liking_10 : decode cX8_liking 10 = .ok (.iload_n 2, 1) := by decide +kernel
theorem dX8_liking_11 : decode cX8_liking 11 = .ok (.ifCond .lt 13, 3) := by decide +kernel
theorem dX8_liking_14 : decode cX8_liking 14 = .ok (.iload_n 2, 1) := by decide +kernel
theorem dX8_liking_15 : decode cX8_liking 15 = .ok (.bipush 8, 2) := by decide +kernel
theorem dX8_liking_17 : decode cX8_liking 17 = .ok (.if_icmp .ge 7, 3) := by decide +kernel
theorem dX8_liking_20 : decode cX8_liking 20 = .ok (.iconst 1, 1) := by decide +kernel
theorem dX8_liking_21 : decode cX8_liking 21 = .ok (.goto 4, 3) := by decide +kernel
theorem dX8_liking_24 : decode cX8_liking 24 = .ok (.iconst 0, 1) := by decide +kernel
theorem dX8_liking_25 : decode cX8_liking 25 = .ok (.istore_n 3, 1) := by decide +kernel
theorem dX8_liking_26 : decode cX8_liking 26 = .ok (.iload_n 3, 1) := by decide +kernel
theorem dX8_liking_27 : decode cX8_liking 27 = .ok (.ifCond .eq 17, 3) := by decide +kernel
theorem dX8_liking_30 : decode cX8_liking 30 = .ok (.aload_n 0, 1) := by decide +kernel
theorem dX8_liking_31 : decode cX8_liking 31 = .ok (.getfield 15, 3) := by decide +kernel
theorem dX8_liking_34 : decode cX8_liking 34 = .ok (.iload_n 1, 1) := by decide +kernel
theorem dX8_liking_35 : decode cX8_liking 35 = .ok (.bipush 8, 2) := by decide +kernel
theorem dX8_liking_37 : decode cX8_liking 37 = .ok (.imul, 1) := by decide +kernel
theorem dX8_liking_38 : decode cX8_liking 38 = .ok (.iload_n 2, 1) := by decide +kernel
theorem dX8_liking_39 : decode cX8_liking 39 = .ok (.iadd, 1) := by decide +kernel
theorem dX8_liking_40 : decode cX8_liking 40 = .ok (.iaload, 1) := by decide +kernel
theorem dX8_liking_41 : decode cX8_liking 41 = .ok (.goto 4, 3) := by decide +kernel
theorem dX8_liking_44 : decode cX8_liking 44 = .ok (.iconst 0, 1) := by decide +kernel
theorem dX8_liking_45 : decode cX8_liking 45 = .ok (.ireturn, 1) := by decide +kernel
theorem dX8_isWedding_0 : decode cX8_isWedding 0 = .ok (.aload_n 0, 1) := by decide +kernel
theorem dX8_isWedding_1 : decode cX8_isWedding 1 = .ok (.getfield 58, 3) := by decide +kernel
theorem dX8_isWedding_4 : decode cX8_isWedding 4 = .ok (.ifnonnull 5, 3) := by decide +kernel
theorem dX8_isWedding_7 : decode cX8_isWedding 7 = .ok (.iconst 0, 1) := by decide +kernel
theorem dX8_isWedding_8 : decode cX8_isWedding 8 = .ok (.ireturn, 1) := by decide +kernel
theorem dX8_isWedding_9 : decode cX8_isWedding 9 = .ok (.aload_n 0, 1) := by decide +kernel
theorem dX8_isWedding_10 : decode cX8_isWedding 10 = .ok (.getfield 58, 3) := by decide +kernel
theorem dX8_isWedding_13 : decode cX8_isWedding 13 = .ok (.iload_n 1, 1) := by decide +kernel
theorem dX8_isWedding_14 : decode cX8_isWedding 14 = .ok (.iload_n 2, 1) := by decide +kernel
theorem dX8_isWedding_15 : decode cX8_isWedding 15 = .ok (.iload_n 3, 1) := by decide +kernel
theorem dX8_isWedding_16 : decode cX8_isWedding 16 = .ok (.bipush 60, 2) := by decide +kernel
theorem dX8_isWedding_18 : decode cX8_isWedding 18 = .ok (.irem, 1) := by decide +kernel
theorem dX8_isWedding_19 : decode cX8_isWedding 19 = .ok (.iload 4, 2) := by decide +kernel
theorem dX8_isWedding_21 : decode cX8_isWedding 21 = .ok (.invokevirtual 61, 3) := by decide +kernel
theorem dX8_isWedding_24 : decode cX8_isWedding 24 = .ok (.aload_n 0, 1) := by decide +kernel
theorem dX8_isWedding_25 : decode cX8_isWedding 25 = .ok (.getfield 58, 3) := by decide +kernel
theorem dX8_isWedding_28 : decode cX8_isWedding 28 = .ok (.aload_n 0, 1) := by decide +kernel
theorem dX8_isWedding_29 : decode cX8_isWedding 29 = .ok (.iload_n 1, 1) := by decide +kernel
theorem dX8_isWedding_30 : decode cX8_isWedding 30 = .ok (.iload_n 2, 1) := by decide +kernel
theorem dX8_isWedding_31 : decode cX8_isWedding 31 = .ok (.invokevirtual 70, 3) := by decide +kernel
theorem dX8_isWedding_34 : decode cX8_isWedding 34 = .ok (.aload_n 0, 1) := by decide +kernel
theorem dX8_isWedding_35 : decode cX8_isWedding 35 = .ok (.iload_n 2, 1) := by decide +kernel
theorem dX8_isWedding_36 : decode cX8_isWedding 36 = .ok (.iload_n 1, 1) := by decide +kernel
theorem dX8_isWedding_37 : decode cX8_isWedding 37 = .ok (.invokevirtual 70, 3) := by decide +kernel
theorem dX8_isWedding_40 : decode cX8_isWedding 40 = .ok (.invokevirtual 72, 3) := by decide +kernel
theorem dX8_isWedding_43 : decode cX8_isWedding 43 = .ok (.aload_n 0, 1) := by decide +kernel
theorem dX8_isWedding_44 : decode cX8_isWedding 44 = .ok (.getfield 58, 3) := by decide +kernel
theorem dX8_isWedding_47 : decode cX8_isWedding 47 = .ok (.invokevirtual 67, 3) := by decide +kernel
theorem dX8_isWedding_50 : decode cX8_isWedding 50 = .ok (.ifCond .eq 7, 3) := by decide +kernel
theorem dX8_isWedding_53 : decode cX8_isWedding 53 = .ok (.iconst 1, 1) := by decide +kernel
theorem dX8_isWedding_54 : decode cX8_isWedding 54 = .ok (.goto 4, 3) := by decide +kernel
theorem dX8_isWedding_57 : decode cX8_isWedding 57 = .ok (.iconst 0, 1) := by decide +kernel
theorem dX8_isWedding_58 : decode cX8_isWedding 58 = .ok (.ireturn, 1) := by decide +kernel
theorem dX9_init_0 : decode cX9_init 0 = .ok (.aload_n 0, 1) := by decide +kernel
theorem dX9_init_1 : decode cX9_init 1 = .ok (.invokespecial 1, 3) := by decide +kernel
theorem dX9_init_4 : decode cX9_init 4 = .ok (.aload_n 0, 1) := by decide +kernel
theorem dX9_init_5 : decode cX9_init 5 = .ok (.iconst 0, 1) := by decide +kernel
theorem dX9_init_6 : decode cX9_init 6 = .ok (.putfield 7, 3) := by decide +kernel
theorem dX9_init_9 : decode cX9_init 9 = .ok (.aload_n 0, 1) := by decide +kernel
theorem dX9_init_10 : decode cX9_init 10 = .ok (.iconst 0, 1) := by decide +kernel
theorem dX9_init_11 : decode cX9_init 11 = .ok (.putfield 13, 3) := by decide +kernel
theorem dX9_init_14 : decode cX9_init 14 = .ok (.aload_n 0, 1) := by decide +kernel
theorem dX9_init_15 : decode cX9_init 15 = .ok (.iconst 0, 1) := by decide +kernel
theorem dX9_init_16 : decode cX9_init 16 = .ok (.putfield 16, 3) := by decide +kernel
theorem dX9_init_19 : decode cX9_init 19 = .ok (.aload_n 0, 1) := by decide +kernel
theorem dX9_init_20 : decode cX9_init 20 = .ok (.iconst 0, 1) := by decide +kernel
theorem dX9_init_21 : decode cX9_init 21 = .ok (.putfield 19, 3) := by decide +kernel
theorem dX9_init_24 : decode cX9_init 24 = .ok (.aload_n 0, 1) := by decide +kernel
theorem dX9_init_25 : decode cX9_init 25 = .ok (.iconst 0, 1) := by decide +kernel
theorem dX9_init_26 : decode cX9_init 26 = .ok (.putfield 22, 3) := by decide +kernel
theorem dX9_init_29 : decode cX9_init 29 = .ok (.aload_n 0, 1) := by decide +kernel
theorem dX9_init_30 : decode cX9_init 30 = .ok (.aload_n 1, 1) := by decide +kernel
theorem dX9_init_31 : decode cX9_init 31 = .ok (.putfield 25, 3) := by decide +kernel
theorem dX9_init_34 : decode cX9_init 34 = .ok (.return_, 1) := by decide +kernel
theorem dX9_open_0 : decode cX9_open 0 = .ok (.aload_n 0, 1) := by decide +kernel
theorem dX9_open_1 : decode cX9_open 1 = .ok (.iconst 0, 1) := by decide +kernel
theorem dX9_open_2 : decode cX9_open 2 = .ok (.iload_n 1, 1) := by decide +kernel
theorem dX9_open_3 : decode cX9_open 3 = .ok (.aload_n 0, 1) := by decide +kernel
theorem dX9_open_4 : decode cX9_open 4 = .ok (.getfield 25, 3) := by decide +kernel
theorem dX9_open_7 : decode cX9_open 7 = .ok (.arraylength, 1) := by decide +kernel
theorem dX9_open_8 : decode cX9_open 8 = .ok (.invokestatic 29, 3) := by decide +kernel
theorem dX9_open_11 : decode cX9_open 11 = .ok (.invokestatic 35, 3) := by decide +kernel
theorem dX9_open_14 : decode cX9_open 14 = .ok (.putfield 7, 3) := by decide +kernel
theorem dX9_open_17 : decode cX9_open 17 = .ok (.aload_n 0, 1) := by decide +kernel
theorem dX9_open_18 : decode cX9_open 18 = .ok (.iconst 0, 1) := by decide +kernel
theorem dX9_open_19 : decode cX9_open 19 = .ok (.putfield 13, 3) := by decide +kernel
theorem dX9_open_22 : decode cX9_open 22 = .ok (.aload_n 0, 1) := by decide +kernel
theorem dX9_open_23 : decode cX9_open 23 = .ok (.invokevirtual 38, 3) := by decide +kernel
theorem dX9_open_26 : decode cX9_open 26 = .ok (.return_, 1) := by decide +kernel
theorem dX9_advance_0 : decode cX9_advance 0 = .ok (.aload_n 0, 1) := by decide +kernel
theorem dX9_advance_1 : decode cX9_advance 1 = .ok (.getfield 13, 3) := by decide +kernel
theorem dX9_advance_4 : decode cX9_advance 4 = .ok (.aload_n 0, 1) := by decide +kernel
theorem dX9_advance_5 : decode cX9_advance 5 = .ok (.getfield 7, 3) := by decide +kernel
theorem dX9_advance_8 : decode cX9_advance 8 = .ok (.if_icmp .ge 44, 3) := by decide +kernel
theorem dX9_advance_11 : decode cX9_advance 11 = .ok (.aload_n 0, 1) := by decide +kernel
theorem dX9_advance_12 : decode cX9_advance 12 = .ok (.getfield 25, 3) := by decide +kernel
theorem dX9_advance_15 : decode cX9_advance 15 = .ok (.aload_n 0, 1) := by decide +kernel
theorem dX9_advance_16 : decode cX9_advance 16 = .ok (.getfield 13, 3) := by decide +kernel
theorem dX9_advance_19 : decode cX9_advance 19 = .ok (.baload, 1) := by decide +kernel
theorem dX9_advance_20 : decode cX9_advance 20 = .ok (.bipush 10, 2) := by decide +kernel
theorem dX9_advance_22 : decode cX9_advance 22 = .ok (.if_icmp .eq 17, 3) := by decide +kernel
theorem dX9_advance_25 : decode cX9_advance 25 = .ok (.aload_n 0, 1) := by decide +kernel
theorem dX9_advance_26 : decode cX9_advance 26 = .ok (.getfield 25, 3) := by decide +kernel
theorem dX9_advance_29 : decode cX9_advance 29 = .ok (.aload_n 0, 1) := by decide +kernel
theorem dX9_advance_30 : decode cX9_advance 30 = .ok (.getfield 13, 3) := by decide +kernel
theorem dX9_advance_33 : decode cX9_advance 33 = .ok (.baload, 1) := by decide +kernel
theorem dX9_advance_34 : decode cX9_advance 34 = .ok (.bipush 32, 2) := by decide +kernel
theorem dX9_advance_36 : decode cX9_advance 36 = .ok (.if_icmp .ne 16, 3) := by decide +kernel
theorem dX9_advance_39 : decode cX9_advance 39 = .ok (.aload_n 0, 1) := by decide +kernel
theorem dX9_advance_40 : decode cX9_advance 40 = .ok (.dup, 1) := by decide +kernel
theorem dX9_advance_41 : decode cX9_advance 41 = .ok (.getfield 13, 3) := by decide +kernel
theorem dX9_advance_44 : decode cX9_advance 44 = .ok (.iconst 1, 1) := by decide +kernel
theorem dX9_advance_45 : decode cX9_advance 45 = .ok (.iadd, 1) := by decide +kernel
theorem dX9_advance_46 : decode cX9_advance 46 = .ok (.putfield 13, 3) := by decide +kernel
theorem dX9_advance_49 : decode cX9_advance 49 = .ok (.goto (-49), 3) := by decide +kernel
theorem dX9_advance_52 : decode cX9_advance 52 = .ok (.aload_n 0, 1) := by decide +kernel
theorem dX9_advance_53 : decode cX9_advance 53 = .ok (.aload_n 0, 1) := by decide +kernel
theorem dX9_advance_54 : decode cX9_advance 54 = .ok (.getfield 13, 3) := by decide +kernel
theorem dX9_advance_57 : decode cX9_advance 57 = .ok (.putfield 16, 3) := by decide +kernel
theorem dX9_advance_60 : decode cX9_advance 60 = .ok (.aload_n 0, 1) := by decide +kernel
theorem dX9_advance_61 : decode cX9_advance 61 = .ok (.getfield 16, 3) := by decide +kernel
theorem dX9_advance_64 : decode cX9_advance 64 = .ok (.aload_n 0, 1) := by decide +kernel
theorem dX9_advance_65 : decode cX9_advance 65 = .ok (.getfield 7, 3) := by decide +kernel
theorem dX9_advance_68 : decode cX9_advance 68 = .ok (.if_icmp .lt 9, 3) := by decide +kernel
theorem dX9_advance_71 : decode cX9_advance 71 = .ok (.aload_n 0, 1) := by decide +kernel
theorem dX9_advance_72 : decode cX9_advance 72 = .ok (.iconst 0, 1) := by decide +kernel
theorem dX9_advance_73 : decode cX9_advance 73 = .ok (.putfield 19, 3) := by decide +kernel
theorem dX9_advance_76 : decode cX9_advance 76 = .ok (.return_, 1) := by decide +kernel
theorem dX9_advance_77 : decode cX9_advance 77 = .ok (.aload_n 0, 1) := by decide +kernel
theorem dX9_advance_78 : decode cX9_advance 78 = .ok (.aload_n 0, 1) := by decide +kernel
theorem dX9_advance_79 : decode cX9_advance 79 = .ok (.getfield 25, 3) := by decide +kernel
theorem dX9_advance_82 : decode cX9_advance 82 = .ok (.aload_n 0, 1) := by decide +kernel
theorem dX9_advance_83 : decode cX9_advance 83 = .ok (.getfield 16, 3) := by decide +kernel
theorem dX9_advance_86 : decode cX9_advance 86 = .ok (.baload, 1) := by decide +kernel
theorem dX9_advance_87 : decode cX9_advance 87 = .ok (.putfield 22, 3) := by decide +kernel
theorem dX9_advance_90 : decode cX9_advance 90 = .ok (.aload_n 0, 1) := by decide +kernel
theorem dX9_advance_91 : decode cX9_advance 91 = .ok (.getfield 22, 3) := by decide +kernel
theorem dX9_advance_94 : decode cX9_advance 94 = .ok (.bipush 97, 2) := by decide +kernel
theorem dX9_advance_96 : decode cX9_advance 96 = .ok (.if_icmp .lt 28, 3) := by decide +kernel
theorem dX9_advance_99 : decode cX9_advance 99 = .ok (.aload_n 0, 1) := by decide +kernel
theorem dX9_advance_100 : decode cX9_advance 100 = .ok (.getfield 22, 3) := by decide +kernel
theorem dX9_advance_103 : decode cX9_advance 103 = .ok (.bipush 122, 2) := by decide +kernel
theorem dX9_advance_105 : decode cX9_advance 105 = .ok (.if_icmp .gt 19, 3) := by decide +kernel
theorem dX9_advance_108 : decode cX9_advance 108 = .ok (.aload_n 0, 1) := by decide +kernel
theorem dX9_advance_109 : decode cX9_advance 109 = .ok (.bipush 97, 2) := by decide +kernel
theorem dX9_advance_111 : decode cX9_advance 111 = .ok (.bipush 122, 2) := by decide +kernel
theorem dX9_advance_113 : decode cX9_advance 113 = .ok (.invokevirtual 41, 3) := by decide +kernel
theorem dX9_advance_116 : decode cX9_advance 116 = .ok (.aload_n 0, 1) := by decide +kernel
theorem dX9_advance_117 : decode cX9_advance 117 = .ok (.iconst 2, 1) := by decide +kernel
theorem dX9_advance_118 : decode cX9_advance 118 = .ok (.putfield 19, 3) := by decide +kernel
theorem dX9_advance_121 : decode cX9_advance 121 = .ok (.goto 95, 3) := by decide +kernel
theorem dX9_advance_124 : decode cX9_advance 124 = .ok (.aload_n 0, 1) := by decide +kernel
theorem dX9_advance_125 : decode cX9_advance 125 = .ok (.getfield 22, 3) := by decide +kernel
theorem dX9_advance_128 : decode cX9_advance 128 = .ok (.bipush 48, 2) := by decide +kernel
theorem dX9_advance_130 : decode cX9_advance 130 = .ok (.if_icmp .lt 45, 3) := by decide +kernel
theorem dX9_advance_133 : decode cX9_advance 133 = .ok (.aload_n 0, 1) := by decide +kernel
theorem dX9_advance_134 : decode cX9_advance 134 = .ok (.getfield 22, 3) := by decide +kernel
theorem dX9_advance_137 : decode cX9_advance 137 = .ok (.bipush 57, 2) := by decide +kernel
theorem dX9_advance_139 : decode cX9_advance 139 = .ok (.if_icmp .gt 36, 3) := by decide +kernel
theorem dX9_advance_142 : decode cX9_advance 142 = .ok (.aload_n 0, 1) := by decide +kernel
theorem dX9_advance_143 : decode cX9_advance 143 = .ok (.bipush 48, 2) := by decide +kernel
theorem dX9_advance_145 : decode cX9_advance 145 = .ok (.bipush 57, 2) := by decide +kernel
theorem dX9_advance_147 : decode cX9_advance 147 = .ok (.invokevirtual 41, 3) := by decide +kernel
theorem dX9_advance_150 : decode cX9_advance 150 = .ok (.aload_n 0, 1) := by decide +kernel
theorem dX9_advance_151 : decode cX9_advance 151 = .ok (.aload_n 0, 1) := by decide +kernel
theorem dX9_advance_152 : decode cX9_advance 152 = .ok (.getfield 13, 3) := by decide +kernel
theorem dX9_advance_155 : decode cX9_advance 155 = .ok (.aload_n 0, 1) := by decide +kernel
theorem dX9_advance_156 : decode cX9_advance 156 = .ok (.getfield 16, 3) := by decide +kernel
theorem dX9_advance_159 : decode cX9_advance 159 = .ok (.isub, 1) := by decide +kernel
theorem dX9_advance_160 : decode cX9_advance 160 = .ok (.iconst 3, 1) := by decide +kernel
theorem dX9_advance_161 : decode cX9_advance 161 = .ok (.if_icmp .le 7, 3) := by decide +kernel
theorem dX9_advance_164 : decode cX9_advance 164 = .ok (.iconst 1, 1) := by decide +kernel
theorem dX9_advance_165 : decode cX9_advance 165 = .ok (.goto 4, 3) := by decide +kernel
theorem dX9_advance_168 : decode cX9_advance 168 = .ok (.iconst 3, 1) := by decide +kernel
theorem dX9_advance_169 : decode cX9_advance 169 = .ok (.putfield 19, 3) := by decide +kernel
theorem dX9_advance_172 : decode cX9_advance 172 = .ok (.goto 44, 3) := by decide +kernel
theorem dX9_advance_175 : decode cX9_advance 175 = .ok (.aload_n 0, 1) := by decide +kernel
theorem dX9_advance_176 : decode cX9_advance 176 = .ok (.dup, 1) := by decide +kernel
theorem dX9_advance_177 : decode cX9_advance 177 = .ok (.getfield 13, 3) := by decide +kernel
theorem dX9_advance_180 : decode cX9_advance 180 = .ok (.iconst 1, 1) := by decide +kernel
theorem dX9_advance_181 : decode cX9_advance 181 = .ok (.iadd, 1) := by decide +kernel
theorem dX9_advance_182 : decode cX9_advance 182 = .ok (.putfield 13, 3) := by decide +kernel
theorem dX9_advance_185 : decode cX9_advance 185 = .ok (.aload_n 0, 1) := by decide +kernel
theorem dX9_advance_186 : decode cX9_advance 186 = .ok (.aload_n 0, 1) := by decide +kernel
theorem dX9_advance_187 : decode cX9_advance 187 = .ok (.getfield 22, 3) := by decide +kernel
theorem dX9_advance_190 : decode cX9_advance 190 = .ok (.bipush 32, 2) := by decide +kernel
theorem dX9_advance_192 : decode cX9_advance 192 = .ok (.if_icmp .le 20, 3) := by decide +kernel
theorem dX9_advance_195 : decode cX9_advance 195 = .ok (.ldc 45, 2) := by decide +kernel
theorem dX9_advance_197 : decode cX9_advance 197 = .ok (.aload_n 0, 1) := by decide +kernel
theorem dX9_advance_198 : decode cX9_advance 198 = .ok (.getfield 22, 3) := by decide +kernel
theorem dX9_advance_201 : decode cX9_advance 201 = .ok (.i2c, 1) := by decide +kernel
theorem dX9_advance_202 : decode cX9_advance 202 = .ok (.invokevirtual 47, 3) := by decide +kernel
theorem dX9_advance_205 : decode cX9_advance 205 = .ok (.ifCond .lt 7, 3) := by decide +kernel
theorem dX9_advance_208 : decode cX9_advance 208 = .ok (.iconst 4, 1) := by decide +kernel
theorem dX9_advance_209 : decode cX9_advance 209 = .ok (.goto 4, 3) := by decide +kernel
theorem dX9_advance_212 : decode cX9_advance 212 = .ok (.iconst 1, 1) := by decide +kernel
theorem dX9_advance_213 : decode cX9_advance 213 = .ok (.putfield 19, 3) := by decide +kernel
theorem dX9_advance_216 : decode cX9_advance 216 = .ok (.return_, 1) := by decide +kernel
theorem dX9_skipRun_0 : decode cX9_skipRun 0 = .ok (.aload_n 0, 1) := by decide +kernel
theorem dX9_skipRun_1 : decode cX9_skipRun 1 = .ok (.getfield 13, 3) := by decide +kernel
theorem dX9_skipRun_4 : decode cX9_skipRun 4 = .ok (.aload_n 0, 1) := by decide +kernel
theorem dX9_skipRun_5 : decode cX9_skipRun 5 = .ok (.getfield 7, 3) := by decide +kernel
theorem dX9_skipRun_8 : decode cX9_skipRun 8 = .ok (.if_icmp .ge 42, 3) := by decide +kernel
theorem dX9_skipRun_11 : decode cX9_skipRun 11 = .ok (.aload_n 0, 1) := by decide +kernel
theorem dX9_skipRun_12 : decode cX9_skipRun 12 = .ok (.getfield 25, 3) := by decide +kernel
theorem dX9_skipRun_15 : decode cX9_skipRun 15 = .ok (.aload_n 0, 1) := by decide +kernel
theorem dX9_skipRun_16 : decode cX9_skipRun 16 = .ok (.getfield 13, 3) := by decide +kernel
theorem dX9_skipRun_19 : decode cX9_skipRun 19 = .ok (.baload, 1) := by decide +kernel
theorem dX9_skipRun_20 : decode cX9_skipRun 20 = .ok (.iload_n 1, 1) := by decide +kernel
theorem dX9_skipRun_21 : decode cX9_skipRun 21 = .ok (.if_icmp .lt 29, 3) := by decide +kernel
theorem dX9_skipRun_24 : decode cX9_skipRun 24 = .ok (.aload_n 0, 1) := by decide +kernel
theorem dX9_skipRun_25 : decode cX9_skipRun 25 = .ok (.getfield 25, 3) := by decide +kernel
theorem dX9_skipRun_28 : decode cX9_skipRun 28 = .ok (.aload_n 0, 1) := by decide +kernel
theorem dX9_skipRun_29 : decode cX9_skipRun 29 = .ok (.getfield 13, 3) := by decide +kernel
theorem dX9_skipRun_32 : decode cX9_skipRun 32 = .ok (.baload, 1) := by decide +kernel
theorem dX9_skipRun_33 : decode cX9_skipRun 33 = .ok (.iload_n 2, 1) := by decide +kernel
theorem dX9_skipRun_34 : decode cX9_skipRun 34 = .ok (.if_icmp .gt 16, 3) := by decide +kernel
theorem dX9_skipRun_37 : decode cX9_skipRun 37 = .ok (.aload_n 0, 1) := by decide +kernel
theorem dX9_skipRun_38 : decode cX9_skipRun 38 = .ok (.dup, 1) := by decide +kernel
theorem dX9_skipRun_39 : decode cX9_skipRun 39 = .ok (.getfield 13, 3) := by decide +kernel
theorem dX9_skipRun_42 : decode cX9_skipRun 42 = .ok (.iconst 1, 1) := by decide +kernel
theorem dX9_skipRun_43 : decode cX9_skipRun 43 = .ok (.iadd, 1) := by decide +kernel
theorem dX9_skipRun_44 : decode cX9_skipRun 44 = .ok (.putfield 13, 3) := by decide +kernel
theorem dX9_skipRun_47 : decode cX9_skipRun 47 = .ok (.goto (-47), 3) := by decide +kernel
theorem dX9_skipRun_50 : decode cX9_skipRun 50 = .ok (.return_, 1) := by decide +kernel
theorem dX9_start_0 : decode cX9_start 0 = .ok (.aload_n 0, 1) := by decide +kernel
theorem dX9_start_1 : decode cX9_start 1 = .ok (.getfield 16, 3) := by decide +kernel
theorem dX9_start_4 : decode cX9_start 4 = .ok (.ireturn, 1) := by decide +kernel
theorem dX9_number_0 : decode cX9_number 0 = .ok (.iconst 0, 1) := by decide +kernel
theorem dX9_number_1 : decode cX9_number 1 = .ok (.istore_n 1, 1) := by decide +kernel
theorem dX9_number_2 : decode cX9_number 2 = .ok (.aload_n 0, 1) := by decide +kernel
theorem dX9_number_3 : decode cX9_number 3 = .ok (.getfield 16, 3) := by decide +kernel
theorem dX9_number_6 : decode cX9_number 6 = .ok (.istore_n 2, 1) := by decide +kernel
theorem dX9_number_7 : decode cX9_number 7 = .ok (.iload_n 2, 1) := by decide +kernel
theorem dX9_number_8 : decode cX9_number 8 = .ok (.aload_n 0, 1) := by decide +kernel
theorem dX9_number_9 : decode cX9_number 9 = .ok (.getfield 13, 3) := by decide +kernel
theorem dX9_number_12 : decode cX9_number 12 = .ok (.if_icmp .ge 32, 3) := by decide +kernel
theorem dX9_number_15 : decode cX9_number 15 = .ok (.iload_n 2, 1) := by decide +kernel
theorem dX9_number_16 : decode cX9_number 16 = .ok (.aload_n 0, 1) := by decide +kernel
theorem dX9_number_17 : decode cX9_number 17 = .ok (.getfield 7, 3) := by decide +kernel
theorem dX9_number_20 : decode cX9_number 20 = .ok (.if_icmp .ge 24, 3) := by decide +kernel
theorem dX9_number_23 : decode cX9_number 23 = .ok (.bipush 10, 2) := by decide +kernel
theorem dX9_number_25 : decode cX9_number 25 = .ok (.iload_n 1, 1) := by decide +kernel
theorem dX9_number_26 : decode cX9_number 26 = .ok (.imul, 1) := by decide +kernel
theorem dX9_number_27 : decode cX9_number 27 = .ok (.aload_n 0, 1) := by decide +kernel
theorem dX9_number_28 : decode cX9_number 28 = .ok (.getfield 25, 3) := by decide +kernel
theorem dX9_number_31 : decode cX9_number 31 = .ok (.iload_n 2, 1) := by decide +kernel
theorem dX9_number_32 : decode cX9_number 32 = .ok (.baload, 1) := by decide +kernel
theorem dX9_number_33 : decode cX9_number 33 = .ok (.iadd, 1) := by decide +kernel
theorem dX9_number_34 : decode cX9_number 34 = .ok (.bipush 48, 2) := by decide +kernel
theorem dX9_number_36 : decode cX9_number 36 = .ok (.isub, 1) := by decide +kernel
theorem dX9_number_37 : decode cX9_number 37 = .ok (.istore_n 1, 1) := by decide +kernel
theorem dX9_number_38 : decode cX9_number 38 = .ok (.iinc 2 1, 3) := by decide +kernel
theorem dX9_number_41 : decode cX9_number 41 = .ok (.goto (-34), 3) := by decide +kernel
theorem dX9_number_44 : decode cX9_number 44 = .ok (.iload_n 1, 1) := by decide +kernel
theorem dX9_number_45 : decode cX9_number 45 = .ok (.ireturn, 1) := by decide +kernel
theorem dX9_isEnd_0 : decode cX9_isEnd 0 = .ok (.aload_n 0, 1) := by decide +kernel
theorem dX9_isEnd_1 : decode cX9_isEnd 1 = .ok (.getfield 19, 3) := by decide +kernel
theorem dX9_isEnd_4 : decode cX9_isEnd 4 = .ok (.ifCond .ne 7, 3) := by decide +kernel
theorem dX9_isEnd_7 : decode cX9_isEnd 7 = .ok (.iconst 1, 1) := by decide +kernel
theorem dX9_isEnd_8 : decode cX9_isEnd 8 = .ok (.goto 4, 3) := by decide +kernel
theorem dX9_isEnd_11 : decode cX9_isEnd 11 = .ok (.iconst 0, 1) := by decide +kernel
theorem dX9_isEnd_12 : decode cX9_isEnd 12 = .ok (.ireturn, 1) := by decide +kernel
theorem dX9_isBad_0 : decode cX9_isBad 0 = .ok (.aload_n 0, 1) := by decide +kernel
theorem dX9_isBad_1 : decode cX9_isBad 1 = .ok (.getfield 19, 3) := by decide +kernel
theorem dX9_isBad_4 : decode cX9_isBad 4 = .ok (.iconst 1, 1) := by decide +kernel
theorem dX9_isBad_5 : decode cX9_isBad 5 = .ok (.if_icmp .ne 7, 3) := by decide +kernel
theorem dX9_isBad_8 : decode cX9_isBad 8 = .ok (.iconst 1, 1) := by decide +kernel
theorem dX9_isBad_9 : decode cX9_isBad 9 = .ok (.goto 4, 3) := by decide +kernel
theorem dX9_isBad_12 : decode cX9_isBad 12 = .ok (.iconst 0, 1) := by decide +kernel
theorem dX9_isBad_13 : decode cX9_isBad 13 = .ok (.ireturn, 1) := by decide +kernel
theorem dX9_isNumber_0 : decode cX9_isNumber 0 = .ok (.aload_n 0, 1) := by decide +kernel
theorem dX9_isNumber_1 : decode cX9_isNumber 1 = .ok (.getfield 19, 3) := by decide +kernel
theorem dX9_isNumber_4 : decode cX9_isNumber 4 = .ok (.iconst 3, 1) := by decide +kernel
theorem dX9_isNumber_5 : decode cX9_isNumber 5 = .ok (.if_icmp .ne 7, 3) := by decide +kernel
theorem dX9_isNumber_8 : decode cX9_isNumber 8 = .ok (.iconst 1, 1) := by decide +kernel
theorem dX9_isNumber_9 : decode cX9_isNumber 9 = .ok (.goto 4, 3) := by decide +kernel
theorem dX9_isNumber_12 : decode cX9_isNumber 12 = .ok (.iconst 0, 1) := by decide +kernel
theorem dX9_isNumber_13 : decode cX9_isNumber 13 = .ok (.ireturn, 1) := by decide +kernel
theorem dX9_isSign_0 : decode cX9_isSign 0 = .ok (.aload_n 0, 1) := by decide +kernel
theorem dX9_isSign_1 : decode cX9_isSign 1 = .ok (.getfield 19, 3) := by decide +kernel
theorem dX9_isSign_4 : decode cX9_isSign 4 = .ok (.iconst 4, 1) := by decide +kernel
theorem dX9_isSign_5 : decode cX9_isSign 5 = .ok (.if_icmp .ne 15, 3) := by decide +kernel
theorem dX9_isSign_8 : decode cX9_isSign 8 = .ok (.aload_n 0, 1) := by decide +kernel
theorem dX9_isSign_9 : decode cX9_isSign 9 = .ok (.getfield 22, 3) := by decide +kernel
theorem dX9_isSign_12 : decode cX9_isSign 12 = .ok (.iload_n 1, 1) := by decide +kernel
theorem dX9_isSign_13 : decode cX9_isSign 13 = .ok (.if_icmp .ne 7, 3) := by decide +kernel
theorem dX9_isSign_16 : decode cX9_isSign 16 = .ok (.iconst 1, 1) := by decide +kernel
theorem dX9_isSign_17 : decode cX9_isSign 17 = .ok (.goto 4, 3) := by decide +kernel
theorem dX9_isSign_20 : decode cX9_isSign 20 = .ok (.iconst 0, 1) := by decide +kernel
theorem dX9_isSign_21 : decode cX9_isSign 21 = .ok (.ireturn, 1) := by decide +kernel
theorem dX9_isWord_0 : decode cX9_isWord 0 = .ok (.aload_n 0, 1) := by decide +kernel
theorem dX9_isWord_1 : decode cX9_isWord 1 = .ok (.getfield 19, 3) := by decide +kernel
theorem dX9_isWord_4 : decode cX9_isWord 4 = .ok (.iconst 2, 1) := by decide +kernel
theorem dX9_isWord_5 : decode cX9_isWord 5 = .ok (.if_icmp .ne 19, 3) := by decide +kernel
theorem dX9_isWord_8 : decode cX9_isWord 8 = .ok (.aload_n 0, 1) := by decide +kernel
theorem dX9_isWord_9 : decode cX9_isWord 9 = .ok (.getfield 13, 3) := by decide +kernel
theorem dX9_isWord_12 : decode cX9_isWord 12 = .ok (.aload_n 0, 1) := by decide +kernel
theorem dX9_isWord_13 : decode cX9_isWord 13 = .ok (.getfield 16, 3) := by decide +kernel
theorem dX9_isWord_16 : decode cX9_isWord 16 = .ok (.isub, 1) := by decide +kernel
theorem dX9_isWord_17 : decode cX9_isWord 17 = .ok (.aload_n 1, 1) := by decide +kernel
theorem dX9_isWord_18 : decode cX9_isWord 18 = .ok (.invokevirtual 53, 3) := by decide +kernel
theorem dX9_isWord_21 : decode cX9_isWord 21 = .ok (.if_icmp .eq 5, 3) := by decide +kernel
theorem dX9_isWord_24 : decode cX9_isWord 24 = .ok (.iconst 0, 1) := by decide +kernel
theorem dX9_isWord_25 : decode cX9_isWord 25 = .ok (.ireturn, 1) := by decide +kernel
theorem dX9_isWord_26 : decode cX9_isWord 26 = .ok (.iconst 0, 1) := by decide +kernel
theorem dX9_isWord_27 : decode cX9_isWord 27 = .ok (.istore_n 2, 1) := by decide +kernel
theorem dX9_isWord_28 : decode cX9_isWord 28 = .ok (.iload_n 2, 1) := by decide +kernel
theorem dX9_isWord_29 : decode cX9_isWord 29 = .ok (.aload_n 1, 1) := by decide +kernel
theorem dX9_isWord_30 : decode cX9_isWord 30 = .ok (.invokevirtual 53, 3) := by decide +kernel
theorem dX9_isWord_33 : decode cX9_isWord 33 = .ok (.if_icmp .ge 43, 3) := by decide +kernel
theorem dX9_isWord_36 : decode cX9_isWord 36 = .ok (.aload_n 0, 1) := by decide +kernel
theorem dX9_isWord_37 : decode cX9_isWord 37 = .ok (.getfield 16, 3) := by decide +kernel
theorem dX9_isWord_40 : decode cX9_isWord 40 = .ok (.iload_n 2, 1) := by decide +kernel
theorem dX9_isWord_41 : decode cX9_isWord 41 = .ok (.iadd, 1) := by decide +kernel
theorem dX9_isWord_42 : decode cX9_isWord 42 = .ok (.aload_n 0, 1) := by decide +kernel
theorem dX9_isWord_43 : decode cX9_isWord 43 = .ok (.getfield 7, 3) := by decide +kernel
theorem dX9_isWord_46 : decode cX9_isWord 46 = .ok (.if_icmp .ge 22, 3) := by decide +kernel
theorem dX9_isWord_49 : decode cX9_isWord 49 = .ok (.aload_n 0, 1) := by decide +kernel
theorem dX9_isWord_50 : decode cX9_isWord 50 = .ok (.getfield 25, 3) := by decide +kernel
theorem dX9_isWord_53 : decode cX9_isWord 53 = .ok (.aload_n 0, 1) := by decide +kernel
theorem dX9_isWord_54 : decode cX9_isWord 54 = .ok (.getfield 16, 3) := by decide +kernel
theorem dX9_isWord_57 : decode cX9_isWord 57 = .ok (.iload_n 2, 1) := by decide +kernel
theorem dX9_isWord_58 : decode cX9_isWord 58 = .ok (.iadd, 1) := by decide +kernel
theorem dX9_isWord_59 : decode cX9_isWord 59 = .ok (.baload, 1) := by decide +kernel
theorem dX9_isWord_60 : decode cX9_isWord 60 = .ok (.aload_n 1, 1) := by decide +kernel
theorem dX9_isWord_61 : decode cX9_isWord 61 = .ok (.iload_n 2, 1) := by decide +kernel
theorem dX9_isWord_62 : decode cX9_isWord 62 = .ok (.invokevirtual 56, 3) := by decide +kernel
theorem dX9_isWord_65 : decode cX9_isWord 65 = .ok (.if_icmp .eq 5, 3) := by decide +kernel
theorem dX9_isWord_68 : decode cX9_isWord 68 = .ok (.iconst 0, 1) := by decide +kernel
theorem dX9_isWord_69 : decode cX9_isWord 69 = .ok (.ireturn, 1) := by decide +kernel
theorem dX9_isWord_70 : decode cX9_isWord 70 = .ok (.iinc 2 1, 3) := by decide +kernel
theorem dX9_isWord_73 : decode cX9_isWord 73 = .ok (.goto (-45), 3) := by decide +kernel
theorem dX9_isWord_76 : decode cX9_isWord 76 = .ok (.iconst 1, 1) := by decide +kernel
theorem dX9_isWord_77 : decode cX9_isWord 77 = .ok (.ireturn, 1) := by decide +kernel
theorem dX10_init_0 : decode cX10_init 0 = .ok (.aload_n 0, 1) := by decide +kernel
theorem dX10_init_1 : decode cX10_init 1 = .ok (.invokespecial 3, 3) := by decide +kernel
theorem dX10_init_4 : decode cX10_init 4 = .ok (.aload_n 0, 1) := by decide +kernel
theorem dX10_init_5 : decode cX10_init 5 = .ok (.bipush 30, 2) := by decide +kernel
theorem dX10_init_7 : decode cX10_init 7 = .ok (.newarray .long, 2) := by decide +kernel
theorem dX10_init_9 : decode cX10_init 9 = .ok (.putfield 9, 3) := by decide +kernel
theorem dX10_init_12 : decode cX10_init 12 = .ok (.aload_n 0, 1) := by decide +kernel
theorem dX10_init_13 : decode cX10_init 13 = .ok (.iconst 0, 1) := by decide +kernel
theorem dX10_init_14 : decode cX10_init 14 = .ok (.putfield 15, 3) := by decide +kernel
theorem dX10_init_17 : decode cX10_init 17 = .ok (.aload_n 0, 1) := by decide +kernel
theorem dX10_init_18 : decode cX10_init 18 = .ok (.iconst (-1), 1) := by decide +kernel
theorem dX10_init_19 : decode cX10_init 19 = .ok (.putfield 19, 3) := by decide +kernel
theorem dX10_init_22 : decode cX10_init 22 = .ok (.return_, 1) := by decide +kernel
theorem dX10_isMissing_0 : decode cX10_isMissing 0 = .ok (.aload_n 0, 1) := by decide +kernel
theorem dX10_isMissing_1 : decode cX10_isMissing 1 = .ok (.getfield 19, 3) := by decide +kernel
theorem dX10_isMissing_4 : decode cX10_isMissing 4 = .ok (.iconst (-1), 1) := by decide +kernel
theorem dX10_isMissing_5 : decode cX10_isMissing 5 = .ok (.if_icmp .ne 7, 3) := by decide +kernel
theorem dX10_isMissing_8 : decode cX10_isMissing 8 = .ok (.iconst 1, 1) := by decide +kernel
theorem dX10_isMissing_9 : decode cX10_isMissing 9 = .ok (.goto 4, 3) := by decide +kernel
theorem dX10_isMissing_12 : decode cX10_isMissing 12 = .ok (.iconst 0, 1) := by decide +kernel
theorem dX10_isMissing_13 : decode cX10_isMissing 13 = .ok (.ireturn, 1) := by decide +kernel
theorem dX10_many_0 : decode cX10_many 0 = .ok (.aload_n 0, 1) := by decide +kernel
theorem dX10_many_1 : decode cX10_many 1 = .ok (.getfield 19, 3) := by decide +kernel
theorem dX10_many_4 : decode cX10_many 4 = .ok (.iconst 0, 1) := by decide +kernel
theorem dX10_many_5 : decode cX10_many 5 = .ok (.invokestatic 22, 3) := by decide +kernel
theorem dX10_many_8 : decode cX10_many 8 = .ok (.ireturn, 1) := by decide +kernel
theorem dX10_makeOf_0 : decode cX10_makeOf 0 = .ok (.aload_n 0, 1) := by decide +kernel
theorem dX10_makeOf_1 : decode cX10_makeOf 1 = .ok (.getfield 9, 3) := by decide +kernel
theorem dX10_makeOf_4 : decode cX10_makeOf 4 = .ok (.lconst 0, 1) := by decide +kernel
theorem dX10_makeOf_5 : decode cX10_makeOf 5 = .ok (.invokestatic 28, 3) := by decide +kernel
theorem dX10_makeOf_8 : decode cX10_makeOf 8 = .ok (.aload_n 0, 1) := by decide +kernel
theorem dX10_makeOf_9 : decode cX10_makeOf 9 = .ok (.iload_n 1, 1) := by decide +kernel
theorem dX10_makeOf_10 : decode cX10_makeOf 10 = .ok (.putfield 15, 3) := by decide +kernel
theorem dX10_makeOf_13 : decode cX10_makeOf 13 = .ok (.aload_n 0, 1) := by decide +kernel
theorem dX10_makeOf_14 : decode cX10_makeOf 14 = .ok (.iload_n 2, 1) := by decide +kernel
theorem dX10_makeOf_15 : decode cX10_makeOf 15 = .ok (.bipush 30, 2) := by decide +kernel
theorem dX10_makeOf_17 : decode cX10_makeOf 17 = .ok (.invokestatic 34, 3) := by decide +kernel
theorem dX10_makeOf_20 : decode cX10_makeOf 20 = .ok (.putfield 19, 3) := by decide +kernel
theorem dX10_makeOf_23 : decode cX10_makeOf 23 = .ok (.return_, 1) := by decide +kernel
theorem dX10_at_0 : decode cX10_at 0 = .ok (.iload_n 1, 1) := by decide +kernel
theorem dX10_at_1 : decode cX10_at 1 = .ok (.ifCond .lt 20, 3) := by decide +kernel
theorem dX10_at_4 : decode cX10_at 4 = .ok (.iload_n 1, 1) := by decide +kernel
theorem dX10_at_5 : decode cX10_at 5 = .ok (.aload_n 0, 1) := by decide +kernel
theorem dX10_at_6 : decode cX10_at 6 = .ok (.invokevirtual 37, 3) := by decide +kernel
theorem dX10_at_9 : decode cX10_at 9 = .ok (.if_icmp .ge 12, 3) := by decide +kernel
theorem dX10_at_12 : decode cX10_at 12 = .ok (.aload_n 0, 1) := by decide +kernel
theorem dX10_at_13 : decode cX10_at 13 = .ok (.getfield 9, 3) := by decide +kernel
theorem dX10_at_16 : decode cX10_at 16 = .ok (.iload_n 1, 1) := by decide +kernel
theorem dX10_at_17 : decode cX10_at 17 = .ok (.laload, 1) := by decide +kernel
theorem dX10_at_18 : decode cX10_at 18 = .ok (.goto 4, 3) := by decide +kernel
theorem dX10_at_21 : decode cX10_at 21 = .ok (.lconst 0, 1) := by decide +kernel
theorem dX10_at_22 : decode cX10_at 22 = .ok (.lreturn, 1) := by decide +kernel
theorem dX10_put_0 : decode cX10_put 0 = .ok (.iload_n 1, 1) := by decide +kernel
theorem dX10_put_1 : decode cX10_put 1 = .ok (.ifCond .lt 22, 3) := by decide +kernel
theorem dX10_put_4 : decode cX10_put 4 = .ok (.iload_n 1, 1) := by decide +kernel
theorem dX10_put_5 : decode cX10_put 5 = .ok (.aload_n 0, 1) := by decide +kernel
theorem dX10_put_6 : decode cX10_put 6 = .ok (.invokevirtual 37, 3) := by decide +kernel
theorem dX10_put_9 : decode cX10_put 9 = .ok (.if_icmp .ge 14, 3) := by decide +kernel
theorem dX10_put_12 : decode cX10_put 12 = .ok (.aload_n 0, 1) := by decide +kernel
theorem dX10_put_13 : decode cX10_put 13 = .ok (.getfield 9, 3) := by decide +kernel
theorem dX10_put_16 : decode cX10_put 16 = .ok (.iload_n 1, 1) := by decide +kernel
theorem dX10_put_17 : decode cX10_put 17 = .ok (.aload_n 0, 1) := by decide +kernel
theorem dX10_put_18 : decode cX10_put 18 = .ok (.lload_n 2, 1) := by decide +kernel
theorem dX10_put_19 : decode cX10_put 19 = .ok (.invokevirtual 40, 3) := by decide +kernel
theorem dX10_put_22 : decode cX10_put 22 = .ok (.lastore, 1) := by decide +kernel
theorem dX10_put_23 : decode cX10_put 23 = .ok (.return_, 1) := by decide +kernel
theorem dX10_cut_0 : decode cX10_cut 0 = .ok (.aload_n 0, 1) := by decide +kernel
theorem dX10_cut_1 : decode cX10_cut 1 = .ok (.getfield 15, 3) := by decide +kernel
theorem dX10_cut_4 : decode cX10_cut 4 = .ok (.tableswitch 42 0 2 #[28, 33, 38], 28) := by decide +kernel
theorem dX10_cut_32 : decode cX10_cut 32 = .ok (.lload_n 1, 1) := by decide +kernel
theorem dX10_cut_33 : decode cX10_cut 33 = .ok (.l2i, 1) := by decide +kernel
theorem dX10_cut_34 : decode cX10_cut 34 = .ok (.i2b, 1) := by decide +kernel
theorem dX10_cut_35 : decode cX10_cut 35 = .ok (.i2l, 1) := by decide +kernel
theorem dX10_cut_36 : decode cX10_cut 36 = .ok (.lreturn, 1) := by decide +kernel
theorem dX10_cut_37 : decode cX10_cut 37 = .ok (.lload_n 1, 1) := by decide +kernel
theorem dX10_cut_38 : decode cX10_cut 38 = .ok (.l2i, 1) := by decide +kernel
theorem dX10_cut_39 : decode cX10_cut 39 = .ok (.i2s, 1) := by decide +kernel
theorem dX10_cut_40 : decode cX10_cut 40 = .ok (.i2l, 1) := by decide +kernel
theorem dX10_cut_41 : decode cX10_cut 41 = .ok (.lreturn, 1) := by decide +kernel
theorem dX10_cut_42 : decode cX10_cut 42 = .ok (.lload_n 1, 1) := by decide +kernel
theorem dX10_cut_43 : decode cX10_cut 43 = .ok (.l2i, 1) := by decide +kernel
theorem dX10_cut_44 : decode cX10_cut 44 = .ok (.i2l, 1) := by decide +kernel
theorem dX10_cut_45 : decode cX10_cut 45 = .ok (.lreturn, 1) := by decide +kernel
theorem dX10_cut_46 : decode cX10_cut 46 = .ok (.lload_n 1, 1) := by decide +kernel
theorem dX10_cut_47 : decode cX10_cut 47 = .ok (.lreturn, 1) := by decide +kernel
