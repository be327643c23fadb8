theorem dX11_init_0 : decode cX11_init 0 = .ok (.aload_n 0, 1) := by decide +kernel
theorem dX11_init_1 : decode cX11_init 1 = .ok (.invokespecial 3, 3) := by decide +kernel
theorem dX11_init_4 : decode cX11_init 4 = .ok (.aload_n 0, 1) := by decide +kernel
theorem dX11_init_5 : decode cX11_init 5 = .ok (.sipush 900, 3) := by decide +kernel
theorem dX11_init_8 : decode cX11_init 8 = .ok (.newarray .byte, 2) := by decide +kernel
theorem dX11_init_10 : decode cX11_init 10 = .ok (.putfield 9, 3) := by decide +kernel
theorem dX11_init_13 : decode cX11_init 13 = .ok (.aload_n 0, 1) := by decide +kernel
theorem dX11_init_14 : decode cX11_init 14 = .ok (.iconst 0, 1) := by decide +kernel
theorem dX11_init_15 : decode cX11_init 15 = .ok (.putfield 13, 3) := by decide +kernel
theorem dX11_init_18 : decode cX11_init 18 = .ok (.aload_n 0, 1) := by decide +kernel
theorem dX11_init_19 : decode cX11_init 19 = .ok (.iconst 0, 1) := by decide +kernel
theorem dX11_init_20 : decode cX11_init 20 = .ok (.putfield 17, 3) := by decide +kernel
theorem dX11_init_23 : decode cX11_init 23 = .ok (.aload_n 0, 1) := by decide +kernel
theorem dX11_init_24 : decode cX11_init 24 = .ok (.iconst (-1), 1) := by decide +kernel
theorem dX11_init_25 : decode cX11_init 25 = .ok (.putfield 20, 3) := by decide +kernel
theorem dX11_init_28 : decode cX11_init 28 = .ok (.aload_n 0, 1) := by decide +kernel
theorem dX11_init_29 : decode cX11_init 29 = .ok (.new 23, 3) := by decide +kernel
theorem dX11_init_32 : decode cX11_init 32 = .ok (.dup, 1) := by decide +kernel
theorem dX11_init_33 : decode cX11_init 33 = .ok (.invokespecial 25, 3) := by decide +kernel
theorem dX11_init_36 : decode cX11_init 36 = .ok (.putfield 26, 3) := by decide +kernel
theorem dX11_init_39 : decode cX11_init 39 = .ok (.aload_n 0, 1) := by decide +kernel
theorem dX11_init_40 : decode cX11_init 40 = .ok (.iconst 3, 1) := by decide +kernel
theorem dX11_init_41 : decode cX11_init 41 = .ok (.anewarray 30, 3) := by decide +kernel
theorem dX11_init_44 : decode cX11_init 44 = .ok (.putfield 32, 3) := by decide +kernel
theorem dX11_init_47 : decode cX11_init 47 = .ok (.aload_n 0, 1) := by decide +kernel
theorem dX11_init_48 : decode cX11_init 48 = .ok (.iconst 3, 1) := by decide +kernel
theorem dX11_init_49 : decode cX11_init 49 = .ok (.anewarray 23, 3) := by decide +kernel
theorem dX11_init_52 : decode cX11_init 52 = .ok (.putfield 36, 3) := by decide +kernel
theorem dX11_init_55 : decode cX11_init 55 = .ok (.aload_n 0, 1) := by decide +kernel
theorem dX11_init_56 : decode cX11_init 56 = .ok (.iconst 4, 1) := by decide +kernel
theorem dX11_init_57 : decode cX11_init 57 = .ok (.anewarray 40, 3) := by decide +kernel
theorem dX11_init_60 : decode cX11_init 60 = .ok (.putfield 42, 3) := by decide +kernel
theorem dX11_init_63 : decode cX11_init 63 = .ok (.aload_n 0, 1) := by decide +kernel
theorem dX11_init_64 : decode cX11_init 64 = .ok (.new 46, 3) := by decide +kernel
theorem dX11_init_67 : decode cX11_init 67 = .ok (.dup, 1) := by decide +kernel
theorem dX11_init_68 : decode cX11_init 68 = .ok (.invokespecial 48, 3) := by decide +kernel
theorem dX11_init_71 : decode cX11_init 71 = .ok (.putfield 49, 3) := by decide +kernel
theorem dX11_init_74 : decode cX11_init 74 = .ok (.aload_n 0, 1) := by decide +kernel
theorem dX11_init_75 : decode cX11_init 75 = .ok (.new 53, 3) := by decide +kernel
theorem dX11_init_78 : decode cX11_init 78 = .ok (.dup, 1) := by decide +kernel
theorem dX11_init_79 : decode cX11_init 79 = .ok (.invokespecial 55, 3) := by decide +kernel
theorem dX11_init_82 : decode cX11_init 82 = .ok (.putfield 56, 3) := by decide +kernel
theorem dX11_init_85 : decode cX11_init 85 = .ok (.aload_n 0, 1) := by decide +kernel
theorem dX11_init_86 : decode cX11_init 86 = .ok (.new 60, 3) := by decide +kernel
theorem dX11_init_89 : decode cX11_init 89 = .ok (.dup, 1) := by decide +kernel
theorem dX11_init_90 : decode cX11_init 90 = .ok (.invokespecial 62, 3) := by decide +kernel
theorem dX11_init_93 : decode cX11_init 93 = .ok (.putfield 63, 3) := by decide +kernel
theorem dX11_init_96 : decode cX11_init 96 = .ok (.aload_n 0, 1) := by decide +kernel
theorem dX11_init_97 : decode cX11_init 97 = .ok (.bipush 8, 2) := by decide +kernel
theorem dX11_init_99 : decode cX11_init 99 = .ok (.newarray .int, 2) := by decide +kernel
theorem dX11_init_101 : decode cX11_init 101 = .ok (.putfield 67, 3) := by decide +kernel
theorem dX11_init_104 : decode cX11_init 104 = .ok (.aload_n 0, 1) := by decide +kernel
theorem dX11_init_105 : decode cX11_init 105 = .ok (.bipush 8, 2) := by decide +kernel
theorem dX11_init_107 : decode cX11_init 107 = .ok (.newarray .int, 2) := by decide +kernel
theorem dX11_init_109 : decode cX11_init 109 = .ok (.putfield 71, 3) := by decide +kernel
theorem dX11_init_112 : decode cX11_init 112 = .ok (.aload_n 0, 1) := by decide +kernel
theorem dX11_init_113 : decode cX11_init 113 = .ok (.new 74, 3) := by decide +kernel
theorem dX11_init_116 : decode cX11_init 116 = .ok (.dup, 1) := by decide +kernel
theorem dX11_init_117 : decode cX11_init 117 = .ok (.new 76, 3) := by decide +kernel
theorem dX11_init_120 : decode cX11_init 120 = .ok (.dup, 1) := by decide +kernel
theorem dX11_init_121 : decode cX11_init 121 = .ok (.aload_n 0, 1) := by decide +kernel
theorem dX11_init_122 : decode cX11_init 122 = .ok (.getfield 9, 3) := by decide +kernel
theorem dX11_init_125 : decode cX11_init 125 = .ok (.invokespecial 78, 3) := by decide +kernel
theorem dX11_init_128 : decode cX11_init 128 = .ok (.invokespecial 81, 3) := by decide +kernel
theorem dX11_init_131 : decode cX11_init 131 = .ok (.putfield 84, 3) := by decide +kernel
theorem dX11_init_134 : decode cX11_init 134 = .ok (.aload_n 0, 1) := by decide +kernel
theorem dX11_init_135 : decode cX11_init 135 = .ok (.new 30, 3) := by decide +kernel
theorem dX11_init_138 : decode cX11_init 138 = .ok (.dup, 1) := by decide +kernel
theorem dX11_init_139 : decode cX11_init 139 = .ok (.new 88, 3) := by decide +kernel
theorem dX11_init_142 : decode cX11_init 142 = .ok (.dup, 1) := by decide +kernel
theorem dX11_init_143 : decode cX11_init 143 = .ok (.aload_n 0, 1) := by decide +kernel
theorem dX11_init_144 : decode cX11_init 144 = .ok (.getfield 84, 3) := by decide +kernel
theorem dX11_init_147 : decode cX11_init 147 = .ok (.invokespecial 90, 3) := by decide +kernel
theorem dX11_init_150 : decode cX11_init 150 = .ok (.invokespecial 93, 3) := by decide +kernel
theorem dX11_init_153 : decode cX11_init 153 = .ok (.putfield 96, 3) := by decide +kernel
theorem dX11_init_156 : decode cX11_init 156 = .ok (.aload_n 0, 1) := by decide +kernel
theorem dX11_init_157 : decode cX11_init 157 = .ok (.new 30, 3) := by decide +kernel
theorem dX11_init_160 : decode cX11_init 160 = .ok (.dup, 1) := by decide +kernel
theorem dX11_init_161 : decode cX11_init 161 = .ok (.aload_n 0, 1) := by decide +kernel
theorem dX11_init_162 : decode cX11_init 162 = .ok (.getfield 96, 3) := by decide +kernel
theorem dX11_init_165 : decode cX11_init 165 = .ok (.getfield 100, 3) := by decide +kernel
theorem dX11_init_168 : decode cX11_init 168 = .ok (.invokespecial 93, 3) := by decide +kernel
theorem dX11_init_171 : decode cX11_init 171 = .ok (.putfield 104, 3) := by decide +kernel
theorem dX11_init_174 : decode cX11_init 174 = .ok (.iconst 0, 1) := by decide +kernel
theorem dX11_init_175 : decode cX11_init 175 = .ok (.istore_n 1, 1) := by decide +kernel
theorem dX11_init_176 : decode cX11_init 176 = .ok (.iload_n 1, 1) := by decide +kernel
theorem dX11_init_177 : decode cX11_init 177 = .ok (.iconst 4, 1) := by decide +kernel
theorem dX11_init_178 : decode cX11_init 178 = .ok (.if_icmp .ge 22, 3) := by decide +kernel
theorem dX11_init_181 : decode cX11_init 181 = .ok (.aload_n 0, 1) := by decide +kernel
theorem dX11_init_182 : decode cX11_init 182 = .ok (.getfield 42, 3) := by decide +kernel
theorem dX11_init_185 : decode cX11_init 185 = .ok (.iload_n 1, 1) := by decide +kernel
theorem dX11_init_186 : decode cX11_init 186 = .ok (.new 40, 3) := by decide +kernel
theorem dX11_init_189 : decode cX11_init 189 = .ok (.dup, 1) := by decide +kernel
theorem dX11_init_190 : decode cX11_init 190 = .ok (.invokespecial 107, 3) := by decide +kernel
theorem dX11_init_193 : decode cX11_init 193 = .ok (.aastore, 1) := by decide +kernel
theorem dX11_init_194 : decode cX11_init 194 = .ok (.iinc 1 1, 3) := by decide +kernel
theorem dX11_init_197 : decode cX11_init 197 = .ok (.goto (-21), 3) := by decide +kernel
theorem dX11_init_200 : decode cX11_init 200 = .ok (.return_, 1) := by decide +kernel
theorem dX11_feed_0 : decode cX11_feed 0 = .ok (.aload_n 0, 1) := by decide +kernel
theorem dX11_feed_1 : decode cX11_feed 1 = .ok (.getfield 13, 3) := by decide +kernel
theorem dX11_feed_4 : decode cX11_feed 4 = .ok (.bipush 20, 2) := by decide +kernel
theorem dX11_feed_6 : decode cX11_feed 6 = .ok (.iadd, 1) := by decide +kernel
theorem dX11_feed_7 : decode cX11_feed 7 = .ok (.sipush 900, 3) := by decide +kernel
theorem dX11_feed_10 : decode cX11_feed 10 = .ok (.if_icmp .le 5, 3) := by decide +kernel
theorem dX11_feed_13 : decode cX11_feed 13 = .ok (.iconst (-1), 1) := by decide +kernel
theorem dX11_feed_14 : decode cX11_feed 14 = .ok (.ireturn, 1) := by decide +kernel
theorem dX11_feed_15 : decode cX11_feed 15 = .ok (.aload_n 0, 1) := by decide +kernel
theorem dX11_feed_16 : decode cX11_feed 16 = .ok (.iload_n 1, 1) := by decide +kernel
theorem dX11_feed_17 : decode cX11_feed 17 = .ok (.invokevirtual 108, 3) := by decide +kernel
theorem dX11_feed_20 : decode cX11_feed 20 = .ok (.aload_n 0, 1) := by decide +kernel
theorem dX11_feed_21 : decode cX11_feed 21 = .ok (.iload_n 2, 1) := by decide +kernel
theorem dX11_feed_22 : decode cX11_feed 22 = .ok (.invokevirtual 108, 3) := by decide +kernel
theorem dX11_feed_25 : decode cX11_feed 25 = .ok (.aload_n 0, 1) := by decide +kernel
theorem dX11_feed_26 : decode cX11_feed 26 = .ok (.iload_n 3, 1) := by decide +kernel
theorem dX11_feed_27 : decode cX11_feed 27 = .ok (.invokevirtual 108, 3) := by decide +kernel
theorem dX11_feed_30 : decode cX11_feed 30 = .ok (.aload_n 0, 1) := by decide +kernel
theorem dX11_feed_31 : decode cX11_feed 31 = .ok (.iload 4, 2) := by decide +kernel
theorem dX11_feed_33 : decode cX11_feed 33 = .ok (.invokevirtual 108, 3) := by decide +kernel
theorem dX11_feed_36 : decode cX11_feed 36 = .ok (.aload_n 0, 1) := by decide +kernel
theorem dX11_feed_37 : decode cX11_feed 37 = .ok (.iload 5, 2) := by decide +kernel
theorem dX11_feed_39 : decode cX11_feed 39 = .ok (.invokevirtual 108, 3) := by decide +kernel
theorem dX11_feed_42 : decode cX11_feed 42 = .ok (.aload_n 0, 1) := by decide +kernel
theorem dX11_feed_43 : decode cX11_feed 43 = .ok (.getfield 13, 3) := by decide +kernel
theorem dX11_feed_46 : decode cX11_feed 46 = .ok (.ireturn, 1) := by decide +kernel
theorem dX11_putOnTape_0 : decode cX11_putOnTape 0 = .ok (.bipush 24, 2) := by decide +kernel
theorem dX11_putOnTape_2 : decode cX11_putOnTape 2 = .ok (.istore_n 2, 1) := by decide +kernel
theorem dX11_putOnTape_3 : decode cX11_putOnTape 3 = .ok (.iload_n 2, 1) := by decide +kernel
theorem dX11_putOnTape_4 : decode cX11_putOnTape 4 = .ok (.ifCond .lt 49, 3) := by decide +kernel
theorem dX11_putOnTape_7 : decode cX11_putOnTape 7 = .ok (.aload_n 0, 1) := by decide +kernel
theorem dX11_putOnTape_8 : decode cX11_putOnTape 8 = .ok (.getfield 13, 3) := by decide +kernel
theorem dX11_putOnTape_11 : decode cX11_putOnTape 11 = .ok (.ifCond .lt 36, 3) := by decide +kernel
theorem dX11_putOnTape_14 : decode cX11_putOnTape 14 = .ok (.aload_n 0, 1) := by decide +kernel
theorem dX11_putOnTape_15 : decode cX11_putOnTape 15 = .ok (.getfield 13, 3) := by decide +kernel
theorem dX11_putOnTape_18 : decode cX11_putOnTape 18 = .ok (.sipush 900, 3) := by decide +kernel
theorem dX11_putOnTape_21 : decode cX11_putOnTape 21 = .ok (.if_icmp .ge 26, 3) := by decide +kernel
theorem dX11_putOnTape_24 : decode cX11_putOnTape 24 = .ok (.aload_n 0, 1) := by decide +kernel
theorem dX11_putOnTape_25 : decode cX11_putOnTape 25 = .ok (.getfield 9, 3) := by decide +kernel
theorem dX11_putOnTape_28 : decode cX11_putOnTape 28 = .ok (.aload_n 0, 1) := by decide +kernel
theorem dX11_putOnTape_29 : decode cX11_putOnTape 29 = .ok (.getfield 13, 3) := by decide +kernel
theorem dX11_putOnTape_32 : decode cX11_putOnTape 32 = .ok (.iload_n 1, 1) := by decide +kernel
theorem dX11_putOnTape_33 : decode cX11_putOnTape 33 = .ok (.iload_n 2, 1) := by decide +kernel
theorem dX11_putOnTape_34 : decode cX11_putOnTape 34 = .ok (.ishr, 1) := by decide +kernel
theorem dX11_putOnTape_35 : decode cX11_putOnTape 35 = .ok (.i2b, 1) := by decide +kernel
theorem dX11_putOnTape_36 : decode cX11_putOnTape 36 = .ok (.bastore, 1) := by decide +kernel
theorem dX11_putOnTape_37 : decode cX11_putOnTape 37 = .ok (.aload_n 0, 1) := by decide +kernel
theorem dX11_putOnTape_38 : decode cX11_putOnTape 38 = .ok (.dup, 1) := by decide +kernel
theorem dX11_putOnTape_39 : decode cX11_putOnTape 39 = .ok (.getfield 13, 3) := by decide +kernel
theorem dX11_putOnTape_42 : decode cX11_putOnTape 42 = .ok (.iconst 1, 1) := by decide +kernel
theorem dX11_putOnTape_43 : decode cX11_putOnTape 43 = .ok (.iadd, 1) := by decide +kernel
theorem dX11_putOnTape_44 : decode cX11_putOnTape 44 = .ok (.putfield 13, 3) := by decide +kernel
theorem dX11_putOnTape_47 : decode cX11_putOnTape 47 = .ok (.iinc 2 (-8), 3) := by decide +kernel
theorem dX11_putOnTape_50 : decode cX11_putOnTape 50 = .ok (.goto (-47), 3) := by decide +kernel
theorem dX11_putOnTape_53 : decode cX11_putOnTape 53 = .ok (.return_, 1) := by decide +kernel
theorem dX11_exchange_0 : decode cX11_exchange 0 = .ok (.iload_n 1, 1) := by decide +kernel
theorem dX11_exchange_1 : decode cX11_exchange 1 = .ok (.iconst 0, 1) := by decide +kernel
theorem dX11_exchange_2 : decode cX11_exchange 2 = .ok (.aload_n 0, 1) := by decide +kernel
theorem dX11_exchange_3 : decode cX11_exchange 3 = .ok (.getfield 13, 3) := by decide +kernel
theorem dX11_exchange_6 : decode cX11_exchange 6 = .ok (.invokestatic 112, 3) := by decide +kernel
theorem dX11_exchange_9 : decode cX11_exchange 9 = .ok (.aload_n 0, 1) := by decide +kernel
theorem dX11_exchange_10 : decode cX11_exchange 10 = .ok (.iconst 0, 1) := by decide +kernel
theorem dX11_exchange_11 : decode cX11_exchange 11 = .ok (.putfield 13, 3) := by decide +kernel
theorem dX11_exchange_14 : decode cX11_exchange 14 = .ok (.aload_n 0, 1) := by decide +kernel
theorem dX11_exchange_15 : decode cX11_exchange 15 = .ok (.getfield 84, 3) := by decide +kernel
theorem dX11_exchange_18 : decode cX11_exchange 18 = .ok (.iload_n 1, 1) := by decide +kernel
theorem dX11_exchange_19 : decode cX11_exchange 19 = .ok (.invokevirtual 116, 3) := by decide +kernel
theorem dX11_exchange_22 : decode cX11_exchange 22 = .ok (.aload_n 0, 1) := by decide +kernel
theorem dX11_exchange_23 : decode cX11_exchange 23 = .ok (.aload_n 0, 1) := by decide +kernel
theorem dX11_exchange_24 : decode cX11_exchange 24 = .ok (.getfield 84, 3) := by decide +kernel
theorem dX11_exchange_27 : decode cX11_exchange 27 = .ok (.invokevirtual 119, 3) := by decide +kernel
theorem dX11_exchange_30 : decode cX11_exchange 30 = .ok (.putfield 17, 3) := by decide +kernel
theorem dX11_exchange_33 : decode cX11_exchange 33 = .ok (.aload_n 0, 1) := by decide +kernel
theorem dX11_exchange_34 : decode cX11_exchange 34 = .ok (.aload_n 0, 1) := by decide +kernel
theorem dX11_exchange_35 : decode cX11_exchange 35 = .ok (.getfield 84, 3) := by decide +kernel
theorem dX11_exchange_38 : decode cX11_exchange 38 = .ok (.invokevirtual 123, 3) := by decide +kernel
theorem dX11_exchange_41 : decode cX11_exchange 41 = .ok (.putfield 20, 3) := by decide +kernel
theorem dX11_exchange_44 : decode cX11_exchange 44 = .ok (.aload_n 0, 1) := by decide +kernel
theorem dX11_exchange_45 : decode cX11_exchange 45 = .ok (.getfield 17, 3) := by decide +kernel
theorem dX11_exchange_48 : decode cX11_exchange 48 = .ok (.ifCond .eq 11, 3) := by decide +kernel
theorem dX11_exchange_51 : decode cX11_exchange 51 = .ok (.bipush (-10), 2) := by decide +kernel
theorem dX11_exchange_53 : decode cX11_exchange 53 = .ok (.aload_n 0, 1) := by decide +kernel
theorem dX11_exchange_54 : decode cX11_exchange 54 = .ok (.getfield 17, 3) := by decide +kernel
theorem dX11_exchange_57 : decode cX11_exchange 57 = .ok (.isub, 1) := by decide +kernel
theorem dX11_exchange_58 : decode cX11_exchange 58 = .ok (.ireturn, 1) := by decide +kernel
theorem dX11_exchange_59 : decode cX11_exchange 59 = .ok (.aload_n 0, 1) := by decide +kernel
theorem dX11_exchange_60 : decode cX11_exchange 60 = .ok (.getfield 96, 3) := by decide +kernel
theorem dX11_exchange_63 : decode cX11_exchange 63 = .ok (.new 88, 3) := by decide +kernel
theorem dX11_exchange_66 : decode cX11_exchange 66 = .ok (.dup, 1) := by decide +kernel
theorem dX11_exchange_67 : decode cX11_exchange 67 = .ok (.aload_n 0, 1) := by decide +kernel
theorem dX11_exchange_68 : decode cX11_exchange 68 = .ok (.getfield 84, 3) := by decide +kernel
theorem dX11_exchange_71 : decode cX11_exchange 71 = .ok (.invokespecial 90, 3) := by decide +kernel
theorem dX11_exchange_74 : decode cX11_exchange 74 = .ok (.aload_n 0, 1) := by decide +kernel
theorem dX11_exchange_75 : decode cX11_exchange 75 = .ok (.getfield 84, 3) := by decide +kernel
theorem dX11_exchange_78 : decode cX11_exchange 78 = .ok (.invokevirtual 126, 3) := by decide +kernel
theorem dX11_exchange_81 : decode cX11_exchange 81 = .ok (.aload_n 0, 1) := by decide +kernel
theorem dX11_exchange_82 : decode cX11_exchange 82 = .ok (.getfield 26, 3) := by decide +kernel
theorem dX11_exchange_85 : decode cX11_exchange 85 = .ok (.invokevirtual 130, 3) := by decide +kernel
theorem dX11_exchange_88 : decode cX11_exchange 88 = .ok (.aload_n 0, 1) := by decide +kernel
theorem dX11_exchange_89 : decode cX11_exchange 89 = .ok (.getfield 96, 3) := by decide +kernel
theorem dX11_exchange_92 : decode cX11_exchange 92 = .ok (.getfield 100, 3) := by decide +kernel
theorem dX11_exchange_95 : decode cX11_exchange 95 = .ok (.getfield 133, 3) := by decide +kernel
theorem dX11_exchange_98 : decode cX11_exchange 98 = .ok (.ireturn, 1) := by decide +kernel
theorem dX11_fault_0 : decode cX11_fault 0 = .ok (.iload_n 1, 1) := by decide +kernel
theorem dX11_fault_1 : decode cX11_fault 1 = .ok (.ifCond .ne 8, 3) := by decide +kernel
theorem dX11_fault_4 : decode cX11_fault 4 = .ok (.aload_n 0, 1) := by decide +kernel
theorem dX11_fault_5 : decode cX11_fault 5 = .ok (.getfield 17, 3) := by decide +kernel
theorem dX11_fault_8 : decode cX11_fault 8 = .ok (.ireturn, 1) := by decide +kernel
theorem dX11_fault_9 : decode cX11_fault 9 = .ok (.iload_n 1, 1) := by decide +kernel
theorem dX11_fault_10 : decode cX11_fault 10 = .ok (.iconst 1, 1) := by decide +kernel
theorem dX11_fault_11 : decode cX11_fault 11 = .ok (.if_icmp .ne 10, 3) := by decide +kernel
theorem dX11_fault_14 : decode cX11_fault 14 = .ok (.aload_n 0, 1) := by decide +kernel
theorem dX11_fault_15 : decode cX11_fault 15 = .ok (.getfield 20, 3) := by decide +kernel
theorem dX11_fault_18 : decode cX11_fault 18 = .ok (.goto 4, 3) := by decide +kernel
theorem dX11_fault_21 : decode cX11_fault 21 = .ok (.iconst (-1), 1) := by decide +kernel
theorem dX11_fault_22 : decode cX11_fault 22 = .ok (.ireturn, 1) := by decide +kernel
theorem dX11_line_0 : decode cX11_line 0 = .ok (.aload_n 0, 1) := by decide +kernel
theorem dX11_line_1 : decode cX11_line 1 = .ok (.iload_n 1, 1) := by decide +kernel
theorem dX11_line_2 : decode cX11_line 2 = .ok (.invokevirtual 136, 3) := by decide +kernel
theorem dX11_line_5 : decode cX11_line 5 = .ok (.iload_n 2, 1) := by decide +kernel
theorem dX11_line_6 : decode cX11_line 6 = .ok (.iconst 0, 1) := by decide +kernel
theorem dX11_line_7 : decode cX11_line 7 = .ok (.iconst 2, 1) := by decide +kernel
theorem dX11_line_8 : decode cX11_line 8 = .ok (.invokestatic 112, 3) := by decide +kernel
theorem dX11_line_11 : decode cX11_line 11 = .ok (.iload_n 2, 1) := by decide +kernel
theorem dX11_line_12 : decode cX11_line 12 = .ok (.ifCond .ne 12, 3) := by decide +kernel
theorem dX11_line_15 : decode cX11_line 15 = .ok (.aload_n 0, 1) := by decide +kernel
theorem dX11_line_16 : decode cX11_line 16 = .ok (.getfield 96, 3) := by decide +kernel
theorem dX11_line_19 : decode cX11_line 19 = .ok (.iload_n 1, 1) := by decide +kernel
theorem dX11_line_20 : decode cX11_line 20 = .ok (.invokevirtual 139, 3) := by decide +kernel
theorem dX11_line_23 : decode cX11_line 23 = .ok (.ireturn, 1) := by decide +kernel
theorem dX11_line_24 : decode cX11_line 24 = .ok (.iload_n 2, 1) := by decide +kernel
theorem dX11_line_25 : decode cX11_line 25 = .ok (.iconst 1, 1) := by decide +kernel
theorem dX11_line_26 : decode cX11_line 26 = .ok (.if_icmp .ne 12, 3) := by decide +kernel
theorem dX11_line_29 : decode cX11_line 29 = .ok (.aload_n 0, 1) := by decide +kernel
theorem dX11_line_30 : decode cX11_line 30 = .ok (.getfield 96, 3) := by decide +kernel
theorem dX11_line_33 : decode cX11_line 33 = .ok (.iload_n 1, 1) := by decide +kernel
theorem dX11_line_34 : decode cX11_line 34 = .ok (.invokevirtual 143, 3) := by decide +kernel
theorem dX11_line_37 : decode cX11_line 37 = .ok (.ireturn, 1) := by decide +kernel
theorem dX11_line_38 : decode cX11_line 38 = .ok (.aload_n 0, 1) := by decide +kernel
theorem dX11_line_39 : decode cX11_line 39 = .ok (.getfield 96, 3) := by decide +kernel
theorem dX11_line_42 : decode cX11_line 42 = .ok (.iload_n 1, 1) := by decide +kernel
theorem dX11_line_43 : decode cX11_line 43 = .ok (.invokevirtual 146, 3) := by decide +kernel
theorem dX11_line_46 : decode cX11_line 46 = .ok (.ifCond .eq 7, 3) := by decide +kernel
theorem dX11_line_49 : decode cX11_line 49 = .ok (.iconst 1, 1) := by decide +kernel
theorem dX11_line_50 : decode cX11_line 50 = .ok (.goto 4, 3) := by decide +kernel
theorem dX11_line_53 : decode cX11_line 53 = .ok (.iconst 0, 1) := by decide +kernel
theorem dX11_line_54 : decode cX11_line 54 = .ok (.ireturn, 1) := by decide +kernel
theorem dX11_cord_0 : decode cX11_cord 0 = .ok (.iload_n 1, 1) := by decide +kernel
theorem dX11_cord_1 : decode cX11_cord 1 = .ok (.ifCond .lt 17, 3) := by decide +kernel
theorem dX11_cord_4 : decode cX11_cord 4 = .ok (.iload_n 1, 1) := by decide +kernel
theorem dX11_cord_5 : decode cX11_cord 5 = .ok (.aload_n 0, 1) := by decide +kernel
theorem dX11_cord_6 : decode cX11_cord 6 = .ok (.getfield 96, 3) := by decide +kernel
theorem dX11_cord_9 : decode cX11_cord 9 = .ok (.getfield 100, 3) := by decide +kernel
theorem dX11_cord_12 : decode cX11_cord 12 = .ok (.getfield 150, 3) := by decide +kernel
theorem dX11_cord_15 : decode cX11_cord 15 = .ok (.if_icmp .lt 13, 3) := by decide +kernel
theorem dX11_cord_18 : decode cX11_cord 18 = .ok (.new 153, 3) := by decide +kernel
theorem dX11_cord_21 : decode cX11_cord 21 = .ok (.dup, 1) := by decide +kernel
theorem dX11_cord_22 : decode cX11_cord 22 = .ok (.ldc 155, 2) := by decide +kernel
theorem dX11_cord_24 : decode cX11_cord 24 = .ok (.invokespecial 157, 3) := by decide +kernel
theorem dX11_cord_27 : decode cX11_cord 27 = .ok (.athrow, 1) := by decide +kernel
theorem dX11_cord_28 : decode cX11_cord 28 = .ok (.iload_n 2, 1) := by decide +kernel
theorem dX11_cord_29 : decode cX11_cord 29 = .ok (.iconst 0, 1) := by decide +kernel
theorem dX11_cord_30 : decode cX11_cord 30 = .ok (.iconst 1, 1) := by decide +kernel
theorem dX11_cord_31 : decode cX11_cord 31 = .ok (.invokestatic 112, 3) := by decide +kernel
theorem dX11_cord_34 : decode cX11_cord 34 = .ok (.iload_n 2, 1) := by decide +kernel
theorem dX11_cord_35 : decode cX11_cord 35 = .ok (.ifCond .ne 17, 3) := by decide +kernel
theorem dX11_cord_38 : decode cX11_cord 38 = .ok (.aload_n 0, 1) := by decide +kernel
theorem dX11_cord_39 : decode cX11_cord 39 = .ok (.getfield 96, 3) := by decide +kernel
theorem dX11_cord_42 : decode cX11_cord 42 = .ok (.getfield 100, 3) := by decide +kernel
theorem dX11_cord_45 : decode cX11_cord 45 = .ok (.iload_n 1, 1) := by decide +kernel
theorem dX11_cord_46 : decode cX11_cord 46 = .ok (.invokevirtual 160, 3) := by decide +kernel
theorem dX11_cord_49 : decode cX11_cord 49 = .ok (.goto 11, 3) := by decide +kernel
theorem dX11_cord_52 : decode cX11_cord 52 = .ok (.aload_n 0, 1) := by decide +kernel
theorem dX11_cord_53 : decode cX11_cord 53 = .ok (.getfield 96, 3) := by decide +kernel
theorem dX11_cord_56 : decode cX11_cord 56 = .ok (.iload_n 1, 1) := by decide +kernel
theorem dX11_cord_57 : decode cX11_cord 57 = .ok (.invokevirtual 163, 3) := by decide +kernel
theorem dX11_cord_60 : decode cX11_cord 60 = .ok (.ireturn, 1) := by decide +kernel
theorem dX11_call_0 : decode cX11_call 0 = .ok (.aload_n 0, 1) := by decide +kernel
theorem dX11_call_1 : decode cX11_call 1 = .ok (.iload_n 1, 1) := by decide +kernel
theorem dX11_call_2 : decode cX11_call 2 = .ok (.invokevirtual 166, 3) := by decide +kernel
theorem dX11_call_5 : decode cX11_call 5 = .ok (.iload_n 2, 1) := by decide +kernel
theorem dX11_call_6 : decode cX11_call 6 = .ok (.iconst 0, 1) := by decide +kernel
theorem dX11_call_7 : decode cX11_call 7 = .ok (.bipush 6, 2) := by decide +kernel
theorem dX11_call_9 : decode cX11_call 9 = .ok (.invokestatic 112, 3) := by decide +kernel
theorem dX11_call_12 : decode cX11_call 12 = .ok (.aload_n 0, 1) := by decide +kernel
theorem dX11_call_13 : decode cX11_call 13 = .ok (.getfield 96, 3) := by decide +kernel
theorem dX11_call_16 : decode cX11_call 16 = .ok (.iload_n 1, 1) := by decide +kernel
theorem dX11_call_17 : decode cX11_call 17 = .ok (.iload_n 2, 1) := by decide +kernel
theorem dX11_call_18 : decode cX11_call 18 = .ok (.invokevirtual 169, 3) := by decide +kernel
theorem dX11_call_21 : decode cX11_call 21 = .ok (.ireturn, 1) := by decide +kernel
theorem dX11_likes_0 : decode cX11_likes 0 = .ok (.aload_n 0, 1) := by decide +kernel
theorem dX11_likes_1 : decode cX11_likes 1 = .ok (.iload_n 1, 1) := by decide +kernel
theorem dX11_likes_2 : decode cX11_likes 2 = .ok (.invokevirtual 136, 3) := by decide +kernel
theorem dX11_likes_5 : decode cX11_likes 5 = .ok (.aload_n 0, 1) := by decide +kernel
theorem dX11_likes_6 : decode cX11_likes 6 = .ok (.iload_n 2, 1) := by decide +kernel
theorem dX11_likes_7 : decode cX11_likes 7 = .ok (.invokevirtual 136, 3) := by decide +kernel
theorem dX11_likes_10 : decode cX11_likes 10 = .ok (.aload_n 0, 1) := by decide +kernel
theorem dX11_likes_11 : decode cX11_likes 11 = .ok (.getfield 96, 3) := by decide +kernel
theorem dX11_likes_14 : decode cX11_likes 14 = .ok (.getfield 100, 3) := by decide +kernel
theorem dX11_likes_17 : decode cX11_likes 17 = .ok (.iload_n 1, 1) := by decide +kernel
theorem dX11_likes_18 : decode cX11_likes 18 = .ok (.iload_n 2, 1) := by decide +kernel
theorem dX11_likes_19 : decode cX11_likes 19 = .ok (.invokevirtual 173, 3) := by decide +kernel
theorem dX11_likes_22 : decode cX11_likes 22 = .ok (.ireturn, 1) := by decide +kernel
theorem dX11_comesTo_0 : decode cX11_comesTo 0 = .ok (.aload_n 0, 1) := by decide +kernel
theorem dX11_comesTo_1 : decode cX11_comesTo 1 = .ok (.iload_n 1, 1) := by decide +kernel
theorem dX11_comesTo_2 : decode cX11_comesTo 2 = .ok (.invokevirtual 166, 3) := by decide +kernel
theorem dX11_comesTo_5 : decode cX11_comesTo 5 = .ok (.iload_n 2, 1) := by decide +kernel
theorem dX11_comesTo_6 : decode cX11_comesTo 6 = .ok (.iconst 0, 1) := by decide +kernel
theorem dX11_comesTo_7 : decode cX11_comesTo 7 = .ok (.sipush 999, 3) := by decide +kernel
theorem dX11_comesTo_10 : decode cX11_comesTo 10 = .ok (.invokestatic 112, 3) := by decide +kernel
theorem dX11_comesTo_13 : decode cX11_comesTo 13 = .ok (.aload_n 0, 1) := by decide +kernel
theorem dX11_comesTo_14 : decode cX11_comesTo 14 = .ok (.getfield 96, 3) := by decide +kernel
theorem dX11_comesTo_17 : decode cX11_comesTo 17 = .ok (.iload_n 1, 1) := by decide +kernel
theorem dX11_comesTo_18 : decode cX11_comesTo 18 = .ok (.aload_n 0, 1) := by decide +kernel
theorem dX11_comesTo_19 : decode cX11_comesTo 19 = .ok (.getfield 96, 3) := by decide +kernel
theorem dX11_comesTo_22 : decode cX11_comesTo 22 = .ok (.invokevirtual 176, 3) := by decide +kernel
theorem dX11_comesTo_25 : decode cX11_comesTo 25 = .ok (.iload_n 2, 1) := by decide +kernel
theorem dX11_comesTo_26 : decode cX11_comesTo 26 = .ok (.iadd, 1) := by decide +kernel
theorem dX11_comesTo_27 : decode cX11_comesTo 27 = .ok (.invokevirtual 179, 3) := by decide +kernel
theorem dX11_comesTo_30 : decode cX11_comesTo 30 = .ok (.ireturn, 1) := by decide +kernel
theorem dX11_dial_0 : decode cX11_dial 0 = .ok (.aload_n 0, 1) := by decide +kernel
theorem dX11_dial_1 : decode cX11_dial 1 = .ok (.getfield 96, 3) := by decide +kernel
theorem dX11_dial_4 : decode cX11_dial 4 = .ok (.iload_n 1, 1) := by decide +kernel
theorem dX11_dial_5 : decode cX11_dial 5 = .ok (.iload_n 2, 1) := by decide +kernel
theorem dX11_dial_6 : decode cX11_dial 6 = .ok (.iload_n 3, 1) := by decide +kernel
theorem dX11_dial_7 : decode cX11_dial 7 = .ok (.invokevirtual 182, 3) := by decide +kernel
theorem dX11_dial_10 : decode cX11_dial 10 = .ok (.istore 4, 2) := by decide +kernel
theorem dX11_dial_12 : decode cX11_dial 12 = .ok (.iload 4, 2) := by decide +kernel
theorem dX11_dial_14 : decode cX11_dial 14 = .ok (.ifCond .eq 7, 3) := by decide +kernel
theorem dX11_dial_17 : decode cX11_dial 17 = .ok (.iload 4, 2) := by decide +kernel
theorem dX11_dial_19 : decode cX11_dial 19 = .ok (.ineg, 1) := by decide +kernel
theorem dX11_dial_20 : decode cX11_dial 20 = .ok (.ireturn, 1) := by decide +kernel
theorem dX11_dial_21 : decode cX11_dial 21 = .ok (.aload_n 0, 1) := by decide +kernel
theorem dX11_dial_22 : decode cX11_dial 22 = .ok (.getfield 26, 3) := by decide +kernel
theorem dX11_dial_25 : decode cX11_dial 25 = .ok (.aload_n 0, 1) := by decide +kernel
theorem dX11_dial_26 : decode cX11_dial 26 = .ok (.getfield 96, 3) := by decide +kernel
theorem dX11_dial_29 : decode cX11_dial 29 = .ok (.invokevirtual 186, 3) := by decide +kernel
theorem dX11_dial_32 : decode cX11_dial 32 = .ok (.aload_n 0, 1) := by decide +kernel
theorem dX11_dial_33 : decode cX11_dial 33 = .ok (.getfield 96, 3) := by decide +kernel
theorem dX11_dial_36 : decode cX11_dial 36 = .ok (.iload_n 1, 1) := by decide +kernel
theorem dX11_dial_37 : decode cX11_dial 37 = .ok (.iload_n 2, 1) := by decide +kernel
theorem dX11_dial_38 : decode cX11_dial 38 = .ok (.iload_n 3, 1) := by decide +kernel
theorem dX11_dial_39 : decode cX11_dial 39 = .ok (.invokevirtual 190, 3) := by decide +kernel
theorem dX11_dial_42 : decode cX11_dial 42 = .ok (.ireturn, 1) := by decide +kernel
theorem dX11_pull_0 : decode cX11_pull 0 = .ok (.aload_n 0, 1) := by decide +kernel
theorem dX11_pull_1 : decode cX11_pull 1 = .ok (.getfield 96, 3) := by decide +kernel
theorem dX11_pull_4 : decode cX11_pull 4 = .ok (.iload_n 1, 1) := by decide +kernel
theorem dX11_pull_5 : decode cX11_pull 5 = .ok (.invokevirtual 193, 3) := by decide +kernel
theorem dX11_pull_8 : decode cX11_pull 8 = .ok (.istore_n 2, 1) := by decide +kernel
theorem dX11_pull_9 : decode cX11_pull 9 = .ok (.iload_n 2, 1) := by decide +kernel
theorem dX11_pull_10 : decode cX11_pull 10 = .ok (.ifCond .eq 8, 3) := by decide +kernel
theorem dX11_pull_13 : decode cX11_pull 13 = .ok (.bipush (-10), 2) := by decide +kernel
theorem dX11_pull_15 : decode cX11_pull 15 = .ok (.iload_n 2, 1) := by decide +kernel
theorem dX11_pull_16 : decode cX11_pull 16 = .ok (.isub, 1) := by decide +kernel
theorem dX11_pull_17 : decode cX11_pull 17 = .ok (.ireturn, 1) := by decide +kernel
theorem dX11_pull_18 : decode cX11_pull 18 = .ok (.aload_n 0, 1) := by decide +kernel
theorem dX11_pull_19 : decode cX11_pull 19 = .ok (.getfield 26, 3) := by decide +kernel
theorem dX11_pull_22 : decode cX11_pull 22 = .ok (.aload_n 0, 1) := by decide +kernel
theorem dX11_pull_23 : decode cX11_pull 23 = .ok (.getfield 96, 3) := by decide +kernel
theorem dX11_pull_26 : decode cX11_pull 26 = .ok (.invokevirtual 186, 3) := by decide +kernel
theorem dX11_pull_29 : decode cX11_pull 29 = .ok (.aload_n 0, 1) := by decide +kernel
theorem dX11_pull_30 : decode cX11_pull 30 = .ok (.getfield 96, 3) := by decide +kernel
theorem dX11_pull_33 : decode cX11_pull 33 = .ok (.iload_n 1, 1) := by decide +kernel
theorem dX11_pull_34 : decode cX11_pull 34 = .ok (.invokevirtual 196, 3) := by decide +kernel
theorem dX11_pull_37 : decode cX11_pull 37 = .ok (.ireturn, 1) := by decide +kernel
theorem dX11_door_0 : decode cX11_door 0 = .ok (.aload_n 0, 1) := by decide +kernel
theorem dX11_door_1 : decode cX11_door 1 = .ok (.iload_n 1, 1) := by decide +kernel
theorem dX11_door_2 : decode cX11_door 2 = .ok (.invokevirtual 136, 3) := by decide +kernel
theorem dX11_door_5 : decode cX11_door 5 = .ok (.aload_n 0, 1) := by decide +kernel
theorem dX11_door_6 : decode cX11_door 6 = .ok (.getfield 26, 3) := by decide +kernel
theorem dX11_door_9 : decode cX11_door 9 = .ok (.aload_n 0, 1) := by decide +kernel
theorem dX11_door_10 : decode cX11_door 10 = .ok (.getfield 96, 3) := by decide +kernel
theorem dX11_door_13 : decode cX11_door 13 = .ok (.invokevirtual 186, 3) := by decide +kernel
theorem dX11_door_16 : decode cX11_door 16 = .ok (.aload_n 0, 1) := by decide +kernel
theorem dX11_door_17 : decode cX11_door 17 = .ok (.getfield 96, 3) := by decide +kernel
theorem dX11_door_20 : decode cX11_door 20 = .ok (.iload_n 1, 1) := by decide +kernel
theorem dX11_door_21 : decode cX11_door 21 = .ok (.invokevirtual 199, 3) := by decide +kernel
theorem dX11_door_24 : decode cX11_door 24 = .ok (.aload_n 0, 1) := by decide +kernel
theorem dX11_door_25 : decode cX11_door 25 = .ok (.getfield 96, 3) := by decide +kernel
theorem dX11_door_28 : decode cX11_door 28 = .ok (.iload_n 1, 1) := by decide +kernel
theorem dX11_door_29 : decode cX11_door 29 = .ok (.invokevirtual 146, 3) := by decide +kernel
theorem dX11_door_32 : decode cX11_door 32 = .ok (.ifCond .eq 7, 3) := by decide +kernel
theorem dX11_door_35 : decode cX11_door 35 = .ok (.iconst 1, 1) := by decide +kernel
theorem dX11_door_36 : decode cX11_door 36 = .ok (.goto 4, 3) := by decide +kernel
theorem dX11_door_39 : decode cX11_door 39 = .ok (.iconst 0, 1) := by decide +kernel
theorem dX11_door_40 : decode cX11_door 40 = .ok (.ireturn, 1) := by decide +kernel
theorem dX11_minutes_0 : decode cX11_minutes 0 = .ok (.iload_n 1, 1) := by decide +kernel
theorem dX11_minutes_1 : decode cX11_minutes 1 = .ok (.iconst 1, 1) := by decide +kernel
theorem dX11_minutes_2 : decode cX11_minutes 2 = .ok (.bipush 99, 2) := by decide +kernel
theorem dX11_minutes_4 : decode cX11_minutes 4 = .ok (.invokestatic 112, 3) := by decide +kernel
theorem dX11_minutes_7 : decode cX11_minutes 7 = .ok (.aload_n 0, 1) := by decide +kernel
theorem dX11_minutes_8 : decode cX11_minutes 8 = .ok (.getfield 26, 3) := by decide +kernel
theorem dX11_minutes_11 : decode cX11_minutes 11 = .ok (.aload_n 0, 1) := by decide +kernel
theorem dX11_minutes_12 : decode cX11_minutes 12 = .ok (.getfield 96, 3) := by decide +kernel
theorem dX11_minutes_15 : decode cX11_minutes 15 = .ok (.invokevirtual 186, 3) := by decide +kernel
theorem dX11_minutes_18 : decode cX11_minutes 18 = .ok (.aload_n 0, 1) := by decide +kernel
theorem dX11_minutes_19 : decode cX11_minutes 19 = .ok (.getfield 96, 3) := by decide +kernel
theorem dX11_minutes_22 : decode cX11_minutes 22 = .ok (.iload_n 1, 1) := by decide +kernel
theorem dX11_minutes_23 : decode cX11_minutes 23 = .ok (.invokevirtual 202, 3) := by decide +kernel
theorem dX11_minutes_26 : decode cX11_minutes 26 = .ok (.ireturn, 1) := by decide +kernel
theorem dX11_undo_0 : decode cX11_undo 0 = .ok (.iload_n 1, 1) := by decide +kernel
theorem dX11_undo_1 : decode cX11_undo 1 = .ok (.iconst 1, 1) := by decide +kernel
theorem dX11_undo_2 : decode cX11_undo 2 = .ok (.aload_n 0, 1) := by decide +kernel
theorem dX11_undo_3 : decode cX11_undo 3 = .ok (.getfield 26, 3) := by decide +kernel
theorem dX11_undo_6 : decode cX11_undo 6 = .ok (.invokevirtual 205, 3) := by decide +kernel
theorem dX11_undo_9 : decode cX11_undo 9 = .ok (.invokestatic 112, 3) := by decide +kernel
theorem dX11_undo_12 : decode cX11_undo 12 = .ok (.aload_n 0, 1) := by decide +kernel
theorem dX11_undo_13 : decode cX11_undo 13 = .ok (.getfield 26, 3) := by decide +kernel
theorem dX11_undo_16 : decode cX11_undo 16 = .ok (.aload_n 0, 1) := by decide +kernel
theorem dX11_undo_17 : decode cX11_undo 17 = .ok (.getfield 96, 3) := by decide +kernel
theorem dX11_undo_20 : decode cX11_undo 20 = .ok (.iload_n 1, 1) := by decide +kernel
theorem dX11_undo_21 : decode cX11_undo 21 = .ok (.invokevirtual 208, 3) := by decide +kernel
theorem dX11_undo_24 : decode cX11_undo 24 = .ok (.aload_n 0, 1) := by decide +kernel
theorem dX11_undo_25 : decode cX11_undo 25 = .ok (.getfield 26, 3) := by decide +kernel
theorem dX11_undo_28 : decode cX11_undo 28 = .ok (.invokevirtual 205, 3) := by decide +kernel
theorem dX11_undo_31 : decode cX11_undo 31 = .ok (.ireturn, 1) := by decide +kernel
theorem dX11_judge_0 : decode cX11_judge 0 = .ok (.aload_n 0, 1) := by decide +kernel
theorem dX11_judge_1 : decode cX11_judge 1 = .ok (.iload_n 1, 1) := by decide +kernel
theorem dX11_judge_2 : decode cX11_judge 2 = .ok (.invokevirtual 212, 3) := by decide +kernel
theorem dX11_judge_5 : decode cX11_judge 5 = .ok (.astore_n 3, 1) := by decide +kernel
theorem dX11_judge_6 : decode cX11_judge 6 = .ok (.iload_n 2, 1) := by decide +kernel
theorem dX11_judge_7 : decode cX11_judge 7 = .ok (.iconst 0, 1) := by decide +kernel
theorem dX11_judge_8 : decode cX11_judge 8 = .ok (.iconst 3, 1) := by decide +kernel
theorem dX11_judge_9 : decode cX11_judge 9 = .ok (.invokestatic 112, 3) := by decide +kernel
theorem dX11_judge_12 : decode cX11_judge 12 = .ok (.aload_n 0, 1) := by decide +kernel
theorem dX11_judge_13 : decode cX11_judge 13 = .ok (.getfield 104, 3) := by decide +kernel
theorem dX11_judge_16 : decode cX11_judge 16 = .ok (.aload_n 0, 1) := by decide +kernel
theorem dX11_judge_17 : decode cX11_judge 17 = .ok (.getfield 96, 3) := by decide +kernel
theorem dX11_judge_20 : decode cX11_judge 20 = .ok (.invokevirtual 216, 3) := by decide +kernel
theorem dX11_judge_23 : decode cX11_judge 23 = .ok (.iconst 0, 1) := by decide +kernel
theorem dX11_judge_24 : decode cX11_judge 24 = .ok (.istore 4, 2) := by decide +kernel
theorem dX11_judge_26 : decode cX11_judge 26 = .ok (.iconst (-1), 1) := by decide +kernel
theorem dX11_judge_27 : decode cX11_judge 27 = .ok (.istore 5, 2) := by decide +kernel
theorem dX11_judge_29 : decode cX11_judge 29 = .ok (.iconst 0, 1) := by decide +kernel
theorem dX11_judge_30 : decode cX11_judge 30 = .ok (.istore 6, 2) := by decide +kernel
theorem dX11_judge_32 : decode cX11_judge 32 = .ok (.iload 6, 2) := by decide +kernel
theorem dX11_judge_34 : decode cX11_judge 34 = .ok (.aload_n 3, 1) := by decide +kernel
theorem dX11_judge_35 : decode cX11_judge 35 = .ok (.invokevirtual 219, 3) := by decide +kernel
theorem dX11_judge_38 : decode cX11_judge 38 = .ok (.if_icmp .ge 54, 3) := by decide +kernel
theorem dX11_judge_41 : decode cX11_judge 41 = .ok (.iload 4, 2) := by decide +kernel
theorem dX11_judge_43 : decode cX11_judge 43 = .ok (.ifCond .ne 49, 3) := by decide +kernel
theorem dX11_judge_46 : decode cX11_judge 46 = .ok (.aload_n 0, 1) := by decide +kernel
theorem dX11_judge_47 : decode cX11_judge 47 = .ok (.getfield 104, 3) := by decide +kernel
theorem dX11_judge_50 : decode cX11_judge 50 = .ok (.aload_n 3, 1) := by decide +kernel
theorem dX11_judge_51 : decode cX11_judge 51 = .ok (.iload 6, 2) := by decide +kernel
theorem dX11_judge_53 : decode cX11_judge 53 = .ok (.invokevirtual 220, 3) := by decide +kernel
theorem dX11_judge_56 : decode cX11_judge 56 = .ok (.invokevirtual 224, 3) := by decide +kernel
theorem dX11_judge_59 : decode cX11_judge 59 = .ok (.istore 4, 2) := by decide +kernel
theorem dX11_judge_61 : decode cX11_judge 61 = .ok (.iload 4, 2) := by decide +kernel
theorem dX11_judge_63 : decode cX11_judge 63 = .ok (.ifCond .ne 19, 3) := by decide +kernel
theorem dX11_judge_66 : decode cX11_judge 66 = .ok (.aload_n 0, 1) := by decide +kernel
theorem dX11_judge_67 : decode cX11_judge 67 = .ok (.getfield 104, 3) := by decide +kernel
theorem dX11_judge_70 : decode cX11_judge 70 = .ok (.aload_n 3, 1) := by decide +kernel
theorem dX11_judge_71 : decode cX11_judge 71 = .ok (.iload 6, 2) := by decide +kernel
theorem dX11_judge_73 : decode cX11_judge 73 = .ok (.invokevirtual 220, 3) := by decide +kernel
theorem dX11_judge_76 : decode cX11_judge 76 = .ok (.invokevirtual 228, 3) := by decide +kernel
theorem dX11_judge_79 : decode cX11_judge 79 = .ok (.goto 7, 3) := by decide +kernel
theorem dX11_judge_82 : decode cX11_judge 82 = .ok (.iload 6, 2) := by decide +kernel
theorem dX11_judge_84 : decode cX11_judge 84 = .ok (.istore 5, 2) := by decide +kernel
theorem dX11_judge_86 : decode cX11_judge 86 = .ok (.iinc 6 1, 3) := by decide +kernel
theorem dX11_judge_89 : decode cX11_judge 89 = .ok (.goto (-57), 3) := by decide +kernel
theorem dX11_judge_92 : decode cX11_judge 92 = .ok (.iload_n 2, 1) := by decide +kernel
theorem dX11_judge_93 : decode cX11_judge 93 = .ok (.ifCond .ne 6, 3) := by decide +kernel
theorem dX11_judge_96 : decode cX11_judge 96 = .ok (.iload 5, 2) := by decide +kernel
theorem dX11_judge_98 : decode cX11_judge 98 = .ok (.ireturn, 1) := by decide +kernel
theorem dX11_judge_99 : decode cX11_judge 99 = .ok (.iload_n 2, 1) := by decide +kernel
theorem dX11_judge_100 : decode cX11_judge 100 = .ok (.iconst 1, 1) := by decide +kernel
theorem dX11_judge_101 : decode cX11_judge 101 = .ok (.if_icmp .ne 6, 3) := by decide +kernel
theorem dX11_judge_104 : decode cX11_judge 104 = .ok (.iload 4, 2) := by decide +kernel
theorem dX11_judge_106 : decode cX11_judge 106 = .ok (.ireturn, 1) := by decide +kernel
theorem dX11_judge_107 : decode cX11_judge 107 = .ok (.iload_n 2, 1) := by decide +kernel
theorem dX11_judge_108 : decode cX11_judge 108 = .ok (.iconst 2, 1) := by decide +kernel
theorem dX11_judge_109 : decode cX11_judge 109 = .ok (.if_icmp .ne 14, 3) := by decide +kernel
theorem dX11_judge_112 : decode cX11_judge 112 = .ok (.aload_n 0, 1) := by decide +kernel
theorem dX11_judge_113 : decode cX11_judge 113 = .ok (.getfield 104, 3) := by decide +kernel
theorem dX11_judge_116 : decode cX11_judge 116 = .ok (.iconst 3, 1) := by decide +kernel
theorem dX11_judge_117 : decode cX11_judge 117 = .ok (.invokevirtual 232, 3) := by decide +kernel
theorem dX11_judge_120 : decode cX11_judge 120 = .ok (.goto 10, 3) := by decide +kernel
theorem dX11_judge_123 : decode cX11_judge 123 = .ok (.aload_n 0, 1) := by decide +kernel
theorem dX11_judge_124 : decode cX11_judge 124 = .ok (.getfield 104, 3) := by decide +kernel
theorem dX11_judge_127 : decode cX11_judge 127 = .ok (.invokevirtual 235, 3) := by decide +kernel
theorem dX11_judge_130 : decode cX11_judge 130 = .ok (.ireturn, 1) := by decide +kernel
theorem dX11_perform_0 : decode cX11_perform 0 = .ok (.aload_n 0, 1) := by decide +kernel
theorem dX11_perform_1 : decode cX11_perform 1 = .ok (.iload_n 1, 1) := by decide +kernel
theorem dX11_perform_2 : decode cX11_perform 2 = .ok (.invokevirtual 212, 3) := by decide +kernel
theorem dX11_perform_5 : decode cX11_perform 5 = .ok (.astore_n 2, 1) := by decide +kernel
theorem dX11_perform_6 : decode cX11_perform 6 = .ok (.iconst 0, 1) := by decide +kernel
theorem dX11_perform_7 : decode cX11_perform 7 = .ok (.istore_n 3, 1) := by decide +kernel
theorem dX11_perform_8 : decode cX11_perform 8 = .ok (.iload_n 3, 1) := by decide +kernel
theorem dX11_perform_9 : decode cX11_perform 9 = .ok (.aload_n 2, 1) := by decide +kernel
theorem dX11_perform_10 : decode cX11_perform 10 = .ok (.invokevirtual 219, 3) := by decide +kernel
theorem dX11_perform_13 : decode cX11_perform 13 = .ok (.if_icmp .ge 23, 3) := by decide +kernel
theorem dX11_perform_16 : decode cX11_perform 16 = .ok (.aload_n 0, 1) := by decide +kernel
theorem dX11_perform_17 : decode cX11_perform 17 = .ok (.aload_n 2, 1) := by decide +kernel
theorem dX11_perform_18 : decode cX11_perform 18 = .ok (.iload_n 3, 1) := by decide +kernel
theorem dX11_perform_19 : decode cX11_perform 19 = .ok (.invokevirtual 220, 3) := by decide +kernel
theorem dX11_perform_22 : decode cX11_perform 22 = .ok (.invokevirtual 238, 3) := by decide +kernel
theorem dX11_perform_25 : decode cX11_perform 25 = .ok (.ifCond .ne 5, 3) := by decide +kernel
theorem dX11_perform_28 : decode cX11_perform 28 = .ok (.iload_n 3, 1) := by decide +kernel
theorem dX11_perform_29 : decode cX11_perform 29 = .ok (.ireturn, 1) := by decide +kernel
theorem dX11_perform_30 : decode cX11_perform 30 = .ok (.iinc 3 1, 3) := by decide +kernel
theorem dX11_perform_33 : decode cX11_perform 33 = .ok (.goto (-25), 3) := by decide +kernel
theorem dX11_perform_36 : decode cX11_perform 36 = .ok (.aload_n 2, 1) := by decide +kernel
theorem dX11_perform_37 : decode cX11_perform 37 = .ok (.invokevirtual 219, 3) := by decide +kernel
theorem dX11_perform_40 : decode cX11_perform 40 = .ok (.ireturn, 1) := by decide +kernel
theorem dX11_spring_0 : decode cX11_spring 0 = .ok (.iload_n 2, 1) := by decide +kernel
theorem dX11_spring_1 : decode cX11_spring 1 = .ok (.iconst 1, 1) := by decide +kernel
theorem dX11_spring_2 : decode cX11_spring 2 = .ok (.bipush 30, 2) := by decide +kernel
theorem dX11_spring_4 : decode cX11_spring 4 = .ok (.invokestatic 112, 3) := by decide +kernel
theorem dX11_spring_7 : decode cX11_spring 7 = .ok (.aload_n 0, 1) := by decide +kernel
theorem dX11_spring_8 : decode cX11_spring 8 = .ok (.getfield 96, 3) := by decide +kernel
theorem dX11_spring_11 : decode cX11_spring 11 = .ok (.getfield 100, 3) := by decide +kernel
theorem dX11_spring_14 : decode cX11_spring 14 = .ok (.getfield 242, 3) := by decide +kernel
theorem dX11_spring_17 : decode cX11_spring 17 = .ok (.istore_n 3, 1) := by decide +kernel
theorem dX11_spring_18 : decode cX11_spring 18 = .ok (.iload_n 1, 1) := by decide +kernel
theorem dX11_spring_19 : decode cX11_spring 19 = .ok (.istore 4, 2) := by decide +kernel
theorem dX11_spring_21 : decode cX11_spring 21 = .ok (.iconst 0, 1) := by decide +kernel
theorem dX11_spring_22 : decode cX11_spring 22 = .ok (.istore 5, 2) := by decide +kernel
theorem dX11_spring_24 : decode cX11_spring 24 = .ok (.iconst 0, 1) := by decide +kernel
theorem dX11_spring_25 : decode cX11_spring 25 = .ok (.istore 6, 2) := by decide +kernel
theorem dX11_spring_27 : decode cX11_spring 27 = .ok (.iload 6, 2) := by decide +kernel
theorem dX11_spring_29 : decode cX11_spring 29 = .ok (.iload_n 2, 1) := by decide +kernel
theorem dX11_spring_30 : decode cX11_spring 30 = .ok (.if_icmp .ge 139, 3) := by decide +kernel
theorem dX11_spring_33 : decode cX11_spring 33 = .ok (.iload 4, 2) := by decide +kernel
theorem dX11_spring_35 : decode cX11_spring 35 = .ok (.invokestatic 245, 3) := by decide +kernel
theorem dX11_spring_38 : decode cX11_spring 38 = .ok (.istore 4, 2) := by decide +kernel
theorem dX11_spring_40 : decode cX11_spring 40 = .ok (.iload 4, 2) := by decide +kernel
theorem dX11_spring_42 : decode cX11_spring 42 = .ok (.bipush 16, 2) := by decide +kernel
theorem dX11_spring_44 : decode cX11_spring 44 = .ok (.iushr, 1) := by decide +kernel
theorem dX11_spring_45 : decode cX11_spring 45 = .ok (.iconst 5, 1) := by decide +kernel
theorem dX11_spring_46 : decode cX11_spring 46 = .ok (.irem, 1) := by decide +kernel
theorem dX11_spring_47 : decode cX11_spring 47 = .ok (.istore 7, 2) := by decide +kernel
theorem dX11_spring_49 : decode cX11_spring 49 = .ok (.iconst (-1), 1) := by decide +kernel
theorem dX11_spring_50 : decode cX11_spring 50 = .ok (.istore 8, 2) := by decide +kernel
theorem dX11_spring_52 : decode cX11_spring 52 = .ok (.iload 7, 2) := by decide +kernel
theorem dX11_spring_54 : decode cX11_spring 54 = .ok (.iconst 2, 1) := by decide +kernel
theorem dX11_spring_55 : decode cX11_spring 55 = .ok (.if_icmp .ne 42, 3) := by decide +kernel
theorem dX11_spring_58 : decode cX11_spring 58 = .ok (.iload 4, 2) := by decide +kernel
theorem dX11_spring_60 : decode cX11_spring 60 = .ok (.invokestatic 245, 3) := by decide +kernel
theorem dX11_spring_63 : decode cX11_spring 63 = .ok (.istore 4, 2) := by decide +kernel
theorem dX11_spring_65 : decode cX11_spring 65 = .ok (.bipush 10, 2) := by decide +kernel
theorem dX11_spring_67 : decode cX11_spring 67 = .ok (.iload 4, 2) := by decide +kernel
theorem dX11_spring_69 : decode cX11_spring 69 = .ok (.iload_n 3, 1) := by decide +kernel
theorem dX11_spring_70 : decode cX11_spring 70 = .ok (.invokestatic 248, 3) := by decide +kernel
theorem dX11_spring_73 : decode cX11_spring 73 = .ok (.imul, 1) := by decide +kernel
theorem dX11_spring_74 : decode cX11_spring 74 = .ok (.istore 8, 2) := by decide +kernel
theorem dX11_spring_76 : decode cX11_spring 76 = .ok (.iload 4, 2) := by decide +kernel
theorem dX11_spring_78 : decode cX11_spring 78 = .ok (.invokestatic 245, 3) := by decide +kernel
theorem dX11_spring_81 : decode cX11_spring 81 = .ok (.istore 4, 2) := by decide +kernel
theorem dX11_spring_83 : decode cX11_spring 83 = .ok (.iload 8, 2) := by decide +kernel
theorem dX11_spring_85 : decode cX11_spring 85 = .ok (.iload 4, 2) := by decide +kernel
theorem dX11_spring_87 : decode cX11_spring 87 = .ok (.iload_n 3, 1) := by decide +kernel
theorem dX11_spring_88 : decode cX11_spring 88 = .ok (.invokestatic 248, 3) := by decide +kernel
theorem dX11_spring_91 : decode cX11_spring 91 = .ok (.iadd, 1) := by decide +kernel
theorem dX11_spring_92 : decode cX11_spring 92 = .ok (.istore 8, 2) := by decide +kernel
theorem dX11_spring_94 : decode cX11_spring 94 = .ok (.goto 56, 3) := by decide +kernel
theorem dX11_spring_97 : decode cX11_spring 97 = .ok (.iload 7, 2) := by decide +kernel
theorem dX11_spring_99 : decode cX11_spring 99 = .ok (.iconst 3, 1) := by decide +kernel
theorem dX11_spring_100 : decode cX11_spring 100 = .ok (.if_icmp .ne 24, 3) := by decide +kernel
theorem dX11_spring_103 : decode cX11_spring 103 = .ok (.iload 4, 2) := by decide +kernel
theorem dX11_spring_105 : decode cX11_spring 105 = .ok (.invokestatic 245, 3) := by decide +kernel
theorem dX11_spring_108 : decode cX11_spring 108 = .ok (.istore 4, 2) := by decide +kernel
theorem dX11_spring_110 : decode cX11_spring 110 = .ok (.bipush 100, 2) := by decide +kernel
theorem dX11_spring_112 : decode cX11_spring 112 = .ok (.iload 4, 2) := by decide +kernel
theorem dX11_spring_114 : decode cX11_spring 114 = .ok (.iload_n 3, 1) := by decide +kernel
theorem dX11_spring_115 : decode cX11_spring 115 = .ok (.invokestatic 248, 3) := by decide +kernel
theorem dX11_spring_118 : decode cX11_spring 118 = .ok (.iadd, 1) := by decide +kernel
theorem dX11_spring_119 : decode cX11_spring 119 = .ok (.istore 8, 2) := by decide +kernel
theorem dX11_spring_121 : decode cX11_spring 121 = .ok (.goto 29, 3) := by decide +kernel
theorem dX11_spring_124 : decode cX11_spring 124 = .ok (.iload 7, 2) := by decide +kernel
theorem dX11_spring_126 : decode cX11_spring 126 = .ok (.iconst 4, 1) := by decide +kernel
theorem dX11_spring_127 : decode cX11_spring 127 = .ok (.if_icmp .ne 23, 3) := by decide +kernel
theorem dX11_spring_130 : decode cX11_spring 130 = .ok (.iload 4, 2) := by decide +kernel
theorem dX11_spring_132 : decode cX11_spring 132 = .ok (.invokestatic 245, 3) := by decide +kernel
theorem dX11_spring_135 : decode cX11_spring 135 = .ok (.istore 4, 2) := by decide +kernel
theorem dX11_spring_137 : decode cX11_spring 137 = .ok (.sipush 200, 3) := by decide +kernel
theorem dX11_spring_140 : decode cX11_spring 140 = .ok (.iload 4, 2) := by decide +kernel
theorem dX11_spring_142 : decode cX11_spring 142 = .ok (.bipush 10, 2) := by decide +kernel
theorem dX11_spring_144 : decode cX11_spring 144 = .ok (.invokestatic 248, 3) := by decide +kernel
theorem dX11_spring_147 : decode cX11_spring 147 = .ok (.iadd, 1) := by decide +kernel
theorem dX11_spring_148 : decode cX11_spring 148 = .ok (.istore 8, 2) := by decide +kernel
theorem dX11_spring_150 : decode cX11_spring 150 = .ok (.aload_n 0, 1) := by decide +kernel
theorem dX11_spring_151 : decode cX11_spring 151 = .ok (.iload 8, 2) := by decide +kernel
theorem dX11_spring_153 : decode cX11_spring 153 = .ok (.i2l, 1) := by decide +kernel
theorem dX11_spring_154 : decode cX11_spring 154 = .ok (.invokevirtual 238, 3) := by decide +kernel
theorem dX11_spring_157 : decode cX11_spring 157 = .ok (.ifCond .eq 6, 3) := by decide +kernel
theorem dX11_spring_160 : decode cX11_spring 160 = .ok (.iinc 5 1, 3) := by decide +kernel
theorem dX11_spring_163 : decode cX11_spring 163 = .ok (.iinc 6 1, 3) := by decide +kernel
theorem dX11_spring_166 : decode cX11_spring 166 = .ok (.goto (-139), 3) := by decide +kernel
theorem dX11_spring_169 : decode cX11_spring 169 = .ok (.iload 5, 2) := by decide +kernel
theorem dX11_spring_171 : decode cX11_spring 171 = .ok (.ireturn, 1) := by decide +kernel
theorem dX11_drawn_0 : decode cX11_drawn 0 = .ok (.ldc 251, 2) := by decide +kernel
theorem dX11_drawn_2 : decode cX11_drawn 2 = .ok (.iload_n 0, 1) := by decide +kernel
theorem dX11_drawn_3 : decode cX11_drawn 3 = .ok (.imul, 1) := by decide +kernel
theorem dX11_drawn_4 : decode cX11_drawn 4 = .ok (.sipush 12345, 3) := by decide +kernel
theorem dX11_drawn_7 : decode cX11_drawn 7 = .ok (.iadd, 1) := by decide +kernel
theorem dX11_drawn_8 : decode cX11_drawn 8 = .ok (.ireturn, 1) := by decide +kernel
theorem dX11_among_0 : decode cX11_among 0 = .ok (.iload_n 1, 1) := by decide +kernel
theorem dX11_among_1 : decode cX11_among 1 = .ok (.ifCond .le 12, 3) := by decide +kernel
theorem dX11_among_4 : decode cX11_among 4 = .ok (.iload_n 0, 1) := by decide +kernel
theorem dX11_among_5 : decode cX11_among 5 = .ok (.bipush 16, 2) := by decide +kernel
theorem dX11_among_7 : decode cX11_among 7 = .ok (.iushr, 1) := by decide +kernel
theorem dX11_among_8 : decode cX11_among 8 = .ok (.iload_n 1, 1) := by decide +kernel
theorem dX11_among_9 : decode cX11_among 9 = .ok (.irem, 1) := by decide +kernel
theorem dX11_among_10 : decode cX11_among 10 = .ok (.goto 4, 3) := by decide +kernel
theorem dX11_among_13 : decode cX11_among 13 = .ok (.iconst 0, 1) := by decide +kernel
theorem dX11_among_14 : decode cX11_among 14 = .ok (.ireturn, 1) := by decide +kernel
theorem dX11_tryTold_0 : decode cX11_tryTold 0 = .ok (.aload_n 0, 1) := by decide +kernel
theorem dX11_tryTold_1 : decode cX11_tryTold 1 = .ok (.getfield 96, 3) := by decide +kernel
theorem dX11_tryTold_4 : decode cX11_tryTold 4 = .ok (.lload_n 1, 1) := by decide +kernel
theorem dX11_tryTold_5 : decode cX11_tryTold 5 = .ok (.invokevirtual 224, 3) := by decide +kernel
theorem dX11_tryTold_8 : decode cX11_tryTold 8 = .ok (.ifCond .eq 5, 3) := by decide +kernel
theorem dX11_tryTold_11 : decode cX11_tryTold 11 = .ok (.iconst 0, 1) := by decide +kernel
theorem dX11_tryTold_12 : decode cX11_tryTold 12 = .ok (.ireturn, 1) := by decide +kernel
theorem dX11_tryTold_13 : decode cX11_tryTold 13 = .ok (.aload_n 0, 1) := by decide +kernel
theorem dX11_tryTold_14 : decode cX11_tryTold 14 = .ok (.getfield 26, 3) := by decide +kernel
theorem dX11_tryTold_17 : decode cX11_tryTold 17 = .ok (.aload_n 0, 1) := by decide +kernel
theorem dX11_tryTold_18 : decode cX11_tryTold 18 = .ok (.getfield 96, 3) := by decide +kernel
theorem dX11_tryTold_21 : decode cX11_tryTold 21 = .ok (.invokevirtual 186, 3) := by decide +kernel
theorem dX11_tryTold_24 : decode cX11_tryTold 24 = .ok (.aload_n 0, 1) := by decide +kernel
theorem dX11_tryTold_25 : decode cX11_tryTold 25 = .ok (.getfield 96, 3) := by decide +kernel
theorem dX11_tryTold_28 : decode cX11_tryTold 28 = .ok (.lload_n 1, 1) := by decide +kernel
theorem dX11_tryTold_29 : decode cX11_tryTold 29 = .ok (.invokevirtual 228, 3) := by decide +kernel
theorem dX11_tryTold_32 : decode cX11_tryTold 32 = .ok (.iconst 1, 1) := by decide +kernel
theorem dX11_tryTold_33 : decode cX11_tryTold 33 = .ok (.ireturn, 1) := by decide +kernel
theorem dX11_lost_0 : decode cX11_lost 0 = .ok (.iload_n 1, 1) := by decide +kernel
theorem dX11_lost_1 : decode cX11_lost 1 = .ok (.invokestatic 252, 3) := by decide +kernel
theorem dX11_lost_4 : decode cX11_lost 4 = .ok (.aload_n 0, 1) := by decide +kernel
theorem dX11_lost_5 : decode cX11_lost 5 = .ok (.iload_n 1, 1) := by decide +kernel
theorem dX11_lost_6 : decode cX11_lost 6 = .ok (.invokevirtual 255, 3) := by decide +kernel
theorem dX11_lost_9 : decode cX11_lost 9 = .ok (.ireturn, 1) := by decide +kernel
theorem dX11_firstLost_0 : decode cX11_firstLost 0 = .ok (.aload_n 0, 1) := by decide +kernel
theorem dX11_firstLost_1 : decode cX11_firstLost 1 = .ok (.sipush 1200, 3) := by decide +kernel
theorem dX11_firstLost_4 : decode cX11_firstLost 4 = .ok (.invokevirtual 255, 3) := by decide +kernel
theorem dX11_firstLost_7 : decode cX11_firstLost 7 = .ok (.pop, 1) := by decide +kernel
theorem dX11_firstLost_8 : decode cX11_firstLost 8 = .ok (.iconst (-1), 1) := by decide +kernel
theorem dX11_firstLost_9 : decode cX11_firstLost 9 = .ok (.istore_n 1, 1) := by decide +kernel
theorem dX11_firstLost_10 : decode cX11_firstLost 10 = .ok (.iconst 0, 1) := by decide +kernel
theorem dX11_firstLost_11 : decode cX11_firstLost 11 = .ok (.istore_n 2, 1) := by decide +kernel
theorem dX11_firstLost_12 : decode cX11_firstLost 12 = .ok (.iload_n 2, 1) := by decide +kernel
theorem dX11_firstLost_13 : decode cX11_firstLost 13 = .ok (.aload_n 0, 1) := by decide +kernel
theorem dX11_firstLost_14 : decode cX11_firstLost 14 = .ok (.getfield 96, 3) := by decide +kernel
theorem dX11_firstLost_17 : decode cX11_firstLost 17 = .ok (.invokevirtual 258, 3) := by decide +kernel
theorem dX11_firstLost_20 : decode cX11_firstLost 20 = .ok (.if_icmp .ge 71, 3) := by decide +kernel
theorem dX11_firstLost_23 : decode cX11_firstLost 23 = .ok (.aload_n 0, 1) := by decide +kernel
theorem dX11_firstLost_24 : decode cX11_firstLost 24 = .ok (.getfield 96, 3) := by decide +kernel
theorem dX11_firstLost_27 : decode cX11_firstLost 27 = .ok (.iload_n 2, 1) := by decide +kernel
theorem dX11_firstLost_28 : decode cX11_firstLost 28 = .ok (.invokevirtual 261, 3) := by decide +kernel
theorem dX11_firstLost_31 : decode cX11_firstLost 31 = .ok (.ifCond .eq 20, 3) := by decide +kernel
theorem dX11_firstLost_34 : decode cX11_firstLost 34 = .ok (.aload_n 0, 1) := by decide +kernel
theorem dX11_firstLost_35 : decode cX11_firstLost 35 = .ok (.getfield 104, 3) := by decide +kernel
theorem dX11_firstLost_38 : decode cX11_firstLost 38 = .ok (.iload_n 2, 1) := by decide +kernel
theorem dX11_firstLost_39 : decode cX11_firstLost 39 = .ok (.iconst 4, 1) := by decide +kernel
theorem dX11_firstLost_40 : decode cX11_firstLost 40 = .ok (.invokevirtual 169, 3) := by decide +kernel
theorem dX11_firstLost_43 : decode cX11_firstLost 43 = .ok (.iconst 3, 1) := by decide +kernel
theorem dX11_firstLost_44 : decode cX11_firstLost 44 = .ok (.if_icmp .ne 7, 3) := by decide +kernel
theorem dX11_firstLost_47 : decode cX11_firstLost 47 = .ok (.iconst 1, 1) := by decide +kernel
theorem dX11_firstLost_48 : decode cX11_firstLost 48 = .ok (.goto 4, 3) := by decide +kernel
theorem dX11_firstLost_51 : decode cX11_firstLost 51 = .ok (.iconst 0, 1) := by decide +kernel
theorem dX11_firstLost_52 : decode cX11_firstLost 52 = .ok (.istore_n 3, 1) := by decide +kernel
theorem dX11_firstLost_53 : decode cX11_firstLost 53 = .ok (.iload_n 3, 1) := by decide +kernel
theorem dX11_firstLost_54 : decode cX11_firstLost 54 = .ok (.ifCond .eq 31, 3) := by decide +kernel
theorem dX11_firstLost_57 : decode cX11_firstLost 57 = .ok (.iload_n 1, 1) := by decide +kernel
theorem dX11_firstLost_58 : decode cX11_firstLost 58 = .ok (.iconst (-1), 1) := by decide +kernel
theorem dX11_firstLost_59 : decode cX11_firstLost 59 = .ok (.if_icmp .eq 24, 3) := by decide +kernel
theorem dX11_firstLost_62 : decode cX11_firstLost 62 = .ok (.aload_n 0, 1) := by decide +kernel
theorem dX11_firstLost_63 : decode cX11_firstLost 63 = .ok (.getfield 96, 3) := by decide +kernel
theorem dX11_firstLost_66 : decode cX11_firstLost 66 = .ok (.iload_n 2, 1) := by decide +kernel
theorem dX11_firstLost_67 : decode cX11_firstLost 67 = .ok (.iconst 2, 1) := by decide +kernel
theorem dX11_firstLost_68 : decode cX11_firstLost 68 = .ok (.invokevirtual 169, 3) := by decide +kernel
theorem dX11_firstLost_71 : decode cX11_firstLost 71 = .ok (.aload_n 0, 1) := by decide +kernel
theorem dX11_firstLost_72 : decode cX11_firstLost 72 = .ok (.getfield 96, 3) := by decide +kernel
theorem dX11_firstLost_75 : decode cX11_firstLost 75 = .ok (.iload_n 1, 1) := by decide +kernel
theorem dX11_firstLost_76 : decode cX11_firstLost 76 = .ok (.iconst 2, 1) := by decide +kernel
theorem dX11_firstLost_77 : decode cX11_firstLost 77 = .ok (.invokevirtual 169, 3) := by decide +kernel
theorem dX11_firstLost_80 : decode cX11_firstLost 80 = .ok (.if_icmp .ge 5, 3) := by decide +kernel
theorem dX11_firstLost_83 : decode cX11_firstLost 83 = .ok (.iload_n 2, 1) := by decide +kernel
theorem dX11_firstLost_84 : decode cX11_firstLost 84 = .ok (.istore_n 1, 1) := by decide +kernel
theorem dX11_firstLost_85 : decode cX11_firstLost 85 = .ok (.iinc 2 1, 3) := by decide +kernel
theorem dX11_firstLost_88 : decode cX11_firstLost 88 = .ok (.goto (-76), 3) := by decide +kernel
theorem dX11_firstLost_91 : decode cX11_firstLost 91 = .ok (.iload_n 1, 1) := by decide +kernel
theorem dX11_firstLost_92 : decode cX11_firstLost 92 = .ok (.ireturn, 1) := by decide +kernel
theorem dX11_together_0 : decode cX11_together 0 = .ok (.aload_n 0, 1) := by decide +kernel
theorem dX11_together_1 : decode cX11_together 1 = .ok (.iload_n 1, 1) := by decide +kernel
theorem dX11_together_2 : decode cX11_together 2 = .ok (.invokevirtual 136, 3) := by decide +kernel
theorem dX11_together_5 : decode cX11_together 5 = .ok (.aload_n 0, 1) := by decide +kernel
theorem dX11_together_6 : decode cX11_together 6 = .ok (.iload_n 2, 1) := by decide +kernel
theorem dX11_together_7 : decode cX11_together 7 = .ok (.invokevirtual 136, 3) := by decide +kernel
theorem dX11_together_10 : decode cX11_together 10 = .ok (.iload_n 1, 1) := by decide +kernel
theorem dX11_together_11 : decode cX11_together 11 = .ok (.iload_n 2, 1) := by decide +kernel
theorem dX11_together_12 : decode cX11_together 12 = .ok (.if_icmp .ne 14, 3) := by decide +kernel
theorem dX11_together_15 : decode cX11_together 15 = .ok (.new 264, 3) := by decide +kernel
theorem dX11_together_18 : decode cX11_together 18 = .ok (.dup, 1) := by decide +kernel
theorem dX11_together_19 : decode cX11_together 19 = .ok (.ldc_w 266, 3) := by decide +kernel
theorem dX11_together_22 : decode cX11_together 22 = .ok (.invokespecial 268, 3) := by decide +kernel
theorem dX11_together_25 : decode cX11_together 25 = .ok (.athrow, 1) := by decide +kernel
theorem dX11_together_26 : decode cX11_together 26 = .ok (.aload_n 0, 1) := by decide +kernel
theorem dX11_together_27 : decode cX11_together 27 = .ok (.getfield 96, 3) := by decide +kernel
theorem dX11_together_30 : decode cX11_together 30 = .ok (.iload_n 1, 1) := by decide +kernel
theorem dX11_together_31 : decode cX11_together 31 = .ok (.invokevirtual 139, 3) := by decide +kernel
theorem dX11_together_34 : decode cX11_together 34 = .ok (.iload_n 2, 1) := by decide +kernel
theorem dX11_together_35 : decode cX11_together 35 = .ok (.if_icmp .ne 5, 3) := by decide +kernel
theorem dX11_together_38 : decode cX11_together 38 = .ok (.iconst 0, 1) := by decide +kernel
theorem dX11_together_39 : decode cX11_together 39 = .ok (.ireturn, 1) := by decide +kernel
theorem dX11_together_40 : decode cX11_together 40 = .ok (.aload_n 0, 1) := by decide +kernel
theorem dX11_together_41 : decode cX11_together 41 = .ok (.sipush 1200, 3) := by decide +kernel
theorem dX11_together_44 : decode cX11_together 44 = .ok (.invokevirtual 255, 3) := by decide +kernel
theorem dX11_together_47 : decode cX11_together 47 = .ok (.pop, 1) := by decide +kernel
theorem dX11_together_48 : decode cX11_together 48 = .ok (.iconst (-1), 1) := by decide +kernel
theorem dX11_together_49 : decode cX11_together 49 = .ok (.istore_n 3, 1) := by decide +kernel
theorem dX11_together_50 : decode cX11_together 50 = .ok (.iconst 0, 1) := by decide +kernel
theorem dX11_together_51 : decode cX11_together 51 = .ok (.istore 4, 2) := by decide +kernel
theorem dX11_together_53 : decode cX11_together 53 = .ok (.iload 4, 2) := by decide +kernel
theorem dX11_together_55 : decode cX11_together 55 = .ok (.aload_n 0, 1) := by decide +kernel
theorem dX11_together_56 : decode cX11_together 56 = .ok (.getfield 96, 3) := by decide +kernel
theorem dX11_together_59 : decode cX11_together 59 = .ok (.invokevirtual 258, 3) := by decide +kernel
theorem dX11_together_62 : decode cX11_together 62 = .ok (.if_icmp .ge 72, 3) := by decide +kernel
theorem dX11_together_65 : decode cX11_together 65 = .ok (.aload_n 0, 1) := by decide +kernel
theorem dX11_together_66 : decode cX11_together 66 = .ok (.getfield 96, 3) := by decide +kernel
theorem dX11_together_69 : decode cX11_together 69 = .ok (.iload 4, 2) := by decide +kernel
theorem dX11_together_71 : decode cX11_together 71 = .ok (.invokevirtual 261, 3) := by decide +kernel
theorem dX11_together_74 : decode cX11_together 74 = .ok (.ifCond .eq 54, 3) := by decide +kernel
theorem dX11_together_77 : decode cX11_together 77 = .ok (.aload_n 0, 1) := by decide +kernel
theorem dX11_together_78 : decode cX11_together 78 = .ok (.getfield 104, 3) := by decide +kernel
theorem dX11_together_81 : decode cX11_together 81 = .ok (.iload 4, 2) := by decide +kernel
theorem dX11_together_83 : decode cX11_together 83 = .ok (.iload_n 1, 1) := by decide +kernel
theorem dX11_together_84 : decode cX11_together 84 = .ok (.iload_n 2, 1) := by decide +kernel
theorem dX11_together_85 : decode cX11_together 85 = .ok (.invokevirtual 269, 3) := by decide +kernel
theorem dX11_together_88 : decode cX11_together 88 = .ok (.ifCond .eq 40, 3) := by decide +kernel
theorem dX11_together_91 : decode cX11_together 91 = .ok (.aload_n 0, 1) := by decide +kernel
theorem dX11_together_92 : decode cX11_together 92 = .ok (.getfield 96, 3) := by decide +kernel
theorem dX11_together_95 : decode cX11_together 95 = .ok (.iload 4, 2) := by decide +kernel
theorem dX11_together_97 : decode cX11_together 97 = .ok (.iconst 2, 1) := by decide +kernel
theorem dX11_together_98 : decode cX11_together 98 = .ok (.invokevirtual 169, 3) := by decide +kernel
theorem dX11_together_101 : decode cX11_together 101 = .ok (.aload_n 0, 1) := by decide +kernel
theorem dX11_together_102 : decode cX11_together 102 = .ok (.getfield 96, 3) := by decide +kernel
theorem dX11_together_105 : decode cX11_together 105 = .ok (.invokevirtual 176, 3) := by decide +kernel
theorem dX11_together_108 : decode cX11_together 108 = .ok (.isub, 1) := by decide +kernel
theorem dX11_together_109 : decode cX11_together 109 = .ok (.istore 5, 2) := by decide +kernel
theorem dX11_together_111 : decode cX11_together 111 = .ok (.iload_n 3, 1) := by decide +kernel
theorem dX11_together_112 : decode cX11_together 112 = .ok (.iconst (-1), 1) := by decide +kernel
theorem dX11_together_113 : decode cX11_together 113 = .ok (.if_icmp .ne 8, 3) := by decide +kernel
theorem dX11_together_116 : decode cX11_together 116 = .ok (.iload 5, 2) := by decide +kernel
theorem dX11_together_118 : decode cX11_together 118 = .ok (.goto 9, 3) := by decide +kernel
theorem dX11_together_121 : decode cX11_together 121 = .ok (.iload_n 3, 1) := by decide +kernel
theorem dX11_together_122 : decode cX11_together 122 = .ok (.iload 5, 2) := by decide +kernel
theorem dX11_together_124 : decode cX11_together 124 = .ok (.invokestatic 273, 3) := by decide +kernel
theorem dX11_together_127 : decode cX11_together 127 = .ok (.istore_n 3, 1) := by decide +kernel
theorem dX11_together_128 : decode cX11_together 128 = .ok (.iinc 4 1, 3) := by decide +kernel
theorem dX11_together_131 : decode cX11_together 131 = .ok (.goto (-78), 3) := by decide +kernel
theorem dX11_together_134 : decode cX11_together 134 = .ok (.iload_n 3, 1) := by decide +kernel
theorem dX11_together_135 : decode cX11_together 135 = .ok (.ireturn, 1) := by decide +kernel
theorem dX11_weddings_0 : decode cX11_weddings 0 = .ok (.iload_n 1, 1) := by decide +kernel
theorem dX11_weddings_1 : decode cX11_weddings 1 = .ok (.invokestatic 252, 3) := by decide +kernel
theorem dX11_weddings_4 : decode cX11_weddings 4 = .ok (.aload_n 0, 1) := by decide +kernel
theorem dX11_weddings_5 : decode cX11_weddings 5 = .ok (.iload_n 1, 1) := by decide +kernel
theorem dX11_weddings_6 : decode cX11_weddings 6 = .ok (.invokevirtual 255, 3) := by decide +kernel
theorem dX11_weddings_9 : decode cX11_weddings 9 = .ok (.pop, 1) := by decide +kernel
theorem dX11_weddings_10 : decode cX11_weddings 10 = .ok (.aload_n 0, 1) := by decide +kernel
theorem dX11_weddings_11 : decode cX11_weddings 11 = .ok (.getfield 104, 3) := by decide +kernel
theorem dX11_weddings_14 : decode cX11_weddings 14 = .ok (.invokevirtual 235, 3) := by decide +kernel
theorem dX11_weddings_17 : decode cX11_weddings 17 = .ok (.ireturn, 1) := by decide +kernel
theorem dX11_busiest_0 : decode cX11_busiest 0 = .ok (.iload_n 1, 1) := by decide +kernel
theorem dX11_busiest_1 : decode cX11_busiest 1 = .ok (.invokestatic 252, 3) := by decide +kernel
theorem dX11_busiest_4 : decode cX11_busiest 4 = .ok (.aload_n 0, 1) := by decide +kernel
theorem dX11_busiest_5 : decode cX11_busiest 5 = .ok (.iload_n 1, 1) := by decide +kernel
theorem dX11_busiest_6 : decode cX11_busiest 6 = .ok (.invokevirtual 255, 3) := by decide +kernel
theorem dX11_busiest_9 : decode cX11_busiest 9 = .ok (.pop, 1) := by decide +kernel
theorem dX11_busiest_10 : decode cX11_busiest 10 = .ok (.aload_n 0, 1) := by decide +kernel
theorem dX11_busiest_11 : decode cX11_busiest 11 = .ok (.getfield 96, 3) := by decide +kernel
theorem dX11_busiest_14 : decode cX11_busiest 14 = .ok (.invokevirtual 176, 3) := by decide +kernel
theorem dX11_busiest_17 : decode cX11_busiest 17 = .ok (.istore_n 2, 1) := by decide +kernel
theorem dX11_busiest_18 : decode cX11_busiest 18 = .ok (.aload_n 0, 1) := by decide +kernel
theorem dX11_busiest_19 : decode cX11_busiest 19 = .ok (.iload_n 2, 1) := by decide +kernel
theorem dX11_busiest_20 : decode cX11_busiest 20 = .ok (.invokevirtual 278, 3) := by decide +kernel
theorem dX11_busiest_23 : decode cX11_busiest 23 = .ok (.istore_n 3, 1) := by decide +kernel
theorem dX11_busiest_24 : decode cX11_busiest 24 = .ok (.iconst 0, 1) := by decide +kernel
theorem dX11_busiest_25 : decode cX11_busiest 25 = .ok (.istore 4, 2) := by decide +kernel
theorem dX11_busiest_27 : decode cX11_busiest 27 = .ok (.iconst 0, 1) := by decide +kernel
theorem dX11_busiest_28 : decode cX11_busiest 28 = .ok (.istore 5, 2) := by decide +kernel
theorem dX11_busiest_30 : decode cX11_busiest 30 = .ok (.iload 5, 2) := by decide +kernel
theorem dX11_busiest_32 : decode cX11_busiest 32 = .ok (.aload_n 0, 1) := by decide +kernel
theorem dX11_busiest_33 : decode cX11_busiest 33 = .ok (.getfield 96, 3) := by decide +kernel
theorem dX11_busiest_36 : decode cX11_busiest 36 = .ok (.invokevirtual 258, 3) := by decide +kernel
theorem dX11_busiest_39 : decode cX11_busiest 39 = .ok (.if_icmp .ge 83, 3) := by decide +kernel
theorem dX11_busiest_42 : decode cX11_busiest 42 = .ok (.aload_n 0, 1) := by decide +kernel
theorem dX11_busiest_43 : decode cX11_busiest 43 = .ok (.getfield 96, 3) := by decide +kernel
theorem dX11_busiest_46 : decode cX11_busiest 46 = .ok (.iload 5, 2) := by decide +kernel
theorem dX11_busiest_48 : decode cX11_busiest 48 = .ok (.invokevirtual 261, 3) := by decide +kernel
theorem dX11_busiest_51 : decode cX11_busiest 51 = .ok (.ifCond .eq 65, 3) := by decide +kernel
theorem dX11_busiest_54 : decode cX11_busiest 54 = .ok (.aload_n 0, 1) := by decide +kernel
theorem dX11_busiest_55 : decode cX11_busiest 55 = .ok (.getfield 104, 3) := by decide +kernel
theorem dX11_busiest_58 : decode cX11_busiest 58 = .ok (.iload 5, 2) := by decide +kernel
theorem dX11_busiest_60 : decode cX11_busiest 60 = .ok (.invokevirtual 281, 3) := by decide +kernel
theorem dX11_busiest_63 : decode cX11_busiest 63 = .ok (.ifCond .eq 53, 3) := by decide +kernel
theorem dX11_busiest_66 : decode cX11_busiest 66 = .ok (.aload_n 0, 1) := by decide +kernel
theorem dX11_busiest_67 : decode cX11_busiest 67 = .ok (.getfield 96, 3) := by decide +kernel
theorem dX11_busiest_70 : decode cX11_busiest 70 = .ok (.iload 5, 2) := by decide +kernel
theorem dX11_busiest_72 : decode cX11_busiest 72 = .ok (.iconst 2, 1) := by decide +kernel
theorem dX11_busiest_73 : decode cX11_busiest 73 = .ok (.invokevirtual 169, 3) := by decide +kernel
theorem dX11_busiest_76 : decode cX11_busiest 76 = .ok (.iload_n 2, 1) := by decide +kernel
theorem dX11_busiest_77 : decode cX11_busiest 77 = .ok (.isub, 1) := by decide +kernel
theorem dX11_busiest_78 : decode cX11_busiest 78 = .ok (.istore 6, 2) := by decide +kernel
theorem dX11_busiest_80 : decode cX11_busiest 80 = .ok (.aload_n 0, 1) := by decide +kernel
theorem dX11_busiest_81 : decode cX11_busiest 81 = .ok (.iload_n 2, 1) := by decide +kernel
theorem dX11_busiest_82 : decode cX11_busiest 82 = .ok (.iload 6, 2) := by decide +kernel
theorem dX11_busiest_84 : decode cX11_busiest 84 = .ok (.iadd, 1) := by decide +kernel
theorem dX11_busiest_85 : decode cX11_busiest 85 = .ok (.invokevirtual 278, 3) := by decide +kernel
theorem dX11_busiest_88 : decode cX11_busiest 88 = .ok (.istore 7, 2) := by decide +kernel
theorem dX11_busiest_90 : decode cX11_busiest 90 = .ok (.iload 7, 2) := by decide +kernel
theorem dX11_busiest_92 : decode cX11_busiest 92 = .ok (.iload_n 3, 1) := by decide +kernel
theorem dX11_busiest_93 : decode cX11_busiest 93 = .ok (.if_icmp .gt 16, 3) := by decide +kernel
theorem dX11_busiest_96 : decode cX11_busiest 96 = .ok (.iload 7, 2) := by decide +kernel
theorem dX11_busiest_98 : decode cX11_busiest 98 = .ok (.iload_n 3, 1) := by decide +kernel
theorem dX11_busiest_99 : decode cX11_busiest 99 = .ok (.if_icmp .ne 17, 3) := by decide +kernel
theorem dX11_busiest_102 : decode cX11_busiest 102 = .ok (.iload 6, 2) := by decide +kernel
theorem dX11_busiest_104 : decode cX11_busiest 104 = .ok (.iload 4, 2) := by decide +kernel
theorem dX11_busiest_106 : decode cX11_busiest 106 = .ok (.if_icmp .ge 10, 3) := by decide +kernel
theorem dX11_busiest_109 : decode cX11_busiest 109 = .ok (.iload 7, 2) := by decide +kernel
theorem dX11_busiest_111 : decode cX11_busiest 111 = .ok (.istore_n 3, 1) := by decide +kernel
theorem dX11_busiest_112 : decode cX11_busiest 112 = .ok (.iload 6, 2) := by decide +kernel
theorem dX11_busiest_114 : decode cX11_busiest 114 = .ok (.istore 4, 2) := by decide +kernel
theorem dX11_busiest_116 : decode cX11_busiest 116 = .ok (.iinc 5 1, 3) := by decide +kernel
theorem dX11_busiest_119 : decode cX11_busiest 119 = .ok (.goto (-89), 3) := by decide +kernel
theorem dX11_busiest_122 : decode cX11_busiest 122 = .ok (.iload 4, 2) := by decide +kernel
theorem dX11_busiest_124 : decode cX11_busiest 124 = .ok (.ireturn, 1) := by decide +kernel
theorem dX11_hog_0 : decode cX11_hog 0 = .ok (.iload_n 1, 1) := by decide +kernel
theorem dX11_hog_1 : decode cX11_hog 1 = .ok (.invokestatic 252, 3) := by decide +kernel
theorem dX11_hog_4 : decode cX11_hog 4 = .ok (.aload_n 0, 1) := by decide +kernel
theorem dX11_hog_5 : decode cX11_hog 5 = .ok (.iload_n 1, 1) := by decide +kernel
theorem dX11_hog_6 : decode cX11_hog 6 = .ok (.invokevirtual 255, 3) := by decide +kernel
theorem dX11_hog_9 : decode cX11_hog 9 = .ok (.istore_n 2, 1) := by decide +kernel
theorem dX11_hog_10 : decode cX11_hog 10 = .ok (.aload_n 0, 1) := by decide +kernel
theorem dX11_hog_11 : decode cX11_hog 11 = .ok (.getfield 104, 3) := by decide +kernel
theorem dX11_hog_14 : decode cX11_hog 14 = .ok (.iconst 3, 1) := by decide +kernel
theorem dX11_hog_15 : decode cX11_hog 15 = .ok (.invokevirtual 284, 3) := by decide +kernel
theorem dX11_hog_18 : decode cX11_hog 18 = .ok (.istore_n 3, 1) := by decide +kernel
theorem dX11_hog_19 : decode cX11_hog 19 = .ok (.iconst (-1), 1) := by decide +kernel
theorem dX11_hog_20 : decode cX11_hog 20 = .ok (.istore 4, 2) := by decide +kernel
theorem dX11_hog_22 : decode cX11_hog 22 = .ok (.iconst 0, 1) := by decide +kernel
theorem dX11_hog_23 : decode cX11_hog 23 = .ok (.istore 5, 2) := by decide +kernel
theorem dX11_hog_25 : decode cX11_hog 25 = .ok (.iconst 0, 1) := by decide +kernel
theorem dX11_hog_26 : decode cX11_hog 26 = .ok (.istore 6, 2) := by decide +kernel
theorem dX11_hog_28 : decode cX11_hog 28 = .ok (.iload 6, 2) := by decide +kernel
theorem dX11_hog_30 : decode cX11_hog 30 = .ok (.aload_n 0, 1) := by decide +kernel
theorem dX11_hog_31 : decode cX11_hog 31 = .ok (.getfield 96, 3) := by decide +kernel
theorem dX11_hog_34 : decode cX11_hog 34 = .ok (.invokevirtual 258, 3) := by decide +kernel
theorem dX11_hog_37 : decode cX11_hog 37 = .ok (.if_icmp .ge 89, 3) := by decide +kernel
theorem dX11_hog_40 : decode cX11_hog 40 = .ok (.aload_n 0, 1) := by decide +kernel
theorem dX11_hog_41 : decode cX11_hog 41 = .ok (.getfield 96, 3) := by decide +kernel
theorem dX11_hog_44 : decode cX11_hog 44 = .ok (.iload 6, 2) := by decide +kernel
theorem dX11_hog_46 : decode cX11_hog 46 = .ok (.invokevirtual 261, 3) := by decide +kernel
theorem dX11_hog_49 : decode cX11_hog 49 = .ok (.ifCond .eq 71, 3) := by decide +kernel
theorem dX11_hog_52 : decode cX11_hog 52 = .ok (.iload_n 2, 1) := by decide +kernel
theorem dX11_hog_53 : decode cX11_hog 53 = .ok (.iload_n 3, 1) := by decide +kernel
theorem dX11_hog_54 : decode cX11_hog 54 = .ok (.iload 6, 2) := by decide +kernel
theorem dX11_hog_56 : decode cX11_hog 56 = .ok (.ishr, 1) := by decide +kernel
theorem dX11_hog_57 : decode cX11_hog 57 = .ok (.iconst 1, 1) := by decide +kernel
theorem dX11_hog_58 : decode cX11_hog 58 = .ok (.iand, 1) := by decide +kernel
theorem dX11_hog_59 : decode cX11_hog 59 = .ok (.isub, 1) := by decide +kernel
theorem dX11_hog_60 : decode cX11_hog 60 = .ok (.istore 7, 2) := by decide +kernel
theorem dX11_hog_62 : decode cX11_hog 62 = .ok (.aload_n 0, 1) := by decide +kernel
theorem dX11_hog_63 : decode cX11_hog 63 = .ok (.getfield 104, 3) := by decide +kernel
theorem dX11_hog_66 : decode cX11_hog 66 = .ok (.aload_n 0, 1) := by decide +kernel
theorem dX11_hog_67 : decode cX11_hog 67 = .ok (.getfield 96, 3) := by decide +kernel
theorem dX11_hog_70 : decode cX11_hog 70 = .ok (.invokevirtual 216, 3) := by decide +kernel
theorem dX11_hog_73 : decode cX11_hog 73 = .ok (.aload_n 0, 1) := by decide +kernel
theorem dX11_hog_74 : decode cX11_hog 74 = .ok (.getfield 104, 3) := by decide +kernel
theorem dX11_hog_77 : decode cX11_hog 77 = .ok (.iload 6, 2) := by decide +kernel
theorem dX11_hog_79 : decode cX11_hog 79 = .ok (.invokevirtual 287, 3) := by decide +kernel
theorem dX11_hog_82 : decode cX11_hog 82 = .ok (.aload_n 0, 1) := by decide +kernel
theorem dX11_hog_83 : decode cX11_hog 83 = .ok (.getfield 104, 3) := by decide +kernel
theorem dX11_hog_86 : decode cX11_hog 86 = .ok (.iload_n 1, 1) := by decide +kernel
theorem dX11_hog_87 : decode cX11_hog 87 = .ok (.invokevirtual 202, 3) := by decide +kernel
theorem dX11_hog_90 : decode cX11_hog 90 = .ok (.istore 8, 2) := by decide +kernel
theorem dX11_hog_92 : decode cX11_hog 92 = .ok (.iload 8, 2) := by decide +kernel
theorem dX11_hog_94 : decode cX11_hog 94 = .ok (.iload 7, 2) := by decide +kernel
theorem dX11_hog_96 : decode cX11_hog 96 = .ok (.if_icmp .ge 24, 3) := by decide +kernel
theorem dX11_hog_99 : decode cX11_hog 99 = .ok (.iload 4, 2) := by decide +kernel
theorem dX11_hog_101 : decode cX11_hog 101 = .ok (.iconst (-1), 1) := by decide +kernel
theorem dX11_hog_102 : decode cX11_hog 102 = .ok (.if_icmp .eq 10, 3) := by decide +kernel
theorem dX11_hog_105 : decode cX11_hog 105 = .ok (.iload 8, 2) := by decide +kernel
theorem dX11_hog_107 : decode cX11_hog 107 = .ok (.iload 5, 2) := by decide +kernel
theorem dX11_hog_109 : decode cX11_hog 109 = .ok (.if_icmp .ge 11, 3) := by decide +kernel
theorem dX11_hog_112 : decode cX11_hog 112 = .ok (.iload 6, 2) := by decide +kernel
theorem dX11_hog_114 : decode cX11_hog 114 = .ok (.istore 4, 2) := by decide +kernel
theorem dX11_hog_116 : decode cX11_hog 116 = .ok (.iload 8, 2) := by decide +kernel
theorem dX11_hog_118 : decode cX11_hog 118 = .ok (.istore 5, 2) := by decide +kernel
theorem dX11_hog_120 : decode cX11_hog 120 = .ok (.iinc 6 1, 3) := by decide +kernel
theorem dX11_hog_123 : decode cX11_hog 123 = .ok (.goto (-95), 3) := by decide +kernel
theorem dX11_hog_126 : decode cX11_hog 126 = .ok (.iload 4, 2) := by decide +kernel
theorem dX11_hog_128 : decode cX11_hog 128 = .ok (.ireturn, 1) := by decide +kernel
theorem dX11_foresee_0 : decode cX11_foresee 0 = .ok (.aload_n 0, 1) := by decide +kernel
theorem dX11_foresee_1 : decode cX11_foresee 1 = .ok (.getfield 104, 3) := by decide +kernel
theorem dX11_foresee_4 : decode cX11_foresee 4 = .ok (.aload_n 0, 1) := by decide +kernel
theorem dX11_foresee_5 : decode cX11_foresee 5 = .ok (.getfield 96, 3) := by decide +kernel
theorem dX11_foresee_8 : decode cX11_foresee 8 = .ok (.invokevirtual 216, 3) := by decide +kernel
theorem dX11_foresee_11 : decode cX11_foresee 11 = .ok (.aload_n 0, 1) := by decide +kernel
theorem dX11_foresee_12 : decode cX11_foresee 12 = .ok (.getfield 104, 3) := by decide +kernel
theorem dX11_foresee_15 : decode cX11_foresee 15 = .ok (.iload_n 1, 1) := by decide +kernel
theorem dX11_foresee_16 : decode cX11_foresee 16 = .ok (.invokevirtual 202, 3) := by decide +kernel
theorem dX11_foresee_19 : decode cX11_foresee 19 = .ok (.ireturn, 1) := by decide +kernel
theorem dX11_cordsInUse_0 : decode cX11_cordsInUse 0 = .ok (.iconst 0, 1) := by decide +kernel
theorem dX11_cordsInUse_1 : decode cX11_cordsInUse 1 = .ok (.istore_n 2, 1) := by decide +kernel
theorem dX11_cordsInUse_2 : decode cX11_cordsInUse 2 = .ok (.iconst 0, 1) := by decide +kernel
theorem dX11_cordsInUse_3 : decode cX11_cordsInUse 3 = .ok (.istore_n 3, 1) := by decide +kernel
theorem dX11_cordsInUse_4 : decode cX11_cordsInUse 4 = .ok (.iload_n 3, 1) := by decide +kernel
theorem dX11_cordsInUse_5 : decode cX11_cordsInUse 5 = .ok (.aload_n 0, 1) := by decide +kernel
theorem dX11_cordsInUse_6 : decode cX11_cordsInUse 6 = .ok (.getfield 96, 3) := by decide +kernel
theorem dX11_cordsInUse_9 : decode cX11_cordsInUse 9 = .ok (.invokevirtual 258, 3) := by decide +kernel
theorem dX11_cordsInUse_12 : decode cX11_cordsInUse 12 = .ok (.if_icmp .ge 90, 3) := by decide +kernel
theorem dX11_cordsInUse_15 : decode cX11_cordsInUse 15 = .ok (.aload_n 0, 1) := by decide +kernel
theorem dX11_cordsInUse_16 : decode cX11_cordsInUse 16 = .ok (.getfield 96, 3) := by decide +kernel
theorem dX11_cordsInUse_19 : decode cX11_cordsInUse 19 = .ok (.iload_n 3, 1) := by decide +kernel
theorem dX11_cordsInUse_20 : decode cX11_cordsInUse 20 = .ok (.invokevirtual 261, 3) := by decide +kernel
theorem dX11_cordsInUse_23 : decode cX11_cordsInUse 23 = .ok (.ifCond .ne 14, 3) := by decide +kernel
theorem dX11_cordsInUse_26 : decode cX11_cordsInUse 26 = .ok (.aload_n 0, 1) := by decide +kernel
theorem dX11_cordsInUse_27 : decode cX11_cordsInUse 27 = .ok (.getfield 96, 3) := by decide +kernel
theorem dX11_cordsInUse_30 : decode cX11_cordsInUse 30 = .ok (.iload_n 3, 1) := by decide +kernel
theorem dX11_cordsInUse_31 : decode cX11_cordsInUse 31 = .ok (.invokevirtual 290, 3) := by decide +kernel
theorem dX11_cordsInUse_34 : decode cX11_cordsInUse 34 = .ok (.ifCond .eq 7, 3) := by decide +kernel
theorem dX11_cordsInUse_37 : decode cX11_cordsInUse 37 = .ok (.iconst 1, 1) := by decide +kernel
theorem dX11_cordsInUse_38 : decode cX11_cordsInUse 38 = .ok (.goto 4, 3) := by decide +kernel
theorem dX11_cordsInUse_41 : decode cX11_cordsInUse 41 = .ok (.iconst 0, 1) := by decide +kernel
theorem dX11_cordsInUse_42 : decode cX11_cordsInUse 42 = .ok (.istore 4, 2) := by decide +kernel
theorem dX11_cordsInUse_44 : decode cX11_cordsInUse 44 = .ok (.aload_n 0, 1) := by decide +kernel
theorem dX11_cordsInUse_45 : decode cX11_cordsInUse 45 = .ok (.getfield 96, 3) := by decide +kernel
theorem dX11_cordsInUse_48 : decode cX11_cordsInUse 48 = .ok (.iload_n 3, 1) := by decide +kernel
theorem dX11_cordsInUse_49 : decode cX11_cordsInUse 49 = .ok (.iconst 2, 1) := by decide +kernel
theorem dX11_cordsInUse_50 : decode cX11_cordsInUse 50 = .ok (.invokevirtual 169, 3) := by decide +kernel
theorem dX11_cordsInUse_53 : decode cX11_cordsInUse 53 = .ok (.istore 5, 2) := by decide +kernel
theorem dX11_cordsInUse_55 : decode cX11_cordsInUse 55 = .ok (.aload_n 0, 1) := by decide +kernel
theorem dX11_cordsInUse_56 : decode cX11_cordsInUse 56 = .ok (.getfield 96, 3) := by decide +kernel
theorem dX11_cordsInUse_59 : decode cX11_cordsInUse 59 = .ok (.iload_n 3, 1) := by decide +kernel
theorem dX11_cordsInUse_60 : decode cX11_cordsInUse 60 = .ok (.invokevirtual 293, 3) := by decide +kernel
theorem dX11_cordsInUse_63 : decode cX11_cordsInUse 63 = .ok (.istore 6, 2) := by decide +kernel
theorem dX11_cordsInUse_65 : decode cX11_cordsInUse 65 = .ok (.iload 4, 2) := by decide +kernel
theorem dX11_cordsInUse_67 : decode cX11_cordsInUse 67 = .ok (.ifCond .eq 29, 3) := by decide +kernel
theorem dX11_cordsInUse_70 : decode cX11_cordsInUse 70 = .ok (.aload_n 0, 1) := by decide +kernel
theorem dX11_cordsInUse_71 : decode cX11_cordsInUse 71 = .ok (.getfield 104, 3) := by decide +kernel
theorem dX11_cordsInUse_74 : decode cX11_cordsInUse 74 = .ok (.iload_n 3, 1) := by decide +kernel
theorem dX11_cordsInUse_75 : decode cX11_cordsInUse 75 = .ok (.invokevirtual 281, 3) := by decide +kernel
theorem dX11_cordsInUse_78 : decode cX11_cordsInUse 78 = .ok (.ifCond .eq 18, 3) := by decide +kernel
theorem dX11_cordsInUse_81 : decode cX11_cordsInUse 81 = .ok (.iload 5, 2) := by decide +kernel
theorem dX11_cordsInUse_83 : decode cX11_cordsInUse 83 = .ok (.iload_n 1, 1) := by decide +kernel
theorem dX11_cordsInUse_84 : decode cX11_cordsInUse 84 = .ok (.if_icmp .gt 12, 3) := by decide +kernel
theorem dX11_cordsInUse_87 : decode cX11_cordsInUse 87 = .ok (.iload_n 1, 1) := by decide +kernel
theorem dX11_cordsInUse_88 : decode cX11_cordsInUse 88 = .ok (.iload 6, 2) := by decide +kernel
theorem dX11_cordsInUse_90 : decode cX11_cordsInUse 90 = .ok (.if_icmp .ge 6, 3) := by decide +kernel
theorem dX11_cordsInUse_93 : decode cX11_cordsInUse 93 = .ok (.iinc 2 1, 3) := by decide +kernel
theorem dX11_cordsInUse_96 : decode cX11_cordsInUse 96 = .ok (.iinc 3 1, 3) := by decide +kernel
theorem dX11_cordsInUse_99 : decode cX11_cordsInUse 99 = .ok (.goto (-95), 3) := by decide +kernel
theorem dX11_cordsInUse_102 : decode cX11_cordsInUse 102 = .ok (.iload_n 2, 1) := by decide +kernel
theorem dX11_cordsInUse_103 : decode cX11_cordsInUse 103 = .ok (.ireturn, 1) := by decide +kernel
theorem dX11_best_0 : decode cX11_best 0 = .ok (.iload_n 1, 1) := by decide +kernel
theorem dX11_best_1 : decode cX11_best 1 = .ok (.iconst 0, 1) := by decide +kernel
theorem dX11_best_2 : decode cX11_best 2 = .ok (.iconst 1, 1) := by decide +kernel
theorem dX11_best_3 : decode cX11_best 3 = .ok (.invokestatic 112, 3) := by decide +kernel
theorem dX11_best_6 : decode cX11_best 6 = .ok (.aload_n 0, 1) := by decide +kernel
theorem dX11_best_7 : decode cX11_best 7 = .ok (.getfield 49, 3) := by decide +kernel
theorem dX11_best_10 : decode cX11_best 10 = .ok (.aload_n 0, 1) := by decide +kernel
theorem dX11_best_11 : decode cX11_best 11 = .ok (.getfield 96, 3) := by decide +kernel
theorem dX11_best_14 : decode cX11_best 14 = .ok (.invokevirtual 296, 3) := by decide +kernel
theorem dX11_best_17 : decode cX11_best 17 = .ok (.iload_n 1, 1) := by decide +kernel
theorem dX11_best_18 : decode cX11_best 18 = .ok (.ifCond .ne 13, 3) := by decide +kernel
theorem dX11_best_21 : decode cX11_best 21 = .ok (.aload_n 0, 1) := by decide +kernel
theorem dX11_best_22 : decode cX11_best 22 = .ok (.getfield 49, 3) := by decide +kernel
theorem dX11_best_25 : decode cX11_best 25 = .ok (.invokevirtual 299, 3) := by decide +kernel
theorem dX11_best_28 : decode cX11_best 28 = .ok (.goto 10, 3) := by decide +kernel
theorem dX11_best_31 : decode cX11_best 31 = .ok (.aload_n 0, 1) := by decide +kernel
theorem dX11_best_32 : decode cX11_best 32 = .ok (.getfield 49, 3) := by decide +kernel
theorem dX11_best_35 : decode cX11_best 35 = .ok (.invokevirtual 302, 3) := by decide +kernel
theorem dX11_best_38 : decode cX11_best 38 = .ok (.ireturn, 1) := by decide +kernel
theorem dX11_bestBy_0 : decode cX11_bestBy 0 = .ok (.iload_n 1, 1) := by decide +kernel
theorem dX11_bestBy_1 : decode cX11_bestBy 1 = .ok (.iconst 0, 1) := by decide +kernel
theorem dX11_bestBy_2 : decode cX11_bestBy 2 = .ok (.iconst 3, 1) := by decide +kernel
theorem dX11_bestBy_3 : decode cX11_bestBy 3 = .ok (.invokestatic 112, 3) := by decide +kernel
theorem dX11_bestBy_6 : decode cX11_bestBy 6 = .ok (.aload_n 0, 1) := by decide +kernel
theorem dX11_bestBy_7 : decode cX11_bestBy 7 = .ok (.getfield 49, 3) := by decide +kernel
theorem dX11_bestBy_10 : decode cX11_bestBy 10 = .ok (.aload_n 0, 1) := by decide +kernel
theorem dX11_bestBy_11 : decode cX11_bestBy 11 = .ok (.getfield 96, 3) := by decide +kernel
theorem dX11_bestBy_14 : decode cX11_bestBy 14 = .ok (.iload_n 1, 1) := by decide +kernel
theorem dX11_bestBy_15 : decode cX11_bestBy 15 = .ok (.invokevirtual 305, 3) := by decide +kernel
theorem dX11_bestBy_18 : decode cX11_bestBy 18 = .ok (.aload_n 0, 1) := by decide +kernel
theorem dX11_bestBy_19 : decode cX11_bestBy 19 = .ok (.getfield 49, 3) := by decide +kernel
theorem dX11_bestBy_22 : decode cX11_bestBy 22 = .ok (.invokevirtual 299, 3) := by decide +kernel
theorem dX11_bestBy_25 : decode cX11_bestBy 25 = .ok (.ireturn, 1) := by decide +kernel
theorem dX11_enough_0 : decode cX11_enough 0 = .ok (.aload_n 0, 1) := by decide +kernel
theorem dX11_enough_1 : decode cX11_enough 1 = .ok (.getfield 96, 3) := by decide +kernel
theorem dX11_enough_4 : decode cX11_enough 4 = .ok (.getfield 100, 3) := by decide +kernel
theorem dX11_enough_7 : decode cX11_enough 7 = .ok (.getfield 150, 3) := by decide +kernel
theorem dX11_enough_10 : decode cX11_enough 10 = .ok (.istore_n 1, 1) := by decide +kernel
theorem dX11_enough_11 : decode cX11_enough 11 = .ok (.iconst (-1), 1) := by decide +kernel
theorem dX11_enough_12 : decode cX11_enough 12 = .ok (.istore_n 2, 1) := by decide +kernel
theorem dX11_enough_13 : decode cX11_enough 13 = .ok (.iconst 1, 1) := by decide +kernel
theorem dX11_enough_14 : decode cX11_enough 14 = .ok (.istore_n 3, 1) := by decide +kernel
theorem dX11_enough_15 : decode cX11_enough 15 = .ok (.iload_n 3, 1) := by decide +kernel
theorem dX11_enough_16 : decode cX11_enough 16 = .ok (.iconst 1, 1) := by decide +kernel
theorem dX11_enough_17 : decode cX11_enough 17 = .ok (.iload_n 1, 1) := by decide +kernel
theorem dX11_enough_18 : decode cX11_enough 18 = .ok (.ishl, 1) := by decide +kernel
theorem dX11_enough_19 : decode cX11_enough 19 = .ok (.if_icmp .ge 37, 3) := by decide +kernel
theorem dX11_enough_22 : decode cX11_enough 22 = .ok (.iload_n 3, 1) := by decide +kernel
theorem dX11_enough_23 : decode cX11_enough 23 = .ok (.invokestatic 308, 3) := by decide +kernel
theorem dX11_enough_26 : decode cX11_enough 26 = .ok (.istore 4, 2) := by decide +kernel
theorem dX11_enough_28 : decode cX11_enough 28 = .ok (.iload_n 2, 1) := by decide +kernel
theorem dX11_enough_29 : decode cX11_enough 29 = .ok (.iconst (-1), 1) := by decide +kernel
theorem dX11_enough_30 : decode cX11_enough 30 = .ok (.if_icmp .eq 9, 3) := by decide +kernel
theorem dX11_enough_33 : decode cX11_enough 33 = .ok (.iload 4, 2) := by decide +kernel
theorem dX11_enough_35 : decode cX11_enough 35 = .ok (.iload_n 2, 1) := by decide +kernel
theorem dX11_enough_36 : decode cX11_enough 36 = .ok (.if_icmp .ge 14, 3) := by decide +kernel
theorem dX11_enough_39 : decode cX11_enough 39 = .ok (.aload_n 0, 1) := by decide +kernel
theorem dX11_enough_40 : decode cX11_enough 40 = .ok (.iload_n 3, 1) := by decide +kernel
theorem dX11_enough_41 : decode cX11_enough 41 = .ok (.invokevirtual 313, 3) := by decide +kernel
theorem dX11_enough_44 : decode cX11_enough 44 = .ok (.ifCond .eq 6, 3) := by decide +kernel
theorem dX11_enough_47 : decode cX11_enough 47 = .ok (.iload 4, 2) := by decide +kernel
theorem dX11_enough_49 : decode cX11_enough 49 = .ok (.istore_n 2, 1) := by decide +kernel
theorem dX11_enough_50 : decode cX11_enough 50 = .ok (.iinc 3 1, 3) := by decide +kernel
theorem dX11_enough_53 : decode cX11_enough 53 = .ok (.goto (-38), 3) := by decide +kernel
theorem dX11_enough_56 : decode cX11_enough 56 = .ok (.iload_n 2, 1) := by decide +kernel
theorem dX11_enough_57 : decode cX11_enough 57 = .ok (.ireturn, 1) := by decide +kernel
theorem dX11_joinAnyTwo_0 : decode cX11_joinAnyTwo 0 = .ok (.aload_n 0, 1) := by decide +kernel
theorem dX11_joinAnyTwo_1 : decode cX11_joinAnyTwo 1 = .ok (.getfield 96, 3) := by decide +kernel
theorem dX11_joinAnyTwo_4 : decode cX11_joinAnyTwo 4 = .ok (.getfield 100, 3) := by decide +kernel
theorem dX11_joinAnyTwo_7 : decode cX11_joinAnyTwo 7 = .ok (.astore_n 2, 1) := by decide +kernel
theorem dX11_joinAnyTwo_8 : decode cX11_joinAnyTwo 8 = .ok (.iconst 0, 1) := by decide +kernel
theorem dX11_joinAnyTwo_9 : decode cX11_joinAnyTwo 9 = .ok (.istore_n 3, 1) := by decide +kernel
theorem dX11_joinAnyTwo_10 : decode cX11_joinAnyTwo 10 = .ok (.iload_n 3, 1) := by decide +kernel
theorem dX11_joinAnyTwo_11 : decode cX11_joinAnyTwo 11 = .ok (.aload_n 2, 1) := by decide +kernel
theorem dX11_joinAnyTwo_12 : decode cX11_joinAnyTwo 12 = .ok (.getfield 242, 3) := by decide +kernel
theorem dX11_joinAnyTwo_15 : decode cX11_joinAnyTwo 15 = .ok (.if_icmp .ge 89, 3) := by decide +kernel
theorem dX11_joinAnyTwo_18 : decode cX11_joinAnyTwo 18 = .ok (.iload_n 3, 1) := by decide +kernel
theorem dX11_joinAnyTwo_19 : decode cX11_joinAnyTwo 19 = .ok (.iconst 1, 1) := by decide +kernel
theorem dX11_joinAnyTwo_20 : decode cX11_joinAnyTwo 20 = .ok (.iadd, 1) := by decide +kernel
theorem dX11_joinAnyTwo_21 : decode cX11_joinAnyTwo 21 = .ok (.istore 4, 2) := by decide +kernel
theorem dX11_joinAnyTwo_23 : decode cX11_joinAnyTwo 23 = .ok (.iload 4, 2) := by decide +kernel
theorem dX11_joinAnyTwo_25 : decode cX11_joinAnyTwo 25 = .ok (.aload_n 2, 1) := by decide +kernel
theorem dX11_joinAnyTwo_26 : decode cX11_joinAnyTwo 26 = .ok (.getfield 242, 3) := by decide +kernel
theorem dX11_joinAnyTwo_29 : decode cX11_joinAnyTwo 29 = .ok (.if_icmp .ge 69, 3) := by decide +kernel
theorem dX11_joinAnyTwo_32 : decode cX11_joinAnyTwo 32 = .ok (.iconst 0, 1) := by decide +kernel
theorem dX11_joinAnyTwo_33 : decode cX11_joinAnyTwo 33 = .ok (.istore 5, 2) := by decide +kernel
theorem dX11_joinAnyTwo_35 : decode cX11_joinAnyTwo 35 = .ok (.iconst 0, 1) := by decide +kernel
theorem dX11_joinAnyTwo_36 : decode cX11_joinAnyTwo 36 = .ok (.istore 6, 2) := by decide +kernel
theorem dX11_joinAnyTwo_38 : decode cX11_joinAnyTwo 38 = .ok (.iload 6, 2) := by decide +kernel
theorem dX11_joinAnyTwo_40 : decode cX11_joinAnyTwo 40 = .ok (.aload_n 2, 1) := by decide +kernel
theorem dX11_joinAnyTwo_41 : decode cX11_joinAnyTwo 41 = .ok (.getfield 150, 3) := by decide +kernel
theorem dX11_joinAnyTwo_44 : decode cX11_joinAnyTwo 44 = .ok (.if_icmp .ge 41, 3) := by decide +kernel
theorem dX11_joinAnyTwo_47 : decode cX11_joinAnyTwo 47 = .ok (.iload 5, 2) := by decide +kernel
theorem dX11_joinAnyTwo_49 : decode cX11_joinAnyTwo 49 = .ok (.iload_n 1, 1) := by decide +kernel
theorem dX11_joinAnyTwo_50 : decode cX11_joinAnyTwo 50 = .ok (.iload 6, 2) := by decide +kernel
theorem dX11_joinAnyTwo_52 : decode cX11_joinAnyTwo 52 = .ok (.ishr, 1) := by decide +kernel
theorem dX11_joinAnyTwo_53 : decode cX11_joinAnyTwo 53 = .ok (.iconst 1, 1) := by decide +kernel
theorem dX11_joinAnyTwo_54 : decode cX11_joinAnyTwo 54 = .ok (.iand, 1) := by decide +kernel
theorem dX11_joinAnyTwo_55 : decode cX11_joinAnyTwo 55 = .ok (.iconst 1, 1) := by decide +kernel
theorem dX11_joinAnyTwo_56 : decode cX11_joinAnyTwo 56 = .ok (.if_icmp .ne 19, 3) := by decide +kernel
theorem dX11_joinAnyTwo_59 : decode cX11_joinAnyTwo 59 = .ok (.aload_n 2, 1) := by decide +kernel
theorem dX11_joinAnyTwo_60 : decode cX11_joinAnyTwo 60 = .ok (.iload 6, 2) := by decide +kernel
theorem dX11_joinAnyTwo_62 : decode cX11_joinAnyTwo 62 = .ok (.iload_n 3, 1) := by decide +kernel
theorem dX11_joinAnyTwo_63 : decode cX11_joinAnyTwo 63 = .ok (.iload 4, 2) := by decide +kernel
theorem dX11_joinAnyTwo_65 : decode cX11_joinAnyTwo 65 = .ok (.invokevirtual 316, 3) := by decide +kernel
theorem dX11_joinAnyTwo_68 : decode cX11_joinAnyTwo 68 = .ok (.ifCond .eq 7, 3) := by decide +kernel
theorem dX11_joinAnyTwo_71 : decode cX11_joinAnyTwo 71 = .ok (.iconst 1, 1) := by decide +kernel
theorem dX11_joinAnyTwo_72 : decode cX11_joinAnyTwo 72 = .ok (.goto 4, 3) := by decide +kernel
theorem dX11_joinAnyTwo_75 : decode cX11_joinAnyTwo 75 = .ok (.iconst 0, 1) := by decide +kernel
theorem dX11_joinAnyTwo_76 : decode cX11_joinAnyTwo 76 = .ok (.ior, 1) := by decide +kernel
theorem dX11_joinAnyTwo_77 : decode cX11_joinAnyTwo 77 = .ok (.istore 5, 2) := by decide +kernel
theorem dX11_joinAnyTwo_79 : decode cX11_joinAnyTwo 79 = .ok (.iinc 6 1, 3) := by decide +kernel
theorem dX11_joinAnyTwo_82 : decode cX11_joinAnyTwo 82 = .ok (.goto (-44), 3) := by decide +kernel
theorem dX11_joinAnyTwo_85 : decode cX11_joinAnyTwo 85 = .ok (.iload 5, 2) := by decide +kernel
theorem dX11_joinAnyTwo_87 : decode cX11_joinAnyTwo 87 = .ok (.ifCond .ne 5, 3) := by decide +kernel
theorem dX11_joinAnyTwo_90 : decode cX11_joinAnyTwo 90 = .ok (.iconst 0, 1) := by decide +kernel
theorem dX11_joinAnyTwo_91 : decode cX11_joinAnyTwo 91 = .ok (.ireturn, 1) := by decide +kernel
theorem dX11_joinAnyTwo_92 : decode cX11_joinAnyTwo 92 = .ok (.iinc 4 1, 3) := by decide +kernel
theorem dX11_joinAnyTwo_95 : decode cX11_joinAnyTwo 95 = .ok (.goto (-72), 3) := by decide +kernel
theorem dX11_joinAnyTwo_98 : decode cX11_joinAnyTwo 98 = .ok (.iinc 3 1, 3) := by decide +kernel
theorem dX11_joinAnyTwo_101 : decode cX11_joinAnyTwo 101 = .ok (.goto (-91), 3) := by decide +kernel
theorem dX11_joinAnyTwo_104 : decode cX11_joinAnyTwo 104 = .ok (.iconst 1, 1) := by decide +kernel
theorem dX11_joinAnyTwo_105 : decode cX11_joinAnyTwo 105 = .ok (.ireturn, 1) := by decide +kernel
theorem dX11_atOnce_0 : decode cX11_atOnce 0 = .ok (.aload_n 0, 1) := by decide +kernel
theorem dX11_atOnce_1 : decode cX11_atOnce 1 = .ok (.iload_n 1, 1) := by decide +kernel
theorem dX11_atOnce_2 : decode cX11_atOnce 2 = .ok (.invokevirtual 212, 3) := by decide +kernel
theorem dX11_atOnce_5 : decode cX11_atOnce 5 = .ok (.astore_n 2, 1) := by decide +kernel
theorem dX11_atOnce_6 : decode cX11_atOnce 6 = .ok (.aload_n 0, 1) := by decide +kernel
theorem dX11_atOnce_7 : decode cX11_atOnce 7 = .ok (.aload_n 2, 1) := by decide +kernel
theorem dX11_atOnce_8 : decode cX11_atOnce 8 = .ok (.invokevirtual 319, 3) := by decide +kernel
theorem dX11_atOnce_11 : decode cX11_atOnce 11 = .ok (.iconst 0, 1) := by decide +kernel
theorem dX11_atOnce_12 : decode cX11_atOnce 12 = .ok (.istore_n 3, 1) := by decide +kernel
theorem dX11_atOnce_13 : decode cX11_atOnce 13 = .ok (.iconst 0, 1) := by decide +kernel
theorem dX11_atOnce_14 : decode cX11_atOnce 14 = .ok (.istore 4, 2) := by decide +kernel
theorem dX11_atOnce_16 : decode cX11_atOnce 16 = .ok (.iload 4, 2) := by decide +kernel
theorem dX11_atOnce_18 : decode cX11_atOnce 18 = .ok (.aload_n 2, 1) := by decide +kernel
theorem dX11_atOnce_19 : decode cX11_atOnce 19 = .ok (.invokevirtual 219, 3) := by decide +kernel
theorem dX11_atOnce_22 : decode cX11_atOnce 22 = .ok (.if_icmp .ge 43, 3) := by decide +kernel
theorem dX11_atOnce_25 : decode cX11_atOnce 25 = .ok (.iconst 1, 1) := by decide +kernel
theorem dX11_atOnce_26 : decode cX11_atOnce 26 = .ok (.aload_n 2, 1) := by decide +kernel
theorem dX11_atOnce_27 : decode cX11_atOnce 27 = .ok (.iload 4, 2) := by decide +kernel
theorem dX11_atOnce_29 : decode cX11_atOnce 29 = .ok (.invokevirtual 220, 3) := by decide +kernel
theorem dX11_atOnce_32 : decode cX11_atOnce 32 = .ok (.l2i, 1) := by decide +kernel
theorem dX11_atOnce_33 : decode cX11_atOnce 33 = .ok (.ishl, 1) := by decide +kernel
theorem dX11_atOnce_34 : decode cX11_atOnce 34 = .ok (.istore 5, 2) := by decide +kernel
theorem dX11_atOnce_36 : decode cX11_atOnce 36 = .ok (.iload_n 3, 1) := by decide +kernel
theorem dX11_atOnce_37 : decode cX11_atOnce 37 = .ok (.iload 5, 2) := by decide +kernel
theorem dX11_atOnce_39 : decode cX11_atOnce 39 = .ok (.iand, 1) := by decide +kernel
theorem dX11_atOnce_40 : decode cX11_atOnce 40 = .ok (.ifCond .eq 14, 3) := by decide +kernel
theorem dX11_atOnce_43 : decode cX11_atOnce 43 = .ok (.new 264, 3) := by decide +kernel
theorem dX11_atOnce_46 : decode cX11_atOnce 46 = .ok (.dup, 1) := by decide +kernel
theorem dX11_atOnce_47 : decode cX11_atOnce 47 = .ok (.ldc_w 323, 3) := by decide +kernel
theorem dX11_atOnce_50 : decode cX11_atOnce 50 = .ok (.invokespecial 268, 3) := by decide +kernel
theorem dX11_atOnce_53 : decode cX11_atOnce 53 = .ok (.athrow, 1) := by decide +kernel
theorem dX11_atOnce_54 : decode cX11_atOnce 54 = .ok (.iload_n 3, 1) := by decide +kernel
theorem dX11_atOnce_55 : decode cX11_atOnce 55 = .ok (.iload 5, 2) := by decide +kernel
theorem dX11_atOnce_57 : decode cX11_atOnce 57 = .ok (.ior, 1) := by decide +kernel
theorem dX11_atOnce_58 : decode cX11_atOnce 58 = .ok (.istore_n 3, 1) := by decide +kernel
theorem dX11_atOnce_59 : decode cX11_atOnce 59 = .ok (.iinc 4 1, 3) := by decide +kernel
theorem dX11_atOnce_62 : decode cX11_atOnce 62 = .ok (.goto (-46), 3) := by decide +kernel
theorem dX11_atOnce_65 : decode cX11_atOnce 65 = .ok (.aload_n 0, 1) := by decide +kernel
theorem dX11_atOnce_66 : decode cX11_atOnce 66 = .ok (.aload_n 2, 1) := by decide +kernel
theorem dX11_atOnce_67 : decode cX11_atOnce 67 = .ok (.iconst 0, 1) := by decide +kernel
theorem dX11_atOnce_68 : decode cX11_atOnce 68 = .ok (.iconst 0, 1) := by decide +kernel
theorem dX11_atOnce_69 : decode cX11_atOnce 69 = .ok (.invokevirtual 325, 3) := by decide +kernel
theorem dX11_atOnce_72 : decode cX11_atOnce 72 = .ok (.ireturn, 1) := by decide +kernel
theorem dX11_joinTwos_0 : decode cX11_joinTwos 0 = .ok (.iload_n 2, 1) := by decide +kernel
theorem dX11_joinTwos_1 : decode cX11_joinTwos 1 = .ok (.iconst 3, 1) := by decide +kernel
theorem dX11_joinTwos_2 : decode cX11_joinTwos 2 = .ok (.if_icmp .ge 15, 3) := by decide +kernel
theorem dX11_joinTwos_5 : decode cX11_joinTwos 5 = .ok (.iconst 2, 1) := by decide +kernel
theorem dX11_joinTwos_6 : decode cX11_joinTwos 6 = .ok (.iload_n 2, 1) := by decide +kernel
theorem dX11_joinTwos_7 : decode cX11_joinTwos 7 = .ok (.imul, 1) := by decide +kernel
theorem dX11_joinTwos_8 : decode cX11_joinTwos 8 = .ok (.iconst 1, 1) := by decide +kernel
theorem dX11_joinTwos_9 : decode cX11_joinTwos 9 = .ok (.iadd, 1) := by decide +kernel
theorem dX11_joinTwos_10 : decode cX11_joinTwos 10 = .ok (.aload_n 1, 1) := by decide +kernel
theorem dX11_joinTwos_11 : decode cX11_joinTwos 11 = .ok (.invokevirtual 219, 3) := by decide +kernel
theorem dX11_joinTwos_14 : decode cX11_joinTwos 14 = .ok (.if_icmp .lt 5, 3) := by decide +kernel
theorem dX11_joinTwos_17 : decode cX11_joinTwos 17 = .ok (.iconst 1, 1) := by decide +kernel
theorem dX11_joinTwos_18 : decode cX11_joinTwos 18 = .ok (.ireturn, 1) := by decide +kernel
theorem dX11_joinTwos_19 : decode cX11_joinTwos 19 = .ok (.aload_n 1, 1) := by decide +kernel
theorem dX11_joinTwos_20 : decode cX11_joinTwos 20 = .ok (.iconst 2, 1) := by decide +kernel
theorem dX11_joinTwos_21 : decode cX11_joinTwos 21 = .ok (.iload_n 2, 1) := by decide +kernel
theorem dX11_joinTwos_22 : decode cX11_joinTwos 22 = .ok (.imul, 1) := by decide +kernel
theorem dX11_joinTwos_23 : decode cX11_joinTwos 23 = .ok (.invokevirtual 220, 3) := by decide +kernel
theorem dX11_joinTwos_26 : decode cX11_joinTwos 26 = .ok (.l2i, 1) := by decide +kernel
theorem dX11_joinTwos_27 : decode cX11_joinTwos 27 = .ok (.istore 4, 2) := by decide +kernel
theorem dX11_joinTwos_29 : decode cX11_joinTwos 29 = .ok (.aload_n 1, 1) := by decide +kernel
theorem dX11_joinTwos_30 : decode cX11_joinTwos 30 = .ok (.iconst 2, 1) := by decide +kernel
theorem dX11_joinTwos_31 : decode cX11_joinTwos 31 = .ok (.iload_n 2, 1) := by decide +kernel
theorem dX11_joinTwos_32 : decode cX11_joinTwos 32 = .ok (.imul, 1) := by decide +kernel
theorem dX11_joinTwos_33 : decode cX11_joinTwos 33 = .ok (.iconst 1, 1) := by decide +kernel
theorem dX11_joinTwos_34 : decode cX11_joinTwos 34 = .ok (.iadd, 1) := by decide +kernel
theorem dX11_joinTwos_35 : decode cX11_joinTwos 35 = .ok (.invokevirtual 220, 3) := by decide +kernel
theorem dX11_joinTwos_38 : decode cX11_joinTwos 38 = .ok (.l2i, 1) := by decide +kernel
theorem dX11_joinTwos_39 : decode cX11_joinTwos 39 = .ok (.istore 5, 2) := by decide +kernel
theorem dX11_joinTwos_41 : decode cX11_joinTwos 41 = .ok (.iconst 0, 1) := by decide +kernel
theorem dX11_joinTwos_42 : decode cX11_joinTwos 42 = .ok (.istore 6, 2) := by decide +kernel
theorem dX11_joinTwos_44 : decode cX11_joinTwos 44 = .ok (.iload 6, 2) := by decide +kernel
theorem dX11_joinTwos_46 : decode cX11_joinTwos 46 = .ok (.aload_n 0, 1) := by decide +kernel
theorem dX11_joinTwos_47 : decode cX11_joinTwos 47 = .ok (.getfield 96, 3) := by decide +kernel
theorem dX11_joinTwos_50 : decode cX11_joinTwos 50 = .ok (.getfield 100, 3) := by decide +kernel
theorem dX11_joinTwos_53 : decode cX11_joinTwos 53 = .ok (.getfield 150, 3) := by decide +kernel
theorem dX11_joinTwos_56 : decode cX11_joinTwos 56 = .ok (.if_icmp .ge 56, 3) := by decide +kernel
theorem dX11_joinTwos_59 : decode cX11_joinTwos 59 = .ok (.iload_n 3, 1) := by decide +kernel
theorem dX11_joinTwos_60 : decode cX11_joinTwos 60 = .ok (.iload 6, 2) := by decide +kernel
theorem dX11_joinTwos_62 : decode cX11_joinTwos 62 = .ok (.ishr, 1) := by decide +kernel
theorem dX11_joinTwos_63 : decode cX11_joinTwos 63 = .ok (.iconst 1, 1) := by decide +kernel
theorem dX11_joinTwos_64 : decode cX11_joinTwos 64 = .ok (.iand, 1) := by decide +kernel
theorem dX11_joinTwos_65 : decode cX11_joinTwos 65 = .ok (.ifCond .ne 41, 3) := by decide +kernel
theorem dX11_joinTwos_68 : decode cX11_joinTwos 68 = .ok (.aload_n 0, 1) := by decide +kernel
theorem dX11_joinTwos_69 : decode cX11_joinTwos 69 = .ok (.getfield 96, 3) := by decide +kernel
theorem dX11_joinTwos_72 : decode cX11_joinTwos 72 = .ok (.getfield 100, 3) := by decide +kernel
theorem dX11_joinTwos_75 : decode cX11_joinTwos 75 = .ok (.iload 6, 2) := by decide +kernel
theorem dX11_joinTwos_77 : decode cX11_joinTwos 77 = .ok (.iload 4, 2) := by decide +kernel
theorem dX11_joinTwos_79 : decode cX11_joinTwos 79 = .ok (.iload 5, 2) := by decide +kernel
theorem dX11_joinTwos_81 : decode cX11_joinTwos 81 = .ok (.invokevirtual 316, 3) := by decide +kernel
theorem dX11_joinTwos_84 : decode cX11_joinTwos 84 = .ok (.ifCond .eq 22, 3) := by decide +kernel
theorem dX11_joinTwos_87 : decode cX11_joinTwos 87 = .ok (.aload_n 0, 1) := by decide +kernel
theorem dX11_joinTwos_88 : decode cX11_joinTwos 88 = .ok (.aload_n 1, 1) := by decide +kernel
theorem dX11_joinTwos_89 : decode cX11_joinTwos 89 = .ok (.iload_n 2, 1) := by decide +kernel
theorem dX11_joinTwos_90 : decode cX11_joinTwos 90 = .ok (.iconst 1, 1) := by decide +kernel
theorem dX11_joinTwos_91 : decode cX11_joinTwos 91 = .ok (.iadd, 1) := by decide +kernel
theorem dX11_joinTwos_92 : decode cX11_joinTwos 92 = .ok (.iload_n 3, 1) := by decide +kernel
theorem dX11_joinTwos_93 : decode cX11_joinTwos 93 = .ok (.iconst 1, 1) := by decide +kernel
theorem dX11_joinTwos_94 : decode cX11_joinTwos 94 = .ok (.iload 6, 2) := by decide +kernel
theorem dX11_joinTwos_96 : decode cX11_joinTwos 96 = .ok (.ishl, 1) := by decide +kernel
theorem dX11_joinTwos_97 : decode cX11_joinTwos 97 = .ok (.ior, 1) := by decide +kernel
theorem dX11_joinTwos_98 : decode cX11_joinTwos 98 = .ok (.invokevirtual 325, 3) := by decide +kernel
theorem dX11_joinTwos_101 : decode cX11_joinTwos 101 = .ok (.ifCond .eq 5, 3) := by decide +kernel
theorem dX11_joinTwos_104 : decode cX11_joinTwos 104 = .ok (.iconst 1, 1) := by decide +kernel
theorem dX11_joinTwos_105 : decode cX11_joinTwos 105 = .ok (.ireturn, 1) := by decide +kernel
theorem dX11_joinTwos_106 : decode cX11_joinTwos 106 = .ok (.iinc 6 1, 3) := by decide +kernel
theorem dX11_joinTwos_109 : decode cX11_joinTwos 109 = .ok (.goto (-65), 3) := by decide +kernel
theorem dX11_joinTwos_112 : decode cX11_joinTwos 112 = .ok (.iconst 0, 1) := by decide +kernel
theorem dX11_joinTwos_113 : decode cX11_joinTwos 113 = .ok (.ireturn, 1) := by decide +kernel
theorem dX11_crossed_0 : decode cX11_crossed 0 = .ok (.aload_n 0, 1) := by decide +kernel
theorem dX11_crossed_1 : decode cX11_crossed 1 = .ok (.iload_n 1, 1) := by decide +kernel
theorem dX11_crossed_2 : decode cX11_crossed 2 = .ok (.invokevirtual 212, 3) := by decide +kernel
theorem dX11_crossed_5 : decode cX11_crossed 5 = .ok (.astore_n 3, 1) := by decide +kernel
theorem dX11_crossed_6 : decode cX11_crossed 6 = .ok (.aload_n 0, 1) := by decide +kernel
theorem dX11_crossed_7 : decode cX11_crossed 7 = .ok (.aload_n 3, 1) := by decide +kernel
theorem dX11_crossed_8 : decode cX11_crossed 8 = .ok (.invokevirtual 319, 3) := by decide +kernel
theorem dX11_crossed_11 : decode cX11_crossed 11 = .ok (.iload_n 2, 1) := by decide +kernel
theorem dX11_crossed_12 : decode cX11_crossed 12 = .ok (.iconst 0, 1) := by decide +kernel
theorem dX11_crossed_13 : decode cX11_crossed 13 = .ok (.aload_n 3, 1) := by decide +kernel
theorem dX11_crossed_14 : decode cX11_crossed 14 = .ok (.invokevirtual 219, 3) := by decide +kernel
theorem dX11_crossed_17 : decode cX11_crossed 17 = .ok (.iconst 2, 1) := by decide +kernel
theorem dX11_crossed_18 : decode cX11_crossed 18 = .ok (.idiv, 1) := by decide +kernel
theorem dX11_crossed_19 : decode cX11_crossed 19 = .ok (.iconst 1, 1) := by decide +kernel
theorem dX11_crossed_20 : decode cX11_crossed 20 = .ok (.isub, 1) := by decide +kernel
theorem dX11_crossed_21 : decode cX11_crossed 21 = .ok (.invokestatic 112, 3) := by decide +kernel
theorem dX11_crossed_24 : decode cX11_crossed 24 = .ok (.aload_n 0, 1) := by decide +kernel
theorem dX11_crossed_25 : decode cX11_crossed 25 = .ok (.getfield 56, 3) := by decide +kernel
theorem dX11_crossed_28 : decode cX11_crossed 28 = .ok (.aload_n 0, 1) := by decide +kernel
theorem dX11_crossed_29 : decode cX11_crossed 29 = .ok (.getfield 96, 3) := by decide +kernel
theorem dX11_crossed_32 : decode cX11_crossed 32 = .ok (.aload_n 3, 1) := by decide +kernel
theorem dX11_crossed_33 : decode cX11_crossed 33 = .ok (.invokevirtual 329, 3) := by decide +kernel
theorem dX11_crossed_36 : decode cX11_crossed 36 = .ok (.aload_n 0, 1) := by decide +kernel
theorem dX11_crossed_37 : decode cX11_crossed 37 = .ok (.getfield 56, 3) := by decide +kernel
theorem dX11_crossed_40 : decode cX11_crossed 40 = .ok (.iload_n 2, 1) := by decide +kernel
theorem dX11_crossed_41 : decode cX11_crossed 41 = .ok (.invokevirtual 333, 3) := by decide +kernel
theorem dX11_crossed_44 : decode cX11_crossed 44 = .ok (.ireturn, 1) := by decide +kernel
theorem dX11_crossings_0 : decode cX11_crossings 0 = .ok (.aload_n 0, 1) := by decide +kernel
theorem dX11_crossings_1 : decode cX11_crossings 1 = .ok (.iload_n 1, 1) := by decide +kernel
theorem dX11_crossings_2 : decode cX11_crossings 2 = .ok (.invokevirtual 212, 3) := by decide +kernel
theorem dX11_crossings_5 : decode cX11_crossings 5 = .ok (.astore_n 2, 1) := by decide +kernel
theorem dX11_crossings_6 : decode cX11_crossings 6 = .ok (.aload_n 0, 1) := by decide +kernel
theorem dX11_crossings_7 : decode cX11_crossings 7 = .ok (.aload_n 2, 1) := by decide +kernel
theorem dX11_crossings_8 : decode cX11_crossings 8 = .ok (.invokevirtual 319, 3) := by decide +kernel
theorem dX11_crossings_11 : decode cX11_crossings 11 = .ok (.aload_n 0, 1) := by decide +kernel
theorem dX11_crossings_12 : decode cX11_crossings 12 = .ok (.getfield 56, 3) := by decide +kernel
theorem dX11_crossings_15 : decode cX11_crossings 15 = .ok (.aload_n 0, 1) := by decide +kernel
theorem dX11_crossings_16 : decode cX11_crossings 16 = .ok (.getfield 96, 3) := by decide +kernel
theorem dX11_crossings_19 : decode cX11_crossings 19 = .ok (.aload_n 2, 1) := by decide +kernel
theorem dX11_crossings_20 : decode cX11_crossings 20 = .ok (.invokevirtual 329, 3) := by decide +kernel
theorem dX11_crossings_23 : decode cX11_crossings 23 = .ok (.aload_n 0, 1) := by decide +kernel
theorem dX11_crossings_24 : decode cX11_crossings 24 = .ok (.getfield 56, 3) := by decide +kernel
theorem dX11_crossings_27 : decode cX11_crossings 27 = .ok (.invokevirtual 336, 3) := by decide +kernel
theorem dX11_crossings_30 : decode cX11_crossings 30 = .ok (.ireturn, 1) := by decide +kernel
theorem dX11_stable_0 : decode cX11_stable 0 = .ok (.aload_n 0, 1) := by decide +kernel
theorem dX11_stable_1 : decode cX11_stable 1 = .ok (.getfield 63, 3) := by decide +kernel
theorem dX11_stable_4 : decode cX11_stable 4 = .ok (.aload_n 0, 1) := by decide +kernel
theorem dX11_stable_5 : decode cX11_stable 5 = .ok (.getfield 96, 3) := by decide +kernel
theorem dX11_stable_8 : decode cX11_stable 8 = .ok (.getfield 100, 3) := by decide +kernel
theorem dX11_stable_11 : decode cX11_stable 11 = .ok (.invokevirtual 339, 3) := by decide +kernel
theorem dX11_stable_14 : decode cX11_stable 14 = .ok (.aload_n 0, 1) := by decide +kernel
theorem dX11_stable_15 : decode cX11_stable 15 = .ok (.getfield 63, 3) := by decide +kernel
theorem dX11_stable_18 : decode cX11_stable 18 = .ok (.invokevirtual 342, 3) := by decide +kernel
theorem dX11_stable_21 : decode cX11_stable 21 = .ok (.ireturn, 1) := by decide +kernel
theorem dX11_partner_0 : decode cX11_partner 0 = .ok (.aload_n 0, 1) := by decide +kernel
theorem dX11_partner_1 : decode cX11_partner 1 = .ok (.iload_n 1, 1) := by decide +kernel
theorem dX11_partner_2 : decode cX11_partner 2 = .ok (.invokevirtual 136, 3) := by decide +kernel
theorem dX11_partner_5 : decode cX11_partner 5 = .ok (.aload_n 0, 1) := by decide +kernel
theorem dX11_partner_6 : decode cX11_partner 6 = .ok (.getfield 63, 3) := by decide +kernel
theorem dX11_partner_9 : decode cX11_partner 9 = .ok (.aload_n 0, 1) := by decide +kernel
theorem dX11_partner_10 : decode cX11_partner 10 = .ok (.getfield 96, 3) := by decide +kernel
theorem dX11_partner_13 : decode cX11_partner 13 = .ok (.getfield 100, 3) := by decide +kernel
theorem dX11_partner_16 : decode cX11_partner 16 = .ok (.invokevirtual 339, 3) := by decide +kernel
theorem dX11_partner_19 : decode cX11_partner 19 = .ok (.aload_n 0, 1) := by decide +kernel
theorem dX11_partner_20 : decode cX11_partner 20 = .ok (.getfield 63, 3) := by decide +kernel
theorem dX11_partner_23 : decode cX11_partner 23 = .ok (.iload_n 1, 1) := by decide +kernel
theorem dX11_partner_24 : decode cX11_partner 24 = .ok (.invokevirtual 345, 3) := by decide +kernel
theorem dX11_partner_27 : decode cX11_partner 27 = .ok (.ireturn, 1) := by decide +kernel
theorem dX11_leave_0 : decode cX11_leave 0 = .ok (.iconst 0, 1) := by decide +kernel
theorem dX11_leave_1 : decode cX11_leave 1 = .ok (.istore_n 1, 1) := by decide +kernel
theorem dX11_leave_2 : decode cX11_leave 2 = .ok (.iload_n 1, 1) := by decide +kernel
theorem dX11_leave_3 : decode cX11_leave 3 = .ok (.bipush 8, 2) := by decide +kernel
theorem dX11_leave_5 : decode cX11_leave 5 = .ok (.if_icmp .ge 23, 3) := by decide +kernel
theorem dX11_leave_8 : decode cX11_leave 8 = .ok (.aload_n 0, 1) := by decide +kernel
theorem dX11_leave_9 : decode cX11_leave 9 = .ok (.getfield 67, 3) := by decide +kernel
theorem dX11_leave_12 : decode cX11_leave 12 = .ok (.iload_n 1, 1) := by decide +kernel
theorem dX11_leave_13 : decode cX11_leave 13 = .ok (.aload_n 0, 1) := by decide +kernel
theorem dX11_leave_14 : decode cX11_leave 14 = .ok (.getfield 96, 3) := by decide +kernel
theorem dX11_leave_17 : decode cX11_leave 17 = .ok (.iload_n 1, 1) := by decide +kernel
theorem dX11_leave_18 : decode cX11_leave 18 = .ok (.invokevirtual 143, 3) := by decide +kernel
theorem dX11_leave_21 : decode cX11_leave 21 = .ok (.iastore, 1) := by decide +kernel
theorem dX11_leave_22 : decode cX11_leave 22 = .ok (.iinc 1 1, 3) := by decide +kernel
theorem dX11_leave_25 : decode cX11_leave 25 = .ok (.goto (-23), 3) := by decide +kernel
theorem dX11_leave_28 : decode cX11_leave 28 = .ok (.aload_n 0, 1) := by decide +kernel
theorem dX11_leave_29 : decode cX11_leave 29 = .ok (.getfield 96, 3) := by decide +kernel
theorem dX11_leave_32 : decode cX11_leave 32 = .ok (.getfield 100, 3) := by decide +kernel
theorem dX11_leave_35 : decode cX11_leave 35 = .ok (.aload_n 0, 1) := by decide +kernel
theorem dX11_leave_36 : decode cX11_leave 36 = .ok (.getfield 67, 3) := by decide +kernel
theorem dX11_leave_39 : decode cX11_leave 39 = .ok (.invokestatic 348, 3) := by decide +kernel
theorem dX11_leave_42 : decode cX11_leave 42 = .ok (.ireturn, 1) := by decide +kernel
theorem dX11_darlings_0 : decode cX11_darlings 0 = .ok (.aload_n 0, 1) := by decide +kernel
theorem dX11_darlings_1 : decode cX11_darlings 1 = .ok (.getfield 96, 3) := by decide +kernel
theorem dX11_darlings_4 : decode cX11_darlings 4 = .ok (.getfield 100, 3) := by decide +kernel
theorem dX11_darlings_7 : decode cX11_darlings 7 = .ok (.astore_n 1, 1) := by decide +kernel
theorem dX11_darlings_8 : decode cX11_darlings 8 = .ok (.iconst (-1), 1) := by decide +kernel
theorem dX11_darlings_9 : decode cX11_darlings 9 = .ok (.istore_n 2, 1) := by decide +kernel
theorem dX11_darlings_10 : decode cX11_darlings 10 = .ok (.iconst 0, 1) := by decide +kernel
theorem dX11_darlings_11 : decode cX11_darlings 11 = .ok (.istore_n 3, 1) := by decide +kernel
theorem dX11_darlings_12 : decode cX11_darlings 12 = .ok (.iconst 0, 1) := by decide +kernel
theorem dX11_darlings_13 : decode cX11_darlings 13 = .ok (.istore 4, 2) := by decide +kernel
theorem dX11_darlings_15 : decode cX11_darlings 15 = .ok (.iload 4, 2) := by decide +kernel
theorem dX11_darlings_17 : decode cX11_darlings 17 = .ok (.aload_n 1, 1) := by decide +kernel
theorem dX11_darlings_18 : decode cX11_darlings 18 = .ok (.getfield 242, 3) := by decide +kernel
theorem dX11_darlings_21 : decode cX11_darlings 21 = .ok (.if_icmp .ge 72, 3) := by decide +kernel
theorem dX11_darlings_24 : decode cX11_darlings 24 = .ok (.iload 4, 2) := by decide +kernel
theorem dX11_darlings_26 : decode cX11_darlings 26 = .ok (.iconst 1, 1) := by decide +kernel
theorem dX11_darlings_27 : decode cX11_darlings 27 = .ok (.iadd, 1) := by decide +kernel
theorem dX11_darlings_28 : decode cX11_darlings 28 = .ok (.istore 5, 2) := by decide +kernel
theorem dX11_darlings_30 : decode cX11_darlings 30 = .ok (.iload 5, 2) := by decide +kernel
theorem dX11_darlings_32 : decode cX11_darlings 32 = .ok (.aload_n 1, 1) := by decide +kernel
theorem dX11_darlings_33 : decode cX11_darlings 33 = .ok (.getfield 242, 3) := by decide +kernel
theorem dX11_darlings_36 : decode cX11_darlings 36 = .ok (.if_icmp .ge 51, 3) := by decide +kernel
theorem dX11_darlings_39 : decode cX11_darlings 39 = .ok (.aload_n 1, 1) := by decide +kernel
theorem dX11_darlings_40 : decode cX11_darlings 40 = .ok (.iload 4, 2) := by decide +kernel
theorem dX11_darlings_42 : decode cX11_darlings 42 = .ok (.iload 5, 2) := by decide +kernel
theorem dX11_darlings_44 : decode cX11_darlings 44 = .ok (.invokevirtual 173, 3) := by decide +kernel
theorem dX11_darlings_47 : decode cX11_darlings 47 = .ok (.aload_n 1, 1) := by decide +kernel
theorem dX11_darlings_48 : decode cX11_darlings 48 = .ok (.iload 5, 2) := by decide +kernel
theorem dX11_darlings_50 : decode cX11_darlings 50 = .ok (.iload 4, 2) := by decide +kernel
theorem dX11_darlings_52 : decode cX11_darlings 52 = .ok (.invokevirtual 173, 3) := by decide +kernel
theorem dX11_darlings_55 : decode cX11_darlings 55 = .ok (.iadd, 1) := by decide +kernel
theorem dX11_darlings_56 : decode cX11_darlings 56 = .ok (.istore 6, 2) := by decide +kernel
theorem dX11_darlings_58 : decode cX11_darlings 58 = .ok (.iload_n 2, 1) := by decide +kernel
theorem dX11_darlings_59 : decode cX11_darlings 59 = .ok (.iconst (-1), 1) := by decide +kernel
theorem dX11_darlings_60 : decode cX11_darlings 60 = .ok (.if_icmp .eq 9, 3) := by decide +kernel
theorem dX11_darlings_63 : decode cX11_darlings 63 = .ok (.iload 6, 2) := by decide +kernel
theorem dX11_darlings_65 : decode cX11_darlings 65 = .ok (.iload_n 3, 1) := by decide +kernel
theorem dX11_darlings_66 : decode cX11_darlings 66 = .ok (.if_icmp .le 15, 3) := by decide +kernel
theorem dX11_darlings_69 : decode cX11_darlings 69 = .ok (.bipush 10, 2) := by decide +kernel
theorem dX11_darlings_71 : decode cX11_darlings 71 = .ok (.iload 4, 2) := by decide +kernel
theorem dX11_darlings_73 : decode cX11_darlings 73 = .ok (.imul, 1) := by decide +kernel
theorem dX11_darlings_74 : decode cX11_darlings 74 = .ok (.iload 5, 2) := by decide +kernel
theorem dX11_darlings_76 : decode cX11_darlings 76 = .ok (.iadd, 1) := by decide +kernel
theorem dX11_darlings_77 : decode cX11_darlings 77 = .ok (.istore_n 2, 1) := by decide +kernel
theorem dX11_darlings_78 : decode cX11_darlings 78 = .ok (.iload 6, 2) := by decide +kernel
theorem dX11_darlings_80 : decode cX11_darlings 80 = .ok (.istore_n 3, 1) := by decide +kernel
theorem dX11_darlings_81 : decode cX11_darlings 81 = .ok (.iinc 5 1, 3) := by decide +kernel
theorem dX11_darlings_84 : decode cX11_darlings 84 = .ok (.goto (-54), 3) := by decide +kernel
theorem dX11_darlings_87 : decode cX11_darlings 87 = .ok (.iinc 4 1, 3) := by decide +kernel
theorem dX11_darlings_90 : decode cX11_darlings 90 = .ok (.goto (-75), 3) := by decide +kernel
theorem dX11_darlings_93 : decode cX11_darlings 93 = .ok (.iload_n 2, 1) := by decide +kernel
theorem dX11_darlings_94 : decode cX11_darlings 94 = .ok (.ireturn, 1) := by decide +kernel
theorem dX11_happiest_0 : decode cX11_happiest 0 = .ok (.iload_n 1, 1) := by decide +kernel
theorem dX11_happiest_1 : decode cX11_happiest 1 = .ok (.ifCond .eq 11, 3) := by decide +kernel
theorem dX11_happiest_4 : decode cX11_happiest 4 = .ok (.iload_n 1, 1) := by decide +kernel
theorem dX11_happiest_5 : decode cX11_happiest 5 = .ok (.bipush 10, 2) := by decide +kernel
theorem dX11_happiest_7 : decode cX11_happiest 7 = .ok (.bipush 17, 2) := by decide +kernel
theorem dX11_happiest_9 : decode cX11_happiest 9 = .ok (.invokestatic 112, 3) := by decide +kernel
theorem dX11_happiest_12 : decode cX11_happiest 12 = .ok (.aload_n 0, 1) := by decide +kernel
theorem dX11_happiest_13 : decode cX11_happiest 13 = .ok (.getfield 63, 3) := by decide +kernel
theorem dX11_happiest_16 : decode cX11_happiest 16 = .ok (.aload_n 0, 1) := by decide +kernel
theorem dX11_happiest_17 : decode cX11_happiest 17 = .ok (.getfield 96, 3) := by decide +kernel
theorem dX11_happiest_20 : decode cX11_happiest 20 = .ok (.getfield 100, 3) := by decide +kernel
theorem dX11_happiest_23 : decode cX11_happiest 23 = .ok (.invokevirtual 339, 3) := by decide +kernel
theorem dX11_happiest_26 : decode cX11_happiest 26 = .ok (.iload_n 1, 1) := by decide +kernel
theorem dX11_happiest_27 : decode cX11_happiest 27 = .ok (.ifCond .ne 13, 3) := by decide +kernel
theorem dX11_happiest_30 : decode cX11_happiest 30 = .ok (.aload_n 0, 1) := by decide +kernel
theorem dX11_happiest_31 : decode cX11_happiest 31 = .ok (.getfield 63, 3) := by decide +kernel
theorem dX11_happiest_34 : decode cX11_happiest 34 = .ok (.invokevirtual 352, 3) := by decide +kernel
theorem dX11_happiest_37 : decode cX11_happiest 37 = .ok (.goto 14, 3) := by decide +kernel
theorem dX11_happiest_40 : decode cX11_happiest 40 = .ok (.aload_n 0, 1) := by decide +kernel
theorem dX11_happiest_41 : decode cX11_happiest 41 = .ok (.getfield 63, 3) := by decide +kernel
theorem dX11_happiest_44 : decode cX11_happiest 44 = .ok (.iload_n 1, 1) := by decide +kernel
theorem dX11_happiest_45 : decode cX11_happiest 45 = .ok (.bipush 10, 2) := by decide +kernel
theorem dX11_happiest_47 : decode cX11_happiest 47 = .ok (.isub, 1) := by decide +kernel
theorem dX11_happiest_48 : decode cX11_happiest 48 = .ok (.invokevirtual 355, 3) := by decide +kernel
theorem dX11_happiest_51 : decode cX11_happiest 51 = .ok (.ireturn, 1) := by decide +kernel
theorem dX11_loss_0 : decode cX11_loss 0 = .ok (.iload_n 1, 1) := by decide +kernel
theorem dX11_loss_1 : decode cX11_loss 1 = .ok (.iconst 0, 1) := by decide +kernel
theorem dX11_loss_2 : decode cX11_loss 2 = .ok (.bipush 8, 2) := by decide +kernel
theorem dX11_loss_4 : decode cX11_loss 4 = .ok (.invokestatic 112, 3) := by decide +kernel
theorem dX11_loss_7 : decode cX11_loss 7 = .ok (.iload_n 2, 1) := by decide +kernel
theorem dX11_loss_8 : decode cX11_loss 8 = .ok (.iconst 1, 1) := by decide +kernel
theorem dX11_loss_9 : decode cX11_loss 9 = .ok (.bipush 20, 2) := by decide +kernel
theorem dX11_loss_11 : decode cX11_loss 11 = .ok (.invokestatic 112, 3) := by decide +kernel
theorem dX11_loss_14 : decode cX11_loss 14 = .ok (.iload_n 3, 1) := by decide +kernel
theorem dX11_loss_15 : decode cX11_loss 15 = .ok (.iconst 1, 1) := by decide +kernel
theorem dX11_loss_16 : decode cX11_loss 16 = .ok (.bipush 20, 2) := by decide +kernel
theorem dX11_loss_18 : decode cX11_loss 18 = .ok (.invokestatic 112, 3) := by decide +kernel
theorem dX11_loss_21 : decode cX11_loss 21 = .ok (.iload 4, 2) := by decide +kernel
theorem dX11_loss_23 : decode cX11_loss 23 = .ok (.iconst 0, 1) := by decide +kernel
theorem dX11_loss_24 : decode cX11_loss 24 = .ok (.iconst 1, 1) := by decide +kernel
theorem dX11_loss_25 : decode cX11_loss 25 = .ok (.invokestatic 112, 3) := by decide +kernel
theorem dX11_loss_28 : decode cX11_loss 28 = .ok (.iload_n 1, 1) := by decide +kernel
theorem dX11_loss_29 : decode cX11_loss 29 = .ok (.iload_n 2, 1) := by decide +kernel
theorem dX11_loss_30 : decode cX11_loss 30 = .ok (.iload_n 3, 1) := by decide +kernel
theorem dX11_loss_31 : decode cX11_loss 31 = .ok (.iload 4, 2) := by decide +kernel
theorem dX11_loss_33 : decode cX11_loss 33 = .ok (.ifCond .ne 7, 3) := by decide +kernel
theorem dX11_loss_36 : decode cX11_loss 36 = .ok (.iconst 1, 1) := by decide +kernel
theorem dX11_loss_37 : decode cX11_loss 37 = .ok (.goto 4, 3) := by decide +kernel
theorem dX11_loss_40 : decode cX11_loss 40 = .ok (.iconst 0, 1) := by decide +kernel
theorem dX11_loss_41 : decode cX11_loss 41 = .ok (.invokestatic 358, 3) := by decide +kernel
theorem dX11_loss_44 : decode cX11_loss 44 = .ok (.lreturn, 1) := by decide +kernel
theorem dX11_fewest_0 : decode cX11_fewest 0 = .ok (.iload_n 1, 1) := by decide +kernel
theorem dX11_fewest_1 : decode cX11_fewest 1 = .ok (.iconst 1, 1) := by decide +kernel
theorem dX11_fewest_2 : decode cX11_fewest 2 = .ok (.bipush 20, 2) := by decide +kernel
theorem dX11_fewest_4 : decode cX11_fewest 4 = .ok (.invokestatic 112, 3) := by decide +kernel
theorem dX11_fewest_7 : decode cX11_fewest 7 = .ok (.iload_n 2, 1) := by decide +kernel
theorem dX11_fewest_8 : decode cX11_fewest 8 = .ok (.iconst 1, 1) := by decide +kernel
theorem dX11_fewest_9 : decode cX11_fewest 9 = .ok (.bipush 20, 2) := by decide +kernel
theorem dX11_fewest_11 : decode cX11_fewest 11 = .ok (.invokestatic 112, 3) := by decide +kernel
theorem dX11_fewest_14 : decode cX11_fewest 14 = .ok (.iload_n 3, 1) := by decide +kernel
theorem dX11_fewest_15 : decode cX11_fewest 15 = .ok (.iconst 1, 1) := by decide +kernel
theorem dX11_fewest_16 : decode cX11_fewest 16 = .ok (.sipush 999, 3) := by decide +kernel
theorem dX11_fewest_19 : decode cX11_fewest 19 = .ok (.invokestatic 112, 3) := by decide +kernel
theorem dX11_fewest_22 : decode cX11_fewest 22 = .ok (.iconst 0, 1) := by decide +kernel
theorem dX11_fewest_23 : decode cX11_fewest 23 = .ok (.istore 4, 2) := by decide +kernel
theorem dX11_fewest_25 : decode cX11_fewest 25 = .ok (.iload 4, 2) := by decide +kernel
theorem dX11_fewest_27 : decode cX11_fewest 27 = .ok (.bipush 8, 2) := by decide +kernel
theorem dX11_fewest_29 : decode cX11_fewest 29 = .ok (.if_icmp .gt 35, 3) := by decide +kernel
theorem dX11_fewest_32 : decode cX11_fewest 32 = .ok (.iload 4, 2) := by decide +kernel
theorem dX11_fewest_34 : decode cX11_fewest 34 = .ok (.iload_n 1, 1) := by decide +kernel
theorem dX11_fewest_35 : decode cX11_fewest 35 = .ok (.iload_n 2, 1) := by decide +kernel
theorem dX11_fewest_36 : decode cX11_fewest 36 = .ok (.iconst 1, 1) := by decide +kernel
theorem dX11_fewest_37 : decode cX11_fewest 37 = .ok (.invokestatic 358, 3) := by decide +kernel
theorem dX11_fewest_40 : decode cX11_fewest 40 = .ok (.iload_n 3, 1) := by decide +kernel
theorem dX11_fewest_41 : decode cX11_fewest 41 = .ok (.i2l, 1) := by decide +kernel
theorem dX11_fewest_42 : decode cX11_fewest 42 = .ok (.lmul, 1) := by decide +kernel
theorem dX11_fewest_43 : decode cX11_fewest 43 = .ok (.iload 4, 2) := by decide +kernel
theorem dX11_fewest_45 : decode cX11_fewest 45 = .ok (.iload_n 1, 1) := by decide +kernel
theorem dX11_fewest_46 : decode cX11_fewest 46 = .ok (.iload_n 2, 1) := by decide +kernel
theorem dX11_fewest_47 : decode cX11_fewest 47 = .ok (.iconst 0, 1) := by decide +kernel
theorem dX11_fewest_48 : decode cX11_fewest 48 = .ok (.invokestatic 358, 3) := by decide +kernel
theorem dX11_fewest_51 : decode cX11_fewest 51 = .ok (.lcmp, 1) := by decide +kernel
theorem dX11_fewest_52 : decode cX11_fewest 52 = .ok (.ifCond .gt 6, 3) := by decide +kernel
theorem dX11_fewest_55 : decode cX11_fewest 55 = .ok (.iload 4, 2) := by decide +kernel
theorem dX11_fewest_57 : decode cX11_fewest 57 = .ok (.ireturn, 1) := by decide +kernel
theorem dX11_fewest_58 : decode cX11_fewest 58 = .ok (.iinc 4 1, 3) := by decide +kernel
theorem dX11_fewest_61 : decode cX11_fewest 61 = .ok (.goto (-36), 3) := by decide +kernel
theorem dX11_fewest_64 : decode cX11_fewest 64 = .ok (.iconst (-1), 1) := by decide +kernel
theorem dX11_fewest_65 : decode cX11_fewest 65 = .ok (.ireturn, 1) := by decide +kernel
theorem dX11_lossPart_0 : decode cX11_lossPart 0 = .ok (.lconst 1, 1) := by decide +kernel
theorem dX11_lossPart_1 : decode cX11_lossPart 1 = .ok (.lstore 4, 2) := by decide +kernel
theorem dX11_lossPart_3 : decode cX11_lossPart 3 = .ok (.lconst 1, 1) := by decide +kernel
theorem dX11_lossPart_4 : decode cX11_lossPart 4 = .ok (.lstore 6, 2) := by decide +kernel
theorem dX11_lossPart_6 : decode cX11_lossPart 6 = .ok (.iconst 1, 1) := by decide +kernel
theorem dX11_lossPart_7 : decode cX11_lossPart 7 = .ok (.istore 8, 2) := by decide +kernel
theorem dX11_lossPart_9 : decode cX11_lossPart 9 = .ok (.iload 8, 2) := by decide +kernel
theorem dX11_lossPart_11 : decode cX11_lossPart 11 = .ok (.iload_n 0, 1) := by decide +kernel
theorem dX11_lossPart_12 : decode cX11_lossPart 12 = .ok (.if_icmp .gt 60, 3) := by decide +kernel
theorem dX11_lossPart_15 : decode cX11_lossPart 15 = .ok (.iload_n 1, 1) := by decide +kernel
theorem dX11_lossPart_16 : decode cX11_lossPart 16 = .ok (.i2l, 1) := by decide +kernel
theorem dX11_lossPart_17 : decode cX11_lossPart 17 = .ok (.lload 4, 2) := by decide +kernel
theorem dX11_lossPart_19 : decode cX11_lossPart 19 = .ok (.lmul, 1) := by decide +kernel
theorem dX11_lossPart_20 : decode cX11_lossPart 20 = .ok (.lstore 9, 2) := by decide +kernel
theorem dX11_lossPart_22 : decode cX11_lossPart 22 = .ok (.iload_n 2, 1) := by decide +kernel
theorem dX11_lossPart_23 : decode cX11_lossPart 23 = .ok (.i2l, 1) := by decide +kernel
theorem dX11_lossPart_24 : decode cX11_lossPart 24 = .ok (.iload 8, 2) := by decide +kernel
theorem dX11_lossPart_26 : decode cX11_lossPart 26 = .ok (.i2l, 1) := by decide +kernel
theorem dX11_lossPart_27 : decode cX11_lossPart 27 = .ok (.lmul, 1) := by decide +kernel
theorem dX11_lossPart_28 : decode cX11_lossPart 28 = .ok (.lload 6, 2) := by decide +kernel
theorem dX11_lossPart_30 : decode cX11_lossPart 30 = .ok (.lmul, 1) := by decide +kernel
theorem dX11_lossPart_31 : decode cX11_lossPart 31 = .ok (.lload 9, 2) := by decide +kernel
theorem dX11_lossPart_33 : decode cX11_lossPart 33 = .ok (.ladd, 1) := by decide +kernel
theorem dX11_lossPart_34 : decode cX11_lossPart 34 = .ok (.lstore 11, 2) := by decide +kernel
theorem dX11_lossPart_36 : decode cX11_lossPart 36 = .ok (.lload 11, 2) := by decide +kernel
theorem dX11_lossPart_38 : decode cX11_lossPart 38 = .ok (.lload 9, 2) := by decide +kernel
theorem dX11_lossPart_40 : decode cX11_lossPart 40 = .ok (.invokestatic 362, 3) := by decide +kernel
theorem dX11_lossPart_43 : decode cX11_lossPart 43 = .ok (.lstore 13, 2) := by decide +kernel
theorem dX11_lossPart_45 : decode cX11_lossPart 45 = .ok (.lload 13, 2) := by decide +kernel
theorem dX11_lossPart_47 : decode cX11_lossPart 47 = .ok (.lconst 0, 1) := by decide +kernel
theorem dX11_lossPart_48 : decode cX11_lossPart 48 = .ok (.lcmp, 1) := by decide +kernel
theorem dX11_lossPart_49 : decode cX11_lossPart 49 = .ok (.ifCond .le 17, 3) := by decide +kernel
theorem dX11_lossPart_52 : decode cX11_lossPart 52 = .ok (.lload 9, 2) := by decide +kernel
theorem dX11_lossPart_54 : decode cX11_lossPart 54 = .ok (.lload 13, 2) := by decide +kernel
theorem dX11_lossPart_56 : decode cX11_lossPart 56 = .ok (.ldiv, 1) := by decide +kernel
theorem dX11_lossPart_57 : decode cX11_lossPart 57 = .ok (.lstore 4, 2) := by decide +kernel
theorem dX11_lossPart_59 : decode cX11_lossPart 59 = .ok (.lload 11, 2) := by decide +kernel
theorem dX11_lossPart_61 : decode cX11_lossPart 61 = .ok (.lload 13, 2) := by decide +kernel
theorem dX11_lossPart_63 : decode cX11_lossPart 63 = .ok (.ldiv, 1) := by decide +kernel
theorem dX11_lossPart_64 : decode cX11_lossPart 64 = .ok (.lstore 6, 2) := by decide +kernel
theorem dX11_lossPart_66 : decode cX11_lossPart 66 = .ok (.iinc 8 1, 3) := by decide +kernel
theorem dX11_lossPart_69 : decode cX11_lossPart 69 = .ok (.goto (-60), 3) := by decide +kernel
theorem dX11_lossPart_72 : decode cX11_lossPart 72 = .ok (.iload_n 3, 1) := by decide +kernel
theorem dX11_lossPart_73 : decode cX11_lossPart 73 = .ok (.ifCond .eq 8, 3) := by decide +kernel
theorem dX11_lossPart_76 : decode cX11_lossPart 76 = .ok (.lload 4, 2) := by decide +kernel
theorem dX11_lossPart_78 : decode cX11_lossPart 78 = .ok (.goto 5, 3) := by decide +kernel
theorem dX11_lossPart_81 : decode cX11_lossPart 81 = .ok (.lload 6, 2) := by decide +kernel
theorem dX11_lossPart_83 : decode cX11_lossPart 83 = .ok (.lreturn, 1) := by decide +kernel
theorem dX11_commonDivisor_0 : decode cX11_commonDivisor 0 = .ok (.lload_n 0, 1) := by decide +kernel
theorem dX11_commonDivisor_1 : decode cX11_commonDivisor 1 = .ok (.lstore 4, 2) := by decide +kernel
theorem dX11_commonDivisor_3 : decode cX11_commonDivisor 3 = .ok (.lload_n 2, 1) := by decide +kernel
theorem dX11_commonDivisor_4 : decode cX11_commonDivisor 4 = .ok (.lstore 6, 2) := by decide +kernel
theorem dX11_commonDivisor_6 : decode cX11_commonDivisor 6 = .ok (.iconst 0, 1) := by decide +kernel
theorem dX11_commonDivisor_7 : decode cX11_commonDivisor 7 = .ok (.istore 8, 2) := by decide +kernel
theorem dX11_commonDivisor_9 : decode cX11_commonDivisor 9 = .ok (.iload 8, 2) := by decide +kernel
theorem dX11_commonDivisor_11 : decode cX11_commonDivisor 11 = .ok (.sipush 200, 3) := by decide +kernel
theorem dX11_commonDivisor_14 : decode cX11_commonDivisor 14 = .ok (.if_icmp .ge 31, 3) := by decide +kernel
theorem dX11_commonDivisor_17 : decode cX11_commonDivisor 17 = .ok (.lload 6, 2) := by decide +kernel
theorem dX11_commonDivisor_19 : decode cX11_commonDivisor 19 = .ok (.lconst 0, 1) := by decide +kernel
theorem dX11_commonDivisor_20 : decode cX11_commonDivisor 20 = .ok (.lcmp, 1) := by decide +kernel
theorem dX11_commonDivisor_21 : decode cX11_commonDivisor 21 = .ok (.ifCond .eq 24, 3) := by decide +kernel
theorem dX11_commonDivisor_24 : decode cX11_commonDivisor 24 = .ok (.lload 4, 2) := by decide +kernel
theorem dX11_commonDivisor_26 : decode cX11_commonDivisor 26 = .ok (.lload 6, 2) := by decide +kernel
theorem dX11_commonDivisor_28 : decode cX11_commonDivisor 28 = .ok (.lrem, 1) := by decide +kernel
theorem dX11_commonDivisor_29 : decode cX11_commonDivisor 29 = .ok (.lstore 9, 2) := by decide +kernel
theorem dX11_commonDivisor_31 : decode cX11_commonDivisor 31 = .ok (.lload 6, 2) := by decide +kernel
theorem dX11_commonDivisor_33 : decode cX11_commonDivisor 33 = .ok (.lstore 4, 2) := by decide +kernel
theorem dX11_commonDivisor_35 : decode cX11_commonDivisor 35 = .ok (.lload 9, 2) := by decide +kernel
theorem dX11_commonDivisor_37 : decode cX11_commonDivisor 37 = .ok (.lstore 6, 2) := by decide +kernel
theorem dX11_commonDivisor_39 : decode cX11_commonDivisor 39 = .ok (.iinc 8 1, 3) := by decide +kernel
theorem dX11_commonDivisor_42 : decode cX11_commonDivisor 42 = .ok (.goto (-33), 3) := by decide +kernel
theorem dX11_commonDivisor_45 : decode cX11_commonDivisor 45 = .ok (.lload 4, 2) := by decide +kernel
theorem dX11_commonDivisor_47 : decode cX11_commonDivisor 47 = .ok (.lreturn, 1) := by decide +kernel
theorem dX11_rules_0 : decode cX11_rules 0 = .ok (.aload_n 0, 1) := by decide +kernel
theorem dX11_rules_1 : decode cX11_rules 1 = .ok (.iload_n 1, 1) := by decide +kernel
theorem dX11_rules_2 : decode cX11_rules 2 = .ok (.invokevirtual 212, 3) := by decide +kernel
theorem dX11_rules_5 : decode cX11_rules 5 = .ok (.astore_n 2, 1) := by decide +kernel
theorem dX11_rules_6 : decode cX11_rules 6 = .ok (.aload_n 0, 1) := by decide +kernel
theorem dX11_rules_7 : decode cX11_rules 7 = .ok (.aload_n 2, 1) := by decide +kernel
theorem dX11_rules_8 : decode cX11_rules 8 = .ok (.invokevirtual 366, 3) := by decide +kernel
theorem dX11_rules_11 : decode cX11_rules 11 = .ok (.iconst 0, 1) := by decide +kernel
theorem dX11_rules_12 : decode cX11_rules 12 = .ok (.istore_n 3, 1) := by decide +kernel
theorem dX11_rules_13 : decode cX11_rules 13 = .ok (.iconst 0, 1) := by decide +kernel
theorem dX11_rules_14 : decode cX11_rules 14 = .ok (.istore 4, 2) := by decide +kernel
theorem dX11_rules_16 : decode cX11_rules 16 = .ok (.iload 4, 2) := by decide +kernel
theorem dX11_rules_18 : decode cX11_rules 18 = .ok (.bipush 80, 2) := by decide +kernel
theorem dX11_rules_20 : decode cX11_rules 20 = .ok (.if_icmp .ge 22, 3) := by decide +kernel
theorem dX11_rules_23 : decode cX11_rules 23 = .ok (.aload_n 0, 1) := by decide +kernel
theorem dX11_rules_24 : decode cX11_rules 24 = .ok (.iload 4, 2) := by decide +kernel
theorem dX11_rules_26 : decode cX11_rules 26 = .ok (.aload_n 2, 1) := by decide +kernel
theorem dX11_rules_27 : decode cX11_rules 27 = .ok (.invokevirtual 369, 3) := by decide +kernel
theorem dX11_rules_30 : decode cX11_rules 30 = .ok (.ifCond .eq 6, 3) := by decide +kernel
theorem dX11_rules_33 : decode cX11_rules 33 = .ok (.iinc 3 1, 3) := by decide +kernel
theorem dX11_rules_36 : decode cX11_rules 36 = .ok (.iinc 4 1, 3) := by decide +kernel
theorem dX11_rules_39 : decode cX11_rules 39 = .ok (.goto (-23), 3) := by decide +kernel
theorem dX11_rules_42 : decode cX11_rules 42 = .ok (.iload_n 3, 1) := by decide +kernel
theorem dX11_rules_43 : decode cX11_rules 43 = .ok (.ireturn, 1) := by decide +kernel
theorem dX11_rule_0 : decode cX11_rule 0 = .ok (.aload_n 0, 1) := by decide +kernel
theorem dX11_rule_1 : decode cX11_rule 1 = .ok (.iload_n 1, 1) := by decide +kernel
theorem dX11_rule_2 : decode cX11_rule 2 = .ok (.invokevirtual 212, 3) := by decide +kernel
theorem dX11_rule_5 : decode cX11_rule 5 = .ok (.astore_n 3, 1) := by decide +kernel
theorem dX11_rule_6 : decode cX11_rule 6 = .ok (.aload_n 0, 1) := by decide +kernel
theorem dX11_rule_7 : decode cX11_rule 7 = .ok (.aload_n 3, 1) := by decide +kernel
theorem dX11_rule_8 : decode cX11_rule 8 = .ok (.invokevirtual 366, 3) := by decide +kernel
theorem dX11_rule_11 : decode cX11_rule 11 = .ok (.iload_n 2, 1) := by decide +kernel
theorem dX11_rule_12 : decode cX11_rule 12 = .ok (.ifCond .ge 14, 3) := by decide +kernel
theorem dX11_rule_15 : decode cX11_rule 15 = .ok (.new 264, 3) := by decide +kernel
theorem dX11_rule_18 : decode cX11_rule 18 = .ok (.dup, 1) := by decide +kernel
theorem dX11_rule_19 : decode cX11_rule 19 = .ok (.ldc_w 373, 3) := by decide +kernel
theorem dX11_rule_22 : decode cX11_rule 22 = .ok (.invokespecial 268, 3) := by decide +kernel
theorem dX11_rule_25 : decode cX11_rule 25 = .ok (.athrow, 1) := by decide +kernel
theorem dX11_rule_26 : decode cX11_rule 26 = .ok (.iconst 0, 1) := by decide +kernel
theorem dX11_rule_27 : decode cX11_rule 27 = .ok (.istore 4, 2) := by decide +kernel
theorem dX11_rule_29 : decode cX11_rule 29 = .ok (.iconst 0, 1) := by decide +kernel
theorem dX11_rule_30 : decode cX11_rule 30 = .ok (.istore 5, 2) := by decide +kernel
theorem dX11_rule_32 : decode cX11_rule 32 = .ok (.iload 5, 2) := by decide +kernel
theorem dX11_rule_34 : decode cX11_rule 34 = .ok (.bipush 80, 2) := by decide +kernel
theorem dX11_rule_36 : decode cX11_rule 36 = .ok (.if_icmp .ge 31, 3) := by decide +kernel
theorem dX11_rule_39 : decode cX11_rule 39 = .ok (.aload_n 0, 1) := by decide +kernel
theorem dX11_rule_40 : decode cX11_rule 40 = .ok (.iload 5, 2) := by decide +kernel
theorem dX11_rule_42 : decode cX11_rule 42 = .ok (.aload_n 3, 1) := by decide +kernel
theorem dX11_rule_43 : decode cX11_rule 43 = .ok (.invokevirtual 369, 3) := by decide +kernel
theorem dX11_rule_46 : decode cX11_rule 46 = .ok (.ifCond .eq 15, 3) := by decide +kernel
theorem dX11_rule_49 : decode cX11_rule 49 = .ok (.iload 4, 2) := by decide +kernel
theorem dX11_rule_51 : decode cX11_rule 51 = .ok (.iload_n 2, 1) := by decide +kernel
theorem dX11_rule_52 : decode cX11_rule 52 = .ok (.if_icmp .ne 6, 3) := by decide +kernel
theorem dX11_rule_55 : decode cX11_rule 55 = .ok (.iload 5, 2) := by decide +kernel
theorem dX11_rule_57 : decode cX11_rule 57 = .ok (.ireturn, 1) := by decide +kernel
theorem dX11_rule_58 : decode cX11_rule 58 = .ok (.iinc 4 1, 3) := by decide +kernel
theorem dX11_rule_61 : decode cX11_rule 61 = .ok (.iinc 5 1, 3) := by decide +kernel
theorem dX11_rule_64 : decode cX11_rule 64 = .ok (.goto (-32), 3) := by decide +kernel
theorem dX11_rule_67 : decode cX11_rule 67 = .ok (.iconst (-1), 1) := by decide +kernel
theorem dX11_rule_68 : decode cX11_rule 68 = .ok (.ireturn, 1) := by decide +kernel
theorem dX11_ask_0 : decode cX11_ask 0 = .ok (.aload_n 0, 1) := by decide +kernel
theorem dX11_ask_1 : decode cX11_ask 1 = .ok (.iload_n 1, 1) := by decide +kernel
theorem dX11_ask_2 : decode cX11_ask 2 = .ok (.invokevirtual 212, 3) := by decide +kernel
theorem dX11_ask_5 : decode cX11_ask 5 = .ok (.astore_n 2, 1) := by decide +kernel
theorem dX11_ask_6 : decode cX11_ask 6 = .ok (.aload_n 0, 1) := by decide +kernel
theorem dX11_ask_7 : decode cX11_ask 7 = .ok (.aload_n 2, 1) := by decide +kernel
theorem dX11_ask_8 : decode cX11_ask 8 = .ok (.invokevirtual 366, 3) := by decide +kernel
theorem dX11_ask_11 : decode cX11_ask 11 = .ok (.iconst (-1), 1) := by decide +kernel
theorem dX11_ask_12 : decode cX11_ask 12 = .ok (.istore_n 3, 1) := by decide +kernel
theorem dX11_ask_13 : decode cX11_ask 13 = .ok (.iconst 0, 1) := by decide +kernel
theorem dX11_ask_14 : decode cX11_ask 14 = .ok (.istore 4, 2) := by decide +kernel
theorem dX11_ask_16 : decode cX11_ask 16 = .ok (.iconst 0, 1) := by decide +kernel
theorem dX11_ask_17 : decode cX11_ask 17 = .ok (.istore 5, 2) := by decide +kernel
theorem dX11_ask_19 : decode cX11_ask 19 = .ok (.iload 5, 2) := by decide +kernel
theorem dX11_ask_21 : decode cX11_ask 21 = .ok (.aload_n 0, 1) := by decide +kernel
theorem dX11_ask_22 : decode cX11_ask 22 = .ok (.getfield 96, 3) := by decide +kernel
theorem dX11_ask_25 : decode cX11_ask 25 = .ok (.invokevirtual 258, 3) := by decide +kernel
theorem dX11_ask_28 : decode cX11_ask 28 = .ok (.if_icmp .ge 42, 3) := by decide +kernel
theorem dX11_ask_31 : decode cX11_ask 31 = .ok (.aload_n 0, 1) := by decide +kernel
theorem dX11_ask_32 : decode cX11_ask 32 = .ok (.aload_n 2, 1) := by decide +kernel
theorem dX11_ask_33 : decode cX11_ask 33 = .ok (.iload 5, 2) := by decide +kernel
theorem dX11_ask_35 : decode cX11_ask 35 = .ok (.invokevirtual 375, 3) := by decide +kernel
theorem dX11_ask_38 : decode cX11_ask 38 = .ok (.istore 6, 2) := by decide +kernel
theorem dX11_ask_40 : decode cX11_ask 40 = .ok (.iload 6, 2) := by decide +kernel
theorem dX11_ask_42 : decode cX11_ask 42 = .ok (.ifCond .le 22, 3) := by decide +kernel
theorem dX11_ask_45 : decode cX11_ask 45 = .ok (.iload_n 3, 1) := by decide +kernel
theorem dX11_ask_46 : decode cX11_ask 46 = .ok (.iconst (-1), 1) := by decide +kernel
theorem dX11_ask_47 : decode cX11_ask 47 = .ok (.if_icmp .eq 10, 3) := by decide +kernel
theorem dX11_ask_50 : decode cX11_ask 50 = .ok (.iload 6, 2) := by decide +kernel
theorem dX11_ask_52 : decode cX11_ask 52 = .ok (.iload 4, 2) := by decide +kernel
theorem dX11_ask_54 : decode cX11_ask 54 = .ok (.if_icmp .ge 10, 3) := by decide +kernel
theorem dX11_ask_57 : decode cX11_ask 57 = .ok (.iload 5, 2) := by decide +kernel
theorem dX11_ask_59 : decode cX11_ask 59 = .ok (.istore_n 3, 1) := by decide +kernel
theorem dX11_ask_60 : decode cX11_ask 60 = .ok (.iload 6, 2) := by decide +kernel
theorem dX11_ask_62 : decode cX11_ask 62 = .ok (.istore 4, 2) := by decide +kernel
theorem dX11_ask_64 : decode cX11_ask 64 = .ok (.iinc 5 1, 3) := by decide +kernel
theorem dX11_ask_67 : decode cX11_ask 67 = .ok (.goto (-48), 3) := by decide +kernel
theorem dX11_ask_70 : decode cX11_ask 70 = .ok (.iload_n 3, 1) := by decide +kernel
theorem dX11_ask_71 : decode cX11_ask 71 = .ok (.ireturn, 1) := by decide +kernel
theorem dX11_mostToOneLine_0 : decode cX11_mostToOneLine 0 = .ok (.aload_n 0, 1) := by decide +kernel
theorem dX11_mostToOneLine_1 : decode cX11_mostToOneLine 1 = .ok (.getfield 71, 3) := by decide +kernel
theorem dX11_mostToOneLine_4 : decode cX11_mostToOneLine 4 = .ok (.iconst 0, 1) := by decide +kernel
theorem dX11_mostToOneLine_5 : decode cX11_mostToOneLine 5 = .ok (.invokestatic 379, 3) := by decide +kernel
theorem dX11_mostToOneLine_8 : decode cX11_mostToOneLine 8 = .ok (.iconst 0, 1) := by decide +kernel
theorem dX11_mostToOneLine_9 : decode cX11_mostToOneLine 9 = .ok (.istore_n 3, 1) := by decide +kernel
theorem dX11_mostToOneLine_10 : decode cX11_mostToOneLine 10 = .ok (.iconst 0, 1) := by decide +kernel
theorem dX11_mostToOneLine_11 : decode cX11_mostToOneLine 11 = .ok (.istore 4, 2) := by decide +kernel
theorem dX11_mostToOneLine_13 : decode cX11_mostToOneLine 13 = .ok (.iload 4, 2) := by decide +kernel
theorem dX11_mostToOneLine_15 : decode cX11_mostToOneLine 15 = .ok (.bipush 80, 2) := by decide +kernel
theorem dX11_mostToOneLine_17 : decode cX11_mostToOneLine 17 = .ok (.if_icmp .ge 80, 3) := by decide +kernel
theorem dX11_mostToOneLine_20 : decode cX11_mostToOneLine 20 = .ok (.aload_n 0, 1) := by decide +kernel
theorem dX11_mostToOneLine_21 : decode cX11_mostToOneLine 21 = .ok (.iload 4, 2) := by decide +kernel
theorem dX11_mostToOneLine_23 : decode cX11_mostToOneLine 23 = .ok (.aload_n 1, 1) := by decide +kernel
theorem dX11_mostToOneLine_24 : decode cX11_mostToOneLine 24 = .ok (.invokevirtual 369, 3) := by decide +kernel
theorem dX11_mostToOneLine_27 : decode cX11_mostToOneLine 27 = .ok (.ifCond .eq 64, 3) := by decide +kernel
theorem dX11_mostToOneLine_30 : decode cX11_mostToOneLine 30 = .ok (.aload_n 0, 1) := by decide +kernel
theorem dX11_mostToOneLine_31 : decode cX11_mostToOneLine 31 = .ok (.iload 4, 2) := by decide +kernel
theorem dX11_mostToOneLine_33 : decode cX11_mostToOneLine 33 = .ok (.aload_n 0, 1) := by decide +kernel
theorem dX11_mostToOneLine_34 : decode cX11_mostToOneLine 34 = .ok (.getfield 96, 3) := by decide +kernel
theorem dX11_mostToOneLine_37 : decode cX11_mostToOneLine 37 = .ok (.iload_n 2, 1) := by decide +kernel
theorem dX11_mostToOneLine_38 : decode cX11_mostToOneLine 38 = .ok (.iconst 0, 1) := by decide +kernel
theorem dX11_mostToOneLine_39 : decode cX11_mostToOneLine 39 = .ok (.invokevirtual 169, 3) := by decide +kernel
theorem dX11_mostToOneLine_42 : decode cX11_mostToOneLine 42 = .ok (.aload_n 0, 1) := by decide +kernel
theorem dX11_mostToOneLine_43 : decode cX11_mostToOneLine 43 = .ok (.getfield 96, 3) := by decide +kernel
theorem dX11_mostToOneLine_46 : decode cX11_mostToOneLine 46 = .ok (.iload_n 2, 1) := by decide +kernel
theorem dX11_mostToOneLine_47 : decode cX11_mostToOneLine 47 = .ok (.iconst 1, 1) := by decide +kernel
theorem dX11_mostToOneLine_48 : decode cX11_mostToOneLine 48 = .ok (.invokevirtual 169, 3) := by decide +kernel
theorem dX11_mostToOneLine_51 : decode cX11_mostToOneLine 51 = .ok (.invokevirtual 385, 3) := by decide +kernel
theorem dX11_mostToOneLine_54 : decode cX11_mostToOneLine 54 = .ok (.istore 5, 2) := by decide +kernel
theorem dX11_mostToOneLine_56 : decode cX11_mostToOneLine 56 = .ok (.iload 5, 2) := by decide +kernel
theorem dX11_mostToOneLine_58 : decode cX11_mostToOneLine 58 = .ok (.ifCond .lt 33, 3) := by decide +kernel
theorem dX11_mostToOneLine_61 : decode cX11_mostToOneLine 61 = .ok (.iload 5, 2) := by decide +kernel
theorem dX11_mostToOneLine_63 : decode cX11_mostToOneLine 63 = .ok (.bipush 8, 2) := by decide +kernel
theorem dX11_mostToOneLine_65 : decode cX11_mostToOneLine 65 = .ok (.if_icmp .ge 26, 3) := by decide +kernel
theorem dX11_mostToOneLine_68 : decode cX11_mostToOneLine 68 = .ok (.aload_n 0, 1) := by decide +kernel
theorem dX11_mostToOneLine_69 : decode cX11_mostToOneLine 69 = .ok (.getfield 71, 3) := by decide +kernel
theorem dX11_mostToOneLine_72 : decode cX11_mostToOneLine 72 = .ok (.iload 5, 2) := by decide +kernel
theorem dX11_mostToOneLine_74 : decode cX11_mostToOneLine 74 = .ok (.dup2, 1) := by decide +kernel
theorem dX11_mostToOneLine_75 : decode cX11_mostToOneLine 75 = .ok (.iaload, 1) := by decide +kernel
theorem dX11_mostToOneLine_76 : decode cX11_mostToOneLine 76 = .ok (.iconst 1, 1) := by decide +kernel
theorem dX11_mostToOneLine_77 : decode cX11_mostToOneLine 77 = .ok (.iadd, 1) := by decide +kernel
theorem dX11_mostToOneLine_78 : decode cX11_mostToOneLine 78 = .ok (.iastore, 1) := by decide +kernel
theorem dX11_mostToOneLine_79 : decode cX11_mostToOneLine 79 = .ok (.iload_n 3, 1) := by decide +kernel
theorem dX11_mostToOneLine_80 : decode cX11_mostToOneLine 80 = .ok (.aload_n 0, 1) := by decide +kernel
theorem dX11_mostToOneLine_81 : decode cX11_mostToOneLine 81 = .ok (.getfield 71, 3) := by decide +kernel
theorem dX11_mostToOneLine_84 : decode cX11_mostToOneLine 84 = .ok (.iload 5, 2) := by decide +kernel
theorem dX11_mostToOneLine_86 : decode cX11_mostToOneLine 86 = .ok (.iaload, 1) := by decide +kernel
theorem dX11_mostToOneLine_87 : decode cX11_mostToOneLine 87 = .ok (.invokestatic 388, 3) := by decide +kernel
theorem dX11_mostToOneLine_90 : decode cX11_mostToOneLine 90 = .ok (.istore_n 3, 1) := by decide +kernel
theorem dX11_mostToOneLine_91 : decode cX11_mostToOneLine 91 = .ok (.iinc 4 1, 3) := by decide +kernel
theorem dX11_mostToOneLine_94 : decode cX11_mostToOneLine 94 = .ok (.goto (-81), 3) := by decide +kernel
theorem dX11_mostToOneLine_97 : decode cX11_mostToOneLine 97 = .ok (.iload_n 3, 1) := by decide +kernel
theorem dX11_mostToOneLine_98 : decode cX11_mostToOneLine 98 = .ok (.ireturn, 1) := by decide +kernel
theorem dX11_explains_0 : decode cX11_explains 0 = .ok (.aload_n 0, 1) := by decide +kernel
theorem dX11_explains_1 : decode cX11_explains 1 = .ok (.getfield 96, 3) := by decide +kernel
theorem dX11_explains_4 : decode cX11_explains 4 = .ok (.getfield 100, 3) := by decide +kernel
theorem dX11_explains_7 : decode cX11_explains 7 = .ok (.getfield 242, 3) := by decide +kernel
theorem dX11_explains_10 : decode cX11_explains 10 = .ok (.istore_n 3, 1) := by decide +kernel
theorem dX11_explains_11 : decode cX11_explains 11 = .ok (.iload_n 1, 1) := by decide +kernel
theorem dX11_explains_12 : decode cX11_explains 12 = .ok (.bipush 10, 2) := by decide +kernel
theorem dX11_explains_14 : decode cX11_explains 14 = .ok (.idiv, 1) := by decide +kernel
theorem dX11_explains_15 : decode cX11_explains 15 = .ok (.iload_n 3, 1) := by decide +kernel
theorem dX11_explains_16 : decode cX11_explains 16 = .ok (.if_icmp .ge 11, 3) := by decide +kernel
theorem dX11_explains_19 : decode cX11_explains 19 = .ok (.iload_n 1, 1) := by decide +kernel
theorem dX11_explains_20 : decode cX11_explains 20 = .ok (.bipush 10, 2) := by decide +kernel
theorem dX11_explains_22 : decode cX11_explains 22 = .ok (.irem, 1) := by decide +kernel
theorem dX11_explains_23 : decode cX11_explains 23 = .ok (.iload_n 3, 1) := by decide +kernel
theorem dX11_explains_24 : decode cX11_explains 24 = .ok (.if_icmp .lt 5, 3) := by decide +kernel
theorem dX11_explains_27 : decode cX11_explains 27 = .ok (.iconst 0, 1) := by decide +kernel
theorem dX11_explains_28 : decode cX11_explains 28 = .ok (.ireturn, 1) := by decide +kernel
theorem dX11_explains_29 : decode cX11_explains 29 = .ok (.iconst 0, 1) := by decide +kernel
theorem dX11_explains_30 : decode cX11_explains 30 = .ok (.istore 4, 2) := by decide +kernel
theorem dX11_explains_32 : decode cX11_explains 32 = .ok (.iload 4, 2) := by decide +kernel
theorem dX11_explains_34 : decode cX11_explains 34 = .ok (.iconst 2, 1) := by decide +kernel
theorem dX11_explains_35 : decode cX11_explains 35 = .ok (.iadd, 1) := by decide +kernel
theorem dX11_explains_36 : decode cX11_explains 36 = .ok (.aload_n 2, 1) := by decide +kernel
theorem dX11_explains_37 : decode cX11_explains 37 = .ok (.invokevirtual 219, 3) := by decide +kernel
theorem dX11_explains_40 : decode cX11_explains 40 = .ok (.if_icmp .ge 45, 3) := by decide +kernel
theorem dX11_explains_43 : decode cX11_explains 43 = .ok (.aload_n 0, 1) := by decide +kernel
theorem dX11_explains_44 : decode cX11_explains 44 = .ok (.iload_n 1, 1) := by decide +kernel
theorem dX11_explains_45 : decode cX11_explains 45 = .ok (.aload_n 2, 1) := by decide +kernel
theorem dX11_explains_46 : decode cX11_explains 46 = .ok (.iload 4, 2) := by decide +kernel
theorem dX11_explains_48 : decode cX11_explains 48 = .ok (.invokevirtual 220, 3) := by decide +kernel
theorem dX11_explains_51 : decode cX11_explains 51 = .ok (.l2i, 1) := by decide +kernel
theorem dX11_explains_52 : decode cX11_explains 52 = .ok (.aload_n 2, 1) := by decide +kernel
theorem dX11_explains_53 : decode cX11_explains 53 = .ok (.iload 4, 2) := by decide +kernel
theorem dX11_explains_55 : decode cX11_explains 55 = .ok (.iconst 1, 1) := by decide +kernel
theorem dX11_explains_56 : decode cX11_explains 56 = .ok (.iadd, 1) := by decide +kernel
theorem dX11_explains_57 : decode cX11_explains 57 = .ok (.invokevirtual 220, 3) := by decide +kernel
theorem dX11_explains_60 : decode cX11_explains 60 = .ok (.l2i, 1) := by decide +kernel
theorem dX11_explains_61 : decode cX11_explains 61 = .ok (.invokevirtual 385, 3) := by decide +kernel
theorem dX11_explains_64 : decode cX11_explains 64 = .ok (.i2l, 1) := by decide +kernel
theorem dX11_explains_65 : decode cX11_explains 65 = .ok (.aload_n 2, 1) := by decide +kernel
theorem dX11_explains_66 : decode cX11_explains 66 = .ok (.iload 4, 2) := by decide +kernel
theorem dX11_explains_68 : decode cX11_explains 68 = .ok (.iconst 2, 1) := by decide +kernel
theorem dX11_explains_69 : decode cX11_explains 69 = .ok (.iadd, 1) := by decide +kernel
theorem dX11_explains_70 : decode cX11_explains 70 = .ok (.invokevirtual 220, 3) := by decide +kernel
theorem dX11_explains_73 : decode cX11_explains 73 = .ok (.lcmp, 1) := by decide +kernel
theorem dX11_explains_74 : decode cX11_explains 74 = .ok (.ifCond .eq 5, 3) := by decide +kernel
theorem dX11_explains_77 : decode cX11_explains 77 = .ok (.iconst 0, 1) := by decide +kernel
theorem dX11_explains_78 : decode cX11_explains 78 = .ok (.ireturn, 1) := by decide +kernel
theorem dX11_explains_79 : decode cX11_explains 79 = .ok (.iinc 4 3, 3) := by decide +kernel
theorem dX11_explains_82 : decode cX11_explains 82 = .ok (.goto (-50), 3) := by decide +kernel
theorem dX11_explains_85 : decode cX11_explains 85 = .ok (.iconst 1, 1) := by decide +kernel
theorem dX11_explains_86 : decode cX11_explains 86 = .ok (.ireturn, 1) := by decide +kernel
theorem dX11_byRule_0 : decode cX11_byRule 0 = .ok (.aload_n 0, 1) := by decide +kernel
theorem dX11_byRule_1 : decode cX11_byRule 1 = .ok (.getfield 96, 3) := by decide +kernel
theorem dX11_byRule_4 : decode cX11_byRule 4 = .ok (.getfield 100, 3) := by decide +kernel
theorem dX11_byRule_7 : decode cX11_byRule 7 = .ok (.getfield 242, 3) := by decide +kernel
theorem dX11_byRule_10 : decode cX11_byRule 10 = .ok (.istore 4, 2) := by decide +kernel
theorem dX11_byRule_12 : decode cX11_byRule 12 = .ok (.iload 4, 2) := by decide +kernel
theorem dX11_byRule_14 : decode cX11_byRule 14 = .ok (.ifCond .le 22, 3) := by decide +kernel
theorem dX11_byRule_17 : decode cX11_byRule 17 = .ok (.iload_n 1, 1) := by decide +kernel
theorem dX11_byRule_18 : decode cX11_byRule 18 = .ok (.bipush 10, 2) := by decide +kernel
theorem dX11_byRule_20 : decode cX11_byRule 20 = .ok (.idiv, 1) := by decide +kernel
theorem dX11_byRule_21 : decode cX11_byRule 21 = .ok (.iload_n 2, 1) := by decide +kernel
theorem dX11_byRule_22 : decode cX11_byRule 22 = .ok (.imul, 1) := by decide +kernel
theorem dX11_byRule_23 : decode cX11_byRule 23 = .ok (.iload_n 3, 1) := by decide +kernel
theorem dX11_byRule_24 : decode cX11_byRule 24 = .ok (.iadd, 1) := by decide +kernel
theorem dX11_byRule_25 : decode cX11_byRule 25 = .ok (.iload_n 1, 1) := by decide +kernel
theorem dX11_byRule_26 : decode cX11_byRule 26 = .ok (.bipush 10, 2) := by decide +kernel
theorem dX11_byRule_28 : decode cX11_byRule 28 = .ok (.irem, 1) := by decide +kernel
theorem dX11_byRule_29 : decode cX11_byRule 29 = .ok (.iadd, 1) := by decide +kernel
theorem dX11_byRule_30 : decode cX11_byRule 30 = .ok (.iload 4, 2) := by decide +kernel
theorem dX11_byRule_32 : decode cX11_byRule 32 = .ok (.irem, 1) := by decide +kernel
theorem dX11_byRule_33 : decode cX11_byRule 33 = .ok (.goto 4, 3) := by decide +kernel
theorem dX11_byRule_36 : decode cX11_byRule 36 = .ok (.iconst (-1), 1) := by decide +kernel
theorem dX11_byRule_37 : decode cX11_byRule 37 = .ok (.ireturn, 1) := by decide +kernel
theorem dX11_tray_0 : decode cX11_tray 0 = .ok (.aload_n 0, 1) := by decide +kernel
theorem dX11_tray_1 : decode cX11_tray 1 = .ok (.iload_n 1, 1) := by decide +kernel
theorem dX11_tray_2 : decode cX11_tray 2 = .ok (.invokevirtual 391, 3) := by decide +kernel
theorem dX11_tray_5 : decode cX11_tray 5 = .ok (.astore 4, 2) := by decide +kernel
theorem dX11_tray_7 : decode cX11_tray 7 = .ok (.iload_n 2, 1) := by decide +kernel
theorem dX11_tray_8 : decode cX11_tray 8 = .ok (.iconst 0, 1) := by decide +kernel
theorem dX11_tray_9 : decode cX11_tray 9 = .ok (.iconst 3, 1) := by decide +kernel
theorem dX11_tray_10 : decode cX11_tray 10 = .ok (.invokestatic 112, 3) := by decide +kernel
theorem dX11_tray_13 : decode cX11_tray 13 = .ok (.iload_n 3, 1) := by decide +kernel
theorem dX11_tray_14 : decode cX11_tray 14 = .ok (.iconst 0, 1) := by decide +kernel
theorem dX11_tray_15 : decode cX11_tray 15 = .ok (.bipush 30, 2) := by decide +kernel
theorem dX11_tray_17 : decode cX11_tray 17 = .ok (.invokestatic 112, 3) := by decide +kernel
theorem dX11_tray_20 : decode cX11_tray 20 = .ok (.aload 4, 2) := by decide +kernel
theorem dX11_tray_22 : decode cX11_tray 22 = .ok (.iload_n 2, 1) := by decide +kernel
theorem dX11_tray_23 : decode cX11_tray 23 = .ok (.iload_n 3, 1) := by decide +kernel
theorem dX11_tray_24 : decode cX11_tray 24 = .ok (.invokevirtual 394, 3) := by decide +kernel
theorem dX11_tray_27 : decode cX11_tray 27 = .ok (.return_, 1) := by decide +kernel
theorem dX11_write_0 : decode cX11_write 0 = .ok (.aload_n 0, 1) := by decide +kernel
theorem dX11_write_1 : decode cX11_write 1 = .ok (.iload_n 1, 1) := by decide +kernel
theorem dX11_write_2 : decode cX11_write 2 = .ok (.invokevirtual 212, 3) := by decide +kernel
theorem dX11_write_5 : decode cX11_write 5 = .ok (.astore 5, 2) := by decide +kernel
theorem dX11_write_7 : decode cX11_write 7 = .ok (.iload_n 2, 1) := by decide +kernel
theorem dX11_write_8 : decode cX11_write 8 = .ok (.ifCond .lt 12, 3) := by decide +kernel
theorem dX11_write_11 : decode cX11_write 11 = .ok (.iload_n 2, 1) := by decide +kernel
theorem dX11_write_12 : decode cX11_write 12 = .ok (.aload 5, 2) := by decide +kernel
theorem dX11_write_14 : decode cX11_write 14 = .ok (.invokevirtual 219, 3) := by decide +kernel
theorem dX11_write_17 : decode cX11_write 17 = .ok (.if_icmp .lt 14, 3) := by decide +kernel
theorem dX11_write_20 : decode cX11_write 20 = .ok (.new 398, 3) := by decide +kernel
theorem dX11_write_23 : decode cX11_write 23 = .ok (.dup, 1) := by decide +kernel
theorem dX11_write_24 : decode cX11_write 24 = .ok (.ldc_w 400, 3) := by decide +kernel
theorem dX11_write_27 : decode cX11_write 27 = .ok (.invokespecial 402, 3) := by decide +kernel
theorem dX11_write_30 : decode cX11_write 30 = .ok (.athrow, 1) := by decide +kernel
theorem dX11_write_31 : decode cX11_write 31 = .ok (.aload 5, 2) := by decide +kernel
theorem dX11_write_33 : decode cX11_write 33 = .ok (.iload_n 2, 1) := by decide +kernel
theorem dX11_write_34 : decode cX11_write 34 = .ok (.lload_n 3, 1) := by decide +kernel
theorem dX11_write_35 : decode cX11_write 35 = .ok (.invokevirtual 403, 3) := by decide +kernel
theorem dX11_write_38 : decode cX11_write 38 = .ok (.aload 5, 2) := by decide +kernel
theorem dX11_write_40 : decode cX11_write 40 = .ok (.iload_n 2, 1) := by decide +kernel
theorem dX11_write_41 : decode cX11_write 41 = .ok (.invokevirtual 220, 3) := by decide +kernel
theorem dX11_write_44 : decode cX11_write 44 = .ok (.lreturn, 1) := by decide +kernel
theorem dX11_copy_0 : decode cX11_copy 0 = .ok (.aload_n 0, 1) := by decide +kernel
theorem dX11_copy_1 : decode cX11_copy 1 = .ok (.iload_n 1, 1) := by decide +kernel
theorem dX11_copy_2 : decode cX11_copy 2 = .ok (.invokevirtual 212, 3) := by decide +kernel
theorem dX11_copy_5 : decode cX11_copy 5 = .ok (.astore_n 2, 1) := by decide +kernel
theorem dX11_copy_6 : decode cX11_copy 6 = .ok (.aload_n 0, 1) := by decide +kernel
theorem dX11_copy_7 : decode cX11_copy 7 = .ok (.bipush 30, 2) := by decide +kernel
theorem dX11_copy_9 : decode cX11_copy 9 = .ok (.invokevirtual 255, 3) := by decide +kernel
theorem dX11_copy_12 : decode cX11_copy 12 = .ok (.pop, 1) := by decide +kernel
theorem dX11_copy_13 : decode cX11_copy 13 = .ok (.iconst 0, 1) := by decide +kernel
theorem dX11_copy_14 : decode cX11_copy 14 = .ok (.istore_n 3, 1) := by decide +kernel
theorem dX11_copy_15 : decode cX11_copy 15 = .ok (.iload_n 3, 1) := by decide +kernel
theorem dX11_copy_16 : decode cX11_copy 16 = .ok (.aload_n 2, 1) := by decide +kernel
theorem dX11_copy_17 : decode cX11_copy 17 = .ok (.invokevirtual 219, 3) := by decide +kernel
theorem dX11_copy_20 : decode cX11_copy 20 = .ok (.if_icmp .ge 28, 3) := by decide +kernel
theorem dX11_copy_23 : decode cX11_copy 23 = .ok (.aload_n 2, 1) := by decide +kernel
theorem dX11_copy_24 : decode cX11_copy 24 = .ok (.iload_n 3, 1) := by decide +kernel
theorem dX11_copy_25 : decode cX11_copy 25 = .ok (.aload_n 0, 1) := by decide +kernel
theorem dX11_copy_26 : decode cX11_copy 26 = .ok (.aload_n 0, 1) := by decide +kernel
theorem dX11_copy_27 : decode cX11_copy 27 = .ok (.getfield 96, 3) := by decide +kernel
theorem dX11_copy_30 : decode cX11_copy 30 = .ok (.invokevirtual 176, 3) := by decide +kernel
theorem dX11_copy_33 : decode cX11_copy 33 = .ok (.iload_n 3, 1) := by decide +kernel
theorem dX11_copy_34 : decode cX11_copy 34 = .ok (.iadd, 1) := by decide +kernel
theorem dX11_copy_35 : decode cX11_copy 35 = .ok (.invokevirtual 278, 3) := by decide +kernel
theorem dX11_copy_38 : decode cX11_copy 38 = .ok (.i2l, 1) := by decide +kernel
theorem dX11_copy_39 : decode cX11_copy 39 = .ok (.invokevirtual 403, 3) := by decide +kernel
theorem dX11_copy_42 : decode cX11_copy 42 = .ok (.iinc 3 1, 3) := by decide +kernel
theorem dX11_copy_45 : decode cX11_copy 45 = .ok (.goto (-30), 3) := by decide +kernel
theorem dX11_copy_48 : decode cX11_copy 48 = .ok (.aload_n 2, 1) := by decide +kernel
theorem dX11_copy_49 : decode cX11_copy 49 = .ok (.invokevirtual 219, 3) := by decide +kernel
theorem dX11_copy_52 : decode cX11_copy 52 = .ok (.ireturn, 1) := by decide +kernel
theorem dX11_image_0 : decode cX11_image 0 = .ok (.iload_n 1, 1) := by decide +kernel
theorem dX11_image_1 : decode cX11_image 1 = .ok (.invokestatic 407, 3) := by decide +kernel
theorem dX11_image_4 : decode cX11_image 4 = .ok (.aload_n 0, 1) := by decide +kernel
theorem dX11_image_5 : decode cX11_image 5 = .ok (.getfield 32, 3) := by decide +kernel
theorem dX11_image_8 : decode cX11_image 8 = .ok (.iload_n 1, 1) := by decide +kernel
theorem dX11_image_9 : decode cX11_image 9 = .ok (.aaload, 1) := by decide +kernel
theorem dX11_image_10 : decode cX11_image 10 = .ok (.ifnull 12, 3) := by decide +kernel
theorem dX11_image_13 : decode cX11_image 13 = .ok (.aload_n 0, 1) := by decide +kernel
theorem dX11_image_14 : decode cX11_image 14 = .ok (.getfield 36, 3) := by decide +kernel
theorem dX11_image_17 : decode cX11_image 17 = .ok (.iload_n 1, 1) := by decide +kernel
theorem dX11_image_18 : decode cX11_image 18 = .ok (.aaload, 1) := by decide +kernel
theorem dX11_image_19 : decode cX11_image 19 = .ok (.ifnonnull 36, 3) := by decide +kernel
theorem dX11_image_22 : decode cX11_image 22 = .ok (.aload_n 0, 1) := by decide +kernel
theorem dX11_image_23 : decode cX11_image 23 = .ok (.getfield 32, 3) := by decide +kernel
theorem dX11_image_26 : decode cX11_image 26 = .ok (.iload_n 1, 1) := by decide +kernel
theorem dX11_image_27 : decode cX11_image 27 = .ok (.new 30, 3) := by decide +kernel
theorem dX11_image_30 : decode cX11_image 30 = .ok (.dup, 1) := by decide +kernel
theorem dX11_image_31 : decode cX11_image 31 = .ok (.aload_n 0, 1) := by decide +kernel
theorem dX11_image_32 : decode cX11_image 32 = .ok (.getfield 96, 3) := by decide +kernel
theorem dX11_image_35 : decode cX11_image 35 = .ok (.getfield 100, 3) := by decide +kernel
theorem dX11_image_38 : decode cX11_image 38 = .ok (.invokespecial 93, 3) := by decide +kernel
theorem dX11_image_41 : decode cX11_image 41 = .ok (.aastore, 1) := by decide +kernel
theorem dX11_image_42 : decode cX11_image 42 = .ok (.aload_n 0, 1) := by decide +kernel
theorem dX11_image_43 : decode cX11_image 43 = .ok (.getfield 36, 3) := by decide +kernel
theorem dX11_image_46 : decode cX11_image 46 = .ok (.iload_n 1, 1) := by decide +kernel
theorem dX11_image_47 : decode cX11_image 47 = .ok (.new 23, 3) := by decide +kernel
theorem dX11_image_50 : decode cX11_image 50 = .ok (.dup, 1) := by decide +kernel
theorem dX11_image_51 : decode cX11_image 51 = .ok (.invokespecial 25, 3) := by decide +kernel
theorem dX11_image_54 : decode cX11_image 54 = .ok (.aastore, 1) := by decide +kernel
theorem dX11_image_55 : decode cX11_image 55 = .ok (.aload_n 0, 1) := by decide +kernel
theorem dX11_image_56 : decode cX11_image 56 = .ok (.getfield 32, 3) := by decide +kernel
theorem dX11_image_59 : decode cX11_image 59 = .ok (.iload_n 1, 1) := by decide +kernel
theorem dX11_image_60 : decode cX11_image 60 = .ok (.aaload, 1) := by decide +kernel
theorem dX11_image_61 : decode cX11_image 61 = .ok (.aload_n 0, 1) := by decide +kernel
theorem dX11_image_62 : decode cX11_image 62 = .ok (.getfield 96, 3) := by decide +kernel
theorem dX11_image_65 : decode cX11_image 65 = .ok (.invokevirtual 216, 3) := by decide +kernel
theorem dX11_image_68 : decode cX11_image 68 = .ok (.aload_n 0, 1) := by decide +kernel
theorem dX11_image_69 : decode cX11_image 69 = .ok (.getfield 36, 3) := by decide +kernel
theorem dX11_image_72 : decode cX11_image 72 = .ok (.iload_n 1, 1) := by decide +kernel
theorem dX11_image_73 : decode cX11_image 73 = .ok (.aaload, 1) := by decide +kernel
theorem dX11_image_74 : decode cX11_image 74 = .ok (.aload_n 0, 1) := by decide +kernel
theorem dX11_image_75 : decode cX11_image 75 = .ok (.getfield 26, 3) := by decide +kernel
theorem dX11_image_78 : decode cX11_image 78 = .ok (.invokevirtual 410, 3) := by decide +kernel
theorem dX11_image_81 : decode cX11_image 81 = .ok (.return_, 1) := by decide +kernel
theorem dX11_restore_0 : decode cX11_restore 0 = .ok (.iload_n 1, 1) := by decide +kernel
theorem dX11_restore_1 : decode cX11_restore 1 = .ok (.invokestatic 407, 3) := by decide +kernel
theorem dX11_restore_4 : decode cX11_restore 4 = .ok (.aload_n 0, 1) := by decide +kernel
theorem dX11_restore_5 : decode cX11_restore 5 = .ok (.getfield 32, 3) := by decide +kernel
theorem dX11_restore_8 : decode cX11_restore 8 = .ok (.iload_n 1, 1) := by decide +kernel
theorem dX11_restore_9 : decode cX11_restore 9 = .ok (.aaload, 1) := by decide +kernel
theorem dX11_restore_10 : decode cX11_restore 10 = .ok (.ifnull 12, 3) := by decide +kernel
theorem dX11_restore_13 : decode cX11_restore 13 = .ok (.aload_n 0, 1) := by decide +kernel
theorem dX11_restore_14 : decode cX11_restore 14 = .ok (.getfield 36, 3) := by decide +kernel
theorem dX11_restore_17 : decode cX11_restore 17 = .ok (.iload_n 1, 1) := by decide +kernel
theorem dX11_restore_18 : decode cX11_restore 18 = .ok (.aaload, 1) := by decide +kernel
theorem dX11_restore_19 : decode cX11_restore 19 = .ok (.ifnonnull 14, 3) := by decide +kernel
theorem dX11_restore_22 : decode cX11_restore 22 = .ok (.new 413, 3) := by decide +kernel
theorem dX11_restore_25 : decode cX11_restore 25 = .ok (.dup, 1) := by decide +kernel
theorem dX11_restore_26 : decode cX11_restore 26 = .ok (.ldc_w 415, 3) := by decide +kernel
theorem dX11_restore_29 : decode cX11_restore 29 = .ok (.invokespecial 417, 3) := by decide +kernel
theorem dX11_restore_32 : decode cX11_restore 32 = .ok (.athrow, 1) := by decide +kernel
theorem dX11_restore_33 : decode cX11_restore 33 = .ok (.aload_n 0, 1) := by decide +kernel
theorem dX11_restore_34 : decode cX11_restore 34 = .ok (.getfield 96, 3) := by decide +kernel
theorem dX11_restore_37 : decode cX11_restore 37 = .ok (.aload_n 0, 1) := by decide +kernel
theorem dX11_restore_38 : decode cX11_restore 38 = .ok (.getfield 32, 3) := by decide +kernel
theorem dX11_restore_41 : decode cX11_restore 41 = .ok (.iload_n 1, 1) := by decide +kernel
theorem dX11_restore_42 : decode cX11_restore 42 = .ok (.aaload, 1) := by decide +kernel
theorem dX11_restore_43 : decode cX11_restore 43 = .ok (.invokevirtual 216, 3) := by decide +kernel
theorem dX11_restore_46 : decode cX11_restore 46 = .ok (.aload_n 0, 1) := by decide +kernel
theorem dX11_restore_47 : decode cX11_restore 47 = .ok (.getfield 26, 3) := by decide +kernel
theorem dX11_restore_50 : decode cX11_restore 50 = .ok (.aload_n 0, 1) := by decide +kernel
theorem dX11_restore_51 : decode cX11_restore 51 = .ok (.getfield 36, 3) := by decide +kernel
theorem dX11_restore_54 : decode cX11_restore 54 = .ok (.iload_n 1, 1) := by decide +kernel
theorem dX11_restore_55 : decode cX11_restore 55 = .ok (.aaload, 1) := by decide +kernel
theorem dX11_restore_56 : decode cX11_restore 56 = .ok (.invokevirtual 410, 3) := by decide +kernel
theorem dX11_restore_59 : decode cX11_restore 59 = .ok (.return_, 1) := by decide +kernel
theorem dX11_count_0 : decode cX11_count 0 = .ok (.iload_n 1, 1) := by decide +kernel
theorem dX11_count_1 : decode cX11_count 1 = .ok (.tableswitch 144 0 11 #[63, 74, 85, 96, 104, 104, 104, 104, 115, 123, 131, 139], 63) := by decide +kernel
theorem dX11_count_64 : decode cX11_count 64 = .ok (.aload_n 0, 1) := by decide +kernel
theorem dX11_count_65 : decode cX11_count 65 = .ok (.getfield 96, 3) := by decide +kernel
theorem dX11_count_68 : decode cX11_count 68 = .ok (.getfield 100, 3) := by decide +kernel
theorem dX11_count_71 : decode cX11_count 71 = .ok (.getfield 133, 3) := by decide +kernel
theorem dX11_count_74 : decode cX11_count 74 = .ok (.ireturn, 1) := by decide +kernel
theorem dX11_count_75 : decode cX11_count 75 = .ok (.aload_n 0, 1) := by decide +kernel
theorem dX11_count_76 : decode cX11_count 76 = .ok (.getfield 96, 3) := by decide +kernel
theorem dX11_count_79 : decode cX11_count 79 = .ok (.getfield 100, 3) := by decide +kernel
theorem dX11_count_82 : decode cX11_count 82 = .ok (.getfield 242, 3) := by decide +kernel
theorem dX11_count_85 : decode cX11_count 85 = .ok (.ireturn, 1) := by decide +kernel
theorem dX11_count_86 : decode cX11_count 86 = .ok (.aload_n 0, 1) := by decide +kernel
theorem dX11_count_87 : decode cX11_count 87 = .ok (.getfield 96, 3) := by decide +kernel
theorem dX11_count_90 : decode cX11_count 90 = .ok (.getfield 100, 3) := by decide +kernel
theorem dX11_count_93 : decode cX11_count 93 = .ok (.getfield 150, 3) := by decide +kernel
theorem dX11_count_96 : decode cX11_count 96 = .ok (.ireturn, 1) := by decide +kernel
theorem dX11_count_97 : decode cX11_count 97 = .ok (.aload_n 0, 1) := by decide +kernel
theorem dX11_count_98 : decode cX11_count 98 = .ok (.getfield 96, 3) := by decide +kernel
theorem dX11_count_101 : decode cX11_count 101 = .ok (.invokevirtual 258, 3) := by decide +kernel
theorem dX11_count_104 : decode cX11_count 104 = .ok (.ireturn, 1) := by decide +kernel
theorem dX11_count_105 : decode cX11_count 105 = .ok (.aload_n 0, 1) := by decide +kernel
theorem dX11_count_106 : decode cX11_count 106 = .ok (.getfield 96, 3) := by decide +kernel
theorem dX11_count_109 : decode cX11_count 109 = .ok (.iload_n 1, 1) := by decide +kernel
theorem dX11_count_110 : decode cX11_count 110 = .ok (.iconst 4, 1) := by decide +kernel
theorem dX11_count_111 : decode cX11_count 111 = .ok (.isub, 1) := by decide +kernel
theorem dX11_count_112 : decode cX11_count 112 = .ok (.invokevirtual 232, 3) := by decide +kernel
theorem dX11_count_115 : decode cX11_count 115 = .ok (.ireturn, 1) := by decide +kernel
theorem dX11_count_116 : decode cX11_count 116 = .ok (.aload_n 0, 1) := by decide +kernel
theorem dX11_count_117 : decode cX11_count 117 = .ok (.getfield 96, 3) := by decide +kernel
theorem dX11_count_120 : decode cX11_count 120 = .ok (.invokevirtual 235, 3) := by decide +kernel
theorem dX11_count_123 : decode cX11_count 123 = .ok (.ireturn, 1) := by decide +kernel
theorem dX11_count_124 : decode cX11_count 124 = .ok (.aload_n 0, 1) := by decide +kernel
theorem dX11_count_125 : decode cX11_count 125 = .ok (.getfield 96, 3) := by decide +kernel
theorem dX11_count_128 : decode cX11_count 128 = .ok (.invokevirtual 176, 3) := by decide +kernel
theorem dX11_count_131 : decode cX11_count 131 = .ok (.ireturn, 1) := by decide +kernel
theorem dX11_count_132 : decode cX11_count 132 = .ok (.aload_n 0, 1) := by decide +kernel
theorem dX11_count_133 : decode cX11_count 133 = .ok (.getfield 26, 3) := by decide +kernel
theorem dX11_count_136 : decode cX11_count 136 = .ok (.invokevirtual 205, 3) := by decide +kernel
theorem dX11_count_139 : decode cX11_count 139 = .ok (.ireturn, 1) := by decide +kernel
theorem dX11_count_140 : decode cX11_count 140 = .ok (.aload_n 0, 1) := by decide +kernel
theorem dX11_count_141 : decode cX11_count 141 = .ok (.getfield 13, 3) := by decide +kernel
theorem dX11_count_144 : decode cX11_count 144 = .ok (.ireturn, 1) := by decide +kernel
theorem dX11_count_145 : decode cX11_count 145 = .ok (.iconst (-1), 1) := by decide +kernel
theorem dX11_count_146 : decode cX11_count 146 = .ok (.ireturn, 1) := by decide +kernel
theorem dX11_needWithin_0 : decode cX11_needWithin 0 = .ok (.iload_n 0, 1) := by decide +kernel
theorem dX11_needWithin_1 : decode cX11_needWithin 1 = .ok (.iload_n 1, 1) := by decide +kernel
theorem dX11_needWithin_2 : decode cX11_needWithin 2 = .ok (.if_icmp .lt 8, 3) := by decide +kernel
theorem dX11_needWithin_5 : decode cX11_needWithin 5 = .ok (.iload_n 0, 1) := by decide +kernel
theorem dX11_needWithin_6 : decode cX11_needWithin 6 = .ok (.iload_n 2, 1) := by decide +kernel
theorem dX11_needWithin_7 : decode cX11_needWithin 7 = .ok (.if_icmp .le 14, 3) := by decide +kernel
theorem dX11_needWithin_10 : decode cX11_needWithin 10 = .ok (.new 264, 3) := by decide +kernel
theorem dX11_needWithin_13 : decode cX11_needWithin 13 = .ok (.dup, 1) := by decide +kernel
theorem dX11_needWithin_14 : decode cX11_needWithin 14 = .ok (.ldc_w 418, 3) := by decide +kernel
theorem dX11_needWithin_17 : decode cX11_needWithin 17 = .ok (.invokespecial 268, 3) := by decide +kernel
theorem dX11_needWithin_20 : decode cX11_needWithin 20 = .ok (.athrow, 1) := by decide +kernel
theorem dX11_needWithin_21 : decode cX11_needWithin 21 = .ok (.return_, 1) := by decide +kernel
theorem dX11_needMinutes_0 : decode cX11_needMinutes 0 = .ok (.iload_n 0, 1) := by decide +kernel
theorem dX11_needMinutes_1 : decode cX11_needMinutes 1 = .ok (.iconst 1, 1) := by decide +kernel
theorem dX11_needMinutes_2 : decode cX11_needMinutes 2 = .ok (.sipush 999, 3) := by decide +kernel
theorem dX11_needMinutes_5 : decode cX11_needMinutes 5 = .ok (.invokestatic 112, 3) := by decide +kernel
theorem dX11_needMinutes_8 : decode cX11_needMinutes 8 = .ok (.return_, 1) := by decide +kernel
theorem dX11_needLine_0 : decode cX11_needLine 0 = .ok (.iload_n 1, 1) := by decide +kernel
theorem dX11_needLine_1 : decode cX11_needLine 1 = .ok (.ifCond .lt 17, 3) := by decide +kernel
theorem dX11_needLine_4 : decode cX11_needLine 4 = .ok (.iload_n 1, 1) := by decide +kernel
theorem dX11_needLine_5 : decode cX11_needLine 5 = .ok (.aload_n 0, 1) := by decide +kernel
theorem dX11_needLine_6 : decode cX11_needLine 6 = .ok (.getfield 96, 3) := by decide +kernel
theorem dX11_needLine_9 : decode cX11_needLine 9 = .ok (.getfield 100, 3) := by decide +kernel
theorem dX11_needLine_12 : decode cX11_needLine 12 = .ok (.getfield 242, 3) := by decide +kernel
theorem dX11_needLine_15 : decode cX11_needLine 15 = .ok (.if_icmp .lt 14, 3) := by decide +kernel
theorem dX11_needLine_18 : decode cX11_needLine 18 = .ok (.new 153, 3) := by decide +kernel
theorem dX11_needLine_21 : decode cX11_needLine 21 = .ok (.dup, 1) := by decide +kernel
theorem dX11_needLine_22 : decode cX11_needLine 22 = .ok (.ldc_w 420, 3) := by decide +kernel
theorem dX11_needLine_25 : decode cX11_needLine 25 = .ok (.invokespecial 157, 3) := by decide +kernel
theorem dX11_needLine_28 : decode cX11_needLine 28 = .ok (.athrow, 1) := by decide +kernel
theorem dX11_needLine_29 : decode cX11_needLine 29 = .ok (.return_, 1) := by decide +kernel
theorem dX11_needCall_0 : decode cX11_needCall 0 = .ok (.iload_n 1, 1) := by decide +kernel
theorem dX11_needCall_1 : decode cX11_needCall 1 = .ok (.ifCond .lt 14, 3) := by decide +kernel
theorem dX11_needCall_4 : decode cX11_needCall 4 = .ok (.iload_n 1, 1) := by decide +kernel
theorem dX11_needCall_5 : decode cX11_needCall 5 = .ok (.aload_n 0, 1) := by decide +kernel
theorem dX11_needCall_6 : decode cX11_needCall 6 = .ok (.getfield 96, 3) := by decide +kernel
theorem dX11_needCall_9 : decode cX11_needCall 9 = .ok (.invokevirtual 258, 3) := by decide +kernel
theorem dX11_needCall_12 : decode cX11_needCall 12 = .ok (.if_icmp .lt 14, 3) := by decide +kernel
theorem dX11_needCall_15 : decode cX11_needCall 15 = .ok (.new 153, 3) := by decide +kernel
theorem dX11_needCall_18 : decode cX11_needCall 18 = .ok (.dup, 1) := by decide +kernel
theorem dX11_needCall_19 : decode cX11_needCall 19 = .ok (.ldc_w 422, 3) := by decide +kernel
theorem dX11_needCall_22 : decode cX11_needCall 22 = .ok (.invokespecial 157, 3) := by decide +kernel
theorem dX11_needCall_25 : decode cX11_needCall 25 = .ok (.athrow, 1) := by decide +kernel
theorem dX11_needCall_26 : decode cX11_needCall 26 = .ok (.return_, 1) := by decide +kernel
theorem dX11_needImage_0 : decode cX11_needImage 0 = .ok (.iload_n 0, 1) := by decide +kernel
theorem dX11_needImage_1 : decode cX11_needImage 1 = .ok (.ifCond .lt 8, 3) := by decide +kernel
theorem dX11_needImage_4 : decode cX11_needImage 4 = .ok (.iload_n 0, 1) := by decide +kernel
theorem dX11_needImage_5 : decode cX11_needImage 5 = .ok (.iconst 3, 1) := by decide +kernel
theorem dX11_needImage_6 : decode cX11_needImage 6 = .ok (.if_icmp .lt 14, 3) := by decide +kernel
theorem dX11_needImage_9 : decode cX11_needImage 9 = .ok (.new 153, 3) := by decide +kernel
theorem dX11_needImage_12 : decode cX11_needImage 12 = .ok (.dup, 1) := by decide +kernel
theorem dX11_needImage_13 : decode cX11_needImage 13 = .ok (.ldc_w 424, 3) := by decide +kernel
theorem dX11_needImage_16 : decode cX11_needImage 16 = .ok (.invokespecial 157, 3) := by decide +kernel
theorem dX11_needImage_19 : decode cX11_needImage 19 = .ok (.athrow, 1) := by decide +kernel
theorem dX11_needImage_20 : decode cX11_needImage 20 = .ok (.return_, 1) := by decide +kernel
theorem dX11_anyTray_0 : decode cX11_anyTray 0 = .ok (.iload_n 1, 1) := by decide +kernel
theorem dX11_anyTray_1 : decode cX11_anyTray 1 = .ok (.ifCond .lt 8, 3) := by decide +kernel
theorem dX11_anyTray_4 : decode cX11_anyTray 4 = .ok (.iload_n 1, 1) := by decide +kernel
theorem dX11_anyTray_5 : decode cX11_anyTray 5 = .ok (.iconst 4, 1) := by decide +kernel
theorem dX11_anyTray_6 : decode cX11_anyTray 6 = .ok (.if_icmp .lt 14, 3) := by decide +kernel
theorem dX11_anyTray_9 : decode cX11_anyTray 9 = .ok (.new 153, 3) := by decide +kernel
theorem dX11_anyTray_12 : decode cX11_anyTray 12 = .ok (.dup, 1) := by decide +kernel
theorem dX11_anyTray_13 : decode cX11_anyTray 13 = .ok (.ldc_w 426, 3) := by decide +kernel
theorem dX11_anyTray_16 : decode cX11_anyTray 16 = .ok (.invokespecial 157, 3) := by decide +kernel
theorem dX11_anyTray_19 : decode cX11_anyTray 19 = .ok (.athrow, 1) := by decide +kernel
theorem dX11_anyTray_20 : decode cX11_anyTray 20 = .ok (.aload_n 0, 1) := by decide +kernel
theorem dX11_anyTray_21 : decode cX11_anyTray 21 = .ok (.getfield 42, 3) := by decide +kernel
theorem dX11_anyTray_24 : decode cX11_anyTray 24 = .ok (.iload_n 1, 1) := by decide +kernel
theorem dX11_anyTray_25 : decode cX11_anyTray 25 = .ok (.aaload, 1) := by decide +kernel
theorem dX11_anyTray_26 : decode cX11_anyTray 26 = .ok (.areturn, 1) := by decide +kernel
theorem dX11_toldTray_0 : decode cX11_toldTray 0 = .ok (.aload_n 0, 1) := by decide +kernel
theorem dX11_toldTray_1 : decode cX11_toldTray 1 = .ok (.iload_n 1, 1) := by decide +kernel
theorem dX11_toldTray_2 : decode cX11_toldTray 2 = .ok (.invokevirtual 391, 3) := by decide +kernel
theorem dX11_toldTray_5 : decode cX11_toldTray 5 = .ok (.astore_n 2, 1) := by decide +kernel
theorem dX11_toldTray_6 : decode cX11_toldTray 6 = .ok (.aload_n 2, 1) := by decide +kernel
theorem dX11_toldTray_7 : decode cX11_toldTray 7 = .ok (.invokevirtual 428, 3) := by decide +kernel
theorem dX11_toldTray_10 : decode cX11_toldTray 10 = .ok (.ifCond .eq 14, 3) := by decide +kernel
theorem dX11_toldTray_13 : decode cX11_toldTray 13 = .ok (.new 413, 3) := by decide +kernel
theorem dX11_toldTray_16 : decode cX11_toldTray 16 = .ok (.dup, 1) := by decide +kernel
theorem dX11_toldTray_17 : decode cX11_toldTray 17 = .ok (.ldc_w 432, 3) := by decide +kernel
theorem dX11_toldTray_20 : decode cX11_toldTray 20 = .ok (.invokespecial 417, 3) := by decide +kernel
theorem dX11_toldTray_23 : decode cX11_toldTray 23 = .ok (.athrow, 1) := by decide +kernel
theorem dX11_toldTray_24 : decode cX11_toldTray 24 = .ok (.aload_n 2, 1) := by decide +kernel
theorem dX11_toldTray_25 : decode cX11_toldTray 25 = .ok (.areturn, 1) := by decide +kernel
theorem dX11_needTwos_0 : decode cX11_needTwos 0 = .ok (.aload_n 1, 1) := by decide +kernel
theorem dX11_needTwos_1 : decode cX11_needTwos 1 = .ok (.invokevirtual 219, 3) := by decide +kernel
theorem dX11_needTwos_4 : decode cX11_needTwos 4 = .ok (.iconst 2, 1) := by decide +kernel
theorem dX11_needTwos_5 : decode cX11_needTwos 5 = .ok (.irem, 1) := by decide +kernel
theorem dX11_needTwos_6 : decode cX11_needTwos 6 = .ok (.ifCond .eq 14, 3) := by decide +kernel
theorem dX11_needTwos_9 : decode cX11_needTwos 9 = .ok (.new 264, 3) := by decide +kernel
theorem dX11_needTwos_12 : decode cX11_needTwos 12 = .ok (.dup, 1) := by decide +kernel
theorem dX11_needTwos_13 : decode cX11_needTwos 13 = .ok (.ldc_w 434, 3) := by decide +kernel
theorem dX11_needTwos_16 : decode cX11_needTwos 16 = .ok (.invokespecial 268, 3) := by decide +kernel
theorem dX11_needTwos_19 : decode cX11_needTwos 19 = .ok (.athrow, 1) := by decide +kernel
theorem dX11_needTwos_20 : decode cX11_needTwos 20 = .ok (.aload_n 1, 1) := by decide +kernel
theorem dX11_needTwos_21 : decode cX11_needTwos 21 = .ok (.invokevirtual 219, 3) := by decide +kernel
theorem dX11_needTwos_24 : decode cX11_needTwos 24 = .ok (.iconst 2, 1) := by decide +kernel
theorem dX11_needTwos_25 : decode cX11_needTwos 25 = .ok (.idiv, 1) := by decide +kernel
theorem dX11_needTwos_26 : decode cX11_needTwos 26 = .ok (.iconst 1, 1) := by decide +kernel
theorem dX11_needTwos_27 : decode cX11_needTwos 27 = .ok (.iconst 3, 1) := by decide +kernel
theorem dX11_needTwos_28 : decode cX11_needTwos 28 = .ok (.invokestatic 112, 3) := by decide +kernel
theorem dX11_needTwos_31 : decode cX11_needTwos 31 = .ok (.aload_n 0, 1) := by decide +kernel
theorem dX11_needTwos_32 : decode cX11_needTwos 32 = .ok (.aload_n 1, 1) := by decide +kernel
theorem dX11_needTwos_33 : decode cX11_needTwos 33 = .ok (.invokevirtual 436, 3) := by decide +kernel
theorem dX11_needTwos_36 : decode cX11_needTwos 36 = .ok (.iconst 0, 1) := by decide +kernel
theorem dX11_needTwos_37 : decode cX11_needTwos 37 = .ok (.istore_n 2, 1) := by decide +kernel
theorem dX11_needTwos_38 : decode cX11_needTwos 38 = .ok (.iload_n 2, 1) := by decide +kernel
theorem dX11_needTwos_39 : decode cX11_needTwos 39 = .ok (.iconst 1, 1) := by decide +kernel
theorem dX11_needTwos_40 : decode cX11_needTwos 40 = .ok (.iadd, 1) := by decide +kernel
theorem dX11_needTwos_41 : decode cX11_needTwos 41 = .ok (.aload_n 1, 1) := by decide +kernel
theorem dX11_needTwos_42 : decode cX11_needTwos 42 = .ok (.invokevirtual 219, 3) := by decide +kernel
theorem dX11_needTwos_45 : decode cX11_needTwos 45 = .ok (.if_icmp .ge 36, 3) := by decide +kernel
theorem dX11_needTwos_48 : decode cX11_needTwos 48 = .ok (.aload_n 1, 1) := by decide +kernel
theorem dX11_needTwos_49 : decode cX11_needTwos 49 = .ok (.iload_n 2, 1) := by decide +kernel
theorem dX11_needTwos_50 : decode cX11_needTwos 50 = .ok (.invokevirtual 220, 3) := by decide +kernel
theorem dX11_needTwos_53 : decode cX11_needTwos 53 = .ok (.aload_n 1, 1) := by decide +kernel
theorem dX11_needTwos_54 : decode cX11_needTwos 54 = .ok (.iload_n 2, 1) := by decide +kernel
theorem dX11_needTwos_55 : decode cX11_needTwos 55 = .ok (.iconst 1, 1) := by decide +kernel
theorem dX11_needTwos_56 : decode cX11_needTwos 56 = .ok (.iadd, 1) := by decide +kernel
theorem dX11_needTwos_57 : decode cX11_needTwos 57 = .ok (.invokevirtual 220, 3) := by decide +kernel
theorem dX11_needTwos_60 : decode cX11_needTwos 60 = .ok (.lcmp, 1) := by decide +kernel
theorem dX11_needTwos_61 : decode cX11_needTwos 61 = .ok (.ifCond .ne 14, 3) := by decide +kernel
theorem dX11_needTwos_64 : decode cX11_needTwos 64 = .ok (.new 264, 3) := by decide +kernel
theorem dX11_needTwos_67 : decode cX11_needTwos 67 = .ok (.dup, 1) := by decide +kernel
theorem dX11_needTwos_68 : decode cX11_needTwos 68 = .ok (.ldc_w 266, 3) := by decide +kernel
theorem dX11_needTwos_71 : decode cX11_needTwos 71 = .ok (.invokespecial 268, 3) := by decide +kernel
theorem dX11_needTwos_74 : decode cX11_needTwos 74 = .ok (.athrow, 1) := by decide +kernel
theorem dX11_needTwos_75 : decode cX11_needTwos 75 = .ok (.iinc 2 2, 3) := by decide +kernel
theorem dX11_needTwos_78 : decode cX11_needTwos 78 = .ok (.goto (-40), 3) := by decide +kernel
theorem dX11_needTwos_81 : decode cX11_needTwos 81 = .ok (.return_, 1) := by decide +kernel
theorem dX11_needThrees_0 : decode cX11_needThrees 0 = .ok (.aload_n 1, 1) := by decide +kernel
theorem dX11_needThrees_1 : decode cX11_needThrees 1 = .ok (.invokevirtual 219, 3) := by decide +kernel
theorem dX11_needThrees_4 : decode cX11_needThrees 4 = .ok (.iconst 3, 1) := by decide +kernel
theorem dX11_needThrees_5 : decode cX11_needThrees 5 = .ok (.irem, 1) := by decide +kernel
theorem dX11_needThrees_6 : decode cX11_needThrees 6 = .ok (.ifCond .eq 14, 3) := by decide +kernel
theorem dX11_needThrees_9 : decode cX11_needThrees 9 = .ok (.new 264, 3) := by decide +kernel
theorem dX11_needThrees_12 : decode cX11_needThrees 12 = .ok (.dup, 1) := by decide +kernel
theorem dX11_needThrees_13 : decode cX11_needThrees 13 = .ok (.ldc_w 439, 3) := by decide +kernel
theorem dX11_needThrees_16 : decode cX11_needThrees 16 = .ok (.invokespecial 268, 3) := by decide +kernel
theorem dX11_needThrees_19 : decode cX11_needThrees 19 = .ok (.athrow, 1) := by decide +kernel
theorem dX11_needThrees_20 : decode cX11_needThrees 20 = .ok (.aload_n 1, 1) := by decide +kernel
theorem dX11_needThrees_21 : decode cX11_needThrees 21 = .ok (.invokevirtual 219, 3) := by decide +kernel
theorem dX11_needThrees_24 : decode cX11_needThrees 24 = .ok (.iconst 3, 1) := by decide +kernel
theorem dX11_needThrees_25 : decode cX11_needThrees 25 = .ok (.idiv, 1) := by decide +kernel
theorem dX11_needThrees_26 : decode cX11_needThrees 26 = .ok (.iconst 1, 1) := by decide +kernel
theorem dX11_needThrees_27 : decode cX11_needThrees 27 = .ok (.iconst 5, 1) := by decide +kernel
theorem dX11_needThrees_28 : decode cX11_needThrees 28 = .ok (.invokestatic 112, 3) := by decide +kernel
theorem dX11_needThrees_31 : decode cX11_needThrees 31 = .ok (.aload_n 0, 1) := by decide +kernel
theorem dX11_needThrees_32 : decode cX11_needThrees 32 = .ok (.aload_n 1, 1) := by decide +kernel
theorem dX11_needThrees_33 : decode cX11_needThrees 33 = .ok (.invokevirtual 436, 3) := by decide +kernel
theorem dX11_needThrees_36 : decode cX11_needThrees 36 = .ok (.return_, 1) := by decide +kernel
theorem dX11_needLinesIn_0 : decode cX11_needLinesIn 0 = .ok (.iconst 0, 1) := by decide +kernel
theorem dX11_needLinesIn_1 : decode cX11_needLinesIn 1 = .ok (.istore_n 2, 1) := by decide +kernel
theorem dX11_needLinesIn_2 : decode cX11_needLinesIn 2 = .ok (.iload_n 2, 1) := by decide +kernel
theorem dX11_needLinesIn_3 : decode cX11_needLinesIn 3 = .ok (.aload_n 1, 1) := by decide +kernel
theorem dX11_needLinesIn_4 : decode cX11_needLinesIn 4 = .ok (.invokevirtual 219, 3) := by decide +kernel
theorem dX11_needLinesIn_7 : decode cX11_needLinesIn 7 = .ok (.if_icmp .ge 50, 3) := by decide +kernel
theorem dX11_needLinesIn_10 : decode cX11_needLinesIn 10 = .ok (.aload_n 1, 1) := by decide +kernel
theorem dX11_needLinesIn_11 : decode cX11_needLinesIn 11 = .ok (.iload_n 2, 1) := by decide +kernel
theorem dX11_needLinesIn_12 : decode cX11_needLinesIn 12 = .ok (.invokevirtual 220, 3) := by decide +kernel
theorem dX11_needLinesIn_15 : decode cX11_needLinesIn 15 = .ok (.lconst 0, 1) := by decide +kernel
theorem dX11_needLinesIn_16 : decode cX11_needLinesIn 16 = .ok (.lcmp, 1) := by decide +kernel
theorem dX11_needLinesIn_17 : decode cX11_needLinesIn 17 = .ok (.ifCond .lt 23, 3) := by decide +kernel
theorem dX11_needLinesIn_20 : decode cX11_needLinesIn 20 = .ok (.aload_n 1, 1) := by decide +kernel
theorem dX11_needLinesIn_21 : decode cX11_needLinesIn 21 = .ok (.iload_n 2, 1) := by decide +kernel
theorem dX11_needLinesIn_22 : decode cX11_needLinesIn 22 = .ok (.invokevirtual 220, 3) := by decide +kernel
theorem dX11_needLinesIn_25 : decode cX11_needLinesIn 25 = .ok (.aload_n 0, 1) := by decide +kernel
theorem dX11_needLinesIn_26 : decode cX11_needLinesIn 26 = .ok (.getfield 96, 3) := by decide +kernel
theorem dX11_needLinesIn_29 : decode cX11_needLinesIn 29 = .ok (.getfield 100, 3) := by decide +kernel
theorem dX11_needLinesIn_32 : decode cX11_needLinesIn 32 = .ok (.getfield 242, 3) := by decide +kernel
theorem dX11_needLinesIn_35 : decode cX11_needLinesIn 35 = .ok (.i2l, 1) := by decide +kernel
theorem dX11_needLinesIn_36 : decode cX11_needLinesIn 36 = .ok (.lcmp, 1) := by decide +kernel
theorem dX11_needLinesIn_37 : decode cX11_needLinesIn 37 = .ok (.ifCond .lt 14, 3) := by decide +kernel
theorem dX11_needLinesIn_40 : decode cX11_needLinesIn 40 = .ok (.new 264, 3) := by decide +kernel
theorem dX11_needLinesIn_43 : decode cX11_needLinesIn 43 = .ok (.dup, 1) := by decide +kernel
theorem dX11_needLinesIn_44 : decode cX11_needLinesIn 44 = .ok (.ldc_w 441, 3) := by decide +kernel
theorem dX11_needLinesIn_47 : decode cX11_needLinesIn 47 = .ok (.invokespecial 268, 3) := by decide +kernel
theorem dX11_needLinesIn_50 : decode cX11_needLinesIn 50 = .ok (.athrow, 1) := by decide +kernel
theorem dX11_needLinesIn_51 : decode cX11_needLinesIn 51 = .ok (.iinc 2 1, 3) := by decide +kernel
theorem dX11_needLinesIn_54 : decode cX11_needLinesIn 54 = .ok (.goto (-52), 3) := by decide +kernel
theorem dX11_needLinesIn_57 : decode cX11_needLinesIn 57 = .ok (.return_, 1) := by decide +kernel
