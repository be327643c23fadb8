theorem dX2_init_0 : decode cX2_init 0 = .ok (.aload_n 0, 1) := by decide +kernel
theorem dX2_init_1 : decode cX2_init 1 = .ok (.invokespecial 3, 3) := by decide +kernel
theorem dX2_init_4 : decode cX2_init 4 = .ok (.aload_n 0, 1) := by decide +kernel
theorem dX2_init_5 : decode cX2_init 5 = .ok (.new 9, 3) := by decide +kernel
theorem dX2_init_8 : decode cX2_init 8 = .ok (.dup, 1) := by decide +kernel
theorem dX2_init_9 : decode cX2_init 9 = .ok (.invokespecial 11, 3) := by decide +kernel
theorem dX2_init_12 : decode cX2_init 12 = .ok (.putfield 12, 3) := by decide +kernel
theorem dX2_init_15 : decode cX2_init 15 = .ok (.aload_n 0, 1) := by decide +kernel
theorem dX2_init_16 : decode cX2_init 16 = .ok (.bipush 10, 2) := by decide +kernel
theorem dX2_init_18 : decode cX2_init 18 = .ok (.newarray .int, 2) := by decide +kernel
theorem dX2_init_20 : decode cX2_init 20 = .ok (.putfield 18, 3) := by decide +kernel
theorem dX2_init_23 : decode cX2_init 23 = .ok (.aload_n 0, 1) := by decide +kernel
theorem dX2_init_24 : decode cX2_init 24 = .ok (.bipush 10, 2) := by decide +kernel
theorem dX2_init_26 : decode cX2_init 26 = .ok (.newarray .int, 2) := by decide +kernel
theorem dX2_init_28 : decode cX2_init 28 = .ok (.putfield 22, 3) := by decide +kernel
theorem dX2_init_31 : decode cX2_init 31 = .ok (.aload_n 0, 1) := by decide +kernel
theorem dX2_init_32 : decode cX2_init 32 = .ok (.iconst 3, 1) := by decide +kernel
theorem dX2_init_33 : decode cX2_init 33 = .ok (.newarray .int, 2) := by decide +kernel
theorem dX2_init_35 : decode cX2_init 35 = .ok (.putfield 25, 3) := by decide +kernel
theorem dX2_init_38 : decode cX2_init 38 = .ok (.aload_n 0, 1) := by decide +kernel
theorem dX2_init_39 : decode cX2_init 39 = .ok (.iconst 3, 1) := by decide +kernel
theorem dX2_init_40 : decode cX2_init 40 = .ok (.newarray .int, 2) := by decide +kernel
theorem dX2_init_42 : decode cX2_init 42 = .ok (.putfield 28, 3) := by decide +kernel
theorem dX2_init_45 : decode cX2_init 45 = .ok (.aload_n 0, 1) := by decide +kernel
theorem dX2_init_46 : decode cX2_init 46 = .ok (.iconst 0, 1) := by decide +kernel
theorem dX2_init_47 : decode cX2_init 47 = .ok (.putfield 31, 3) := by decide +kernel
theorem dX2_init_50 : decode cX2_init 50 = .ok (.return_, 1) := by decide +kernel
theorem dX2_ways_0 : decode cX2_ways 0 = .ok (.aload_n 0, 1) := by decide +kernel
theorem dX2_ways_1 : decode cX2_ways 1 = .ok (.getfield 31, 3) := by decide +kernel
theorem dX2_ways_4 : decode cX2_ways 4 = .ok (.ireturn, 1) := by decide +kernel
theorem dX2_firstOf_0 : decode cX2_firstOf 0 = .ok (.aload_n 0, 1) := by decide +kernel
theorem dX2_firstOf_1 : decode cX2_firstOf 1 = .ok (.getfield 31, 3) := by decide +kernel
theorem dX2_firstOf_4 : decode cX2_firstOf 4 = .ok (.ifCond .le 21, 3) := by decide +kernel
theorem dX2_firstOf_7 : decode cX2_firstOf 7 = .ok (.iload_n 1, 1) := by decide +kernel
theorem dX2_firstOf_8 : decode cX2_firstOf 8 = .ok (.ifCond .lt 17, 3) := by decide +kernel
theorem dX2_firstOf_11 : decode cX2_firstOf 11 = .ok (.iload_n 1, 1) := by decide +kernel
theorem dX2_firstOf_12 : decode cX2_firstOf 12 = .ok (.iconst 3, 1) := by decide +kernel
theorem dX2_firstOf_13 : decode cX2_firstOf 13 = .ok (.if_icmp .ge 12, 3) := by decide +kernel
theorem dX2_firstOf_16 : decode cX2_firstOf 16 = .ok (.aload_n 0, 1) := by decide +kernel
theorem dX2_firstOf_17 : decode cX2_firstOf 17 = .ok (.getfield 28, 3) := by decide +kernel
theorem dX2_firstOf_20 : decode cX2_firstOf 20 = .ok (.iload_n 1, 1) := by decide +kernel
theorem dX2_firstOf_21 : decode cX2_firstOf 21 = .ok (.iaload, 1) := by decide +kernel
theorem dX2_firstOf_22 : decode cX2_firstOf 22 = .ok (.goto 4, 3) := by decide +kernel
theorem dX2_firstOf_25 : decode cX2_firstOf 25 = .ok (.iconst (-1), 1) := by decide +kernel
theorem dX2_firstOf_26 : decode cX2_firstOf 26 = .ok (.ireturn, 1) := by decide +kernel
theorem dX2_seek_0 : decode cX2_seek 0 = .ok (.aload_n 1, 1) := by decide +kernel
theorem dX2_seek_1 : decode cX2_seek 1 = .ok (.invokevirtual 35, 3) := by decide +kernel
theorem dX2_seek_4 : decode cX2_seek 4 = .ok (.bipush 10, 2) := by decide +kernel
theorem dX2_seek_6 : decode cX2_seek 6 = .ok (.invokestatic 41, 3) := by decide +kernel
theorem dX2_seek_9 : decode cX2_seek 9 = .ok (.istore_n 3, 1) := by decide +kernel
theorem dX2_seek_10 : decode cX2_seek 10 = .ok (.aload_n 2, 1) := by decide +kernel
theorem dX2_seek_11 : decode cX2_seek 11 = .ok (.invokevirtual 47, 3) := by decide +kernel
theorem dX2_seek_14 : decode cX2_seek 14 = .ok (.iconst 2, 1) := by decide +kernel
theorem dX2_seek_15 : decode cX2_seek 15 = .ok (.idiv, 1) := by decide +kernel
theorem dX2_seek_16 : decode cX2_seek 16 = .ok (.iconst 3, 1) := by decide +kernel
theorem dX2_seek_17 : decode cX2_seek 17 = .ok (.invokestatic 41, 3) := by decide +kernel
theorem dX2_seek_20 : decode cX2_seek 20 = .ok (.istore 4, 2) := by decide +kernel
theorem dX2_seek_22 : decode cX2_seek 22 = .ok (.iconst 1, 1) := by decide +kernel
theorem dX2_seek_23 : decode cX2_seek 23 = .ok (.istore 5, 2) := by decide +kernel
theorem dX2_seek_25 : decode cX2_seek 25 = .ok (.iconst 0, 1) := by decide +kernel
theorem dX2_seek_26 : decode cX2_seek 26 = .ok (.istore 6, 2) := by decide +kernel
theorem dX2_seek_28 : decode cX2_seek 28 = .ok (.iload 6, 2) := by decide +kernel
theorem dX2_seek_30 : decode cX2_seek 30 = .ok (.iload 4, 2) := by decide +kernel
theorem dX2_seek_32 : decode cX2_seek 32 = .ok (.if_icmp .ge 15, 3) := by decide +kernel
theorem dX2_seek_35 : decode cX2_seek 35 = .ok (.iload 5, 2) := by decide +kernel
theorem dX2_seek_37 : decode cX2_seek 37 = .ok (.iload_n 3, 1) := by decide +kernel
theorem dX2_seek_38 : decode cX2_seek 38 = .ok (.imul, 1) := by decide +kernel
theorem dX2_seek_39 : decode cX2_seek 39 = .ok (.istore 5, 2) := by decide +kernel
theorem dX2_seek_41 : decode cX2_seek 41 = .ok (.iinc 6 1, 3) := by decide +kernel
theorem dX2_seek_44 : decode cX2_seek 44 = .ok (.goto (-16), 3) := by decide +kernel
theorem dX2_seek_47 : decode cX2_seek 47 = .ok (.iconst 0, 1) := by decide +kernel
theorem dX2_seek_48 : decode cX2_seek 48 = .ok (.istore 6, 2) := by decide +kernel
theorem dX2_seek_50 : decode cX2_seek 50 = .ok (.iload 6, 2) := by decide +kernel
theorem dX2_seek_52 : decode cX2_seek 52 = .ok (.iload_n 3, 1) := by decide +kernel
theorem dX2_seek_53 : decode cX2_seek 53 = .ok (.if_icmp .ge 29, 3) := by decide +kernel
theorem dX2_seek_56 : decode cX2_seek 56 = .ok (.aload_n 0, 1) := by decide +kernel
theorem dX2_seek_57 : decode cX2_seek 57 = .ok (.getfield 18, 3) := by decide +kernel
theorem dX2_seek_60 : decode cX2_seek 60 = .ok (.iload 6, 2) := by decide +kernel
theorem dX2_seek_62 : decode cX2_seek 62 = .ok (.aload_n 1, 1) := by decide +kernel
theorem dX2_seek_63 : decode cX2_seek 63 = .ok (.iload 6, 2) := by decide +kernel
theorem dX2_seek_65 : decode cX2_seek 65 = .ok (.aload_n 1, 1) := by decide +kernel
theorem dX2_seek_66 : decode cX2_seek 66 = .ok (.iload 6, 2) := by decide +kernel
theorem dX2_seek_68 : decode cX2_seek 68 = .ok (.iconst 2, 1) := by decide +kernel
theorem dX2_seek_69 : decode cX2_seek 69 = .ok (.invokevirtual 52, 3) := by decide +kernel
theorem dX2_seek_72 : decode cX2_seek 72 = .ok (.invokevirtual 55, 3) := by decide +kernel
theorem dX2_seek_75 : decode cX2_seek 75 = .ok (.iastore, 1) := by decide +kernel
theorem dX2_seek_76 : decode cX2_seek 76 = .ok (.iinc 6 1, 3) := by decide +kernel
theorem dX2_seek_79 : decode cX2_seek 79 = .ok (.goto (-29), 3) := by decide +kernel
theorem dX2_seek_82 : decode cX2_seek 82 = .ok (.aload_n 0, 1) := by decide +kernel
theorem dX2_seek_83 : decode cX2_seek 83 = .ok (.getfield 12, 3) := by decide +kernel
theorem dX2_seek_86 : decode cX2_seek 86 = .ok (.aload_n 1, 1) := by decide +kernel
theorem dX2_seek_87 : decode cX2_seek 87 = .ok (.invokevirtual 58, 3) := by decide +kernel
theorem dX2_seek_90 : decode cX2_seek 90 = .ok (.aload_n 0, 1) := by decide +kernel
theorem dX2_seek_91 : decode cX2_seek 91 = .ok (.iconst 0, 1) := by decide +kernel
theorem dX2_seek_92 : decode cX2_seek 92 = .ok (.putfield 31, 3) := by decide +kernel
theorem dX2_seek_95 : decode cX2_seek 95 = .ok (.iconst 0, 1) := by decide +kernel
theorem dX2_seek_96 : decode cX2_seek 96 = .ok (.istore 6, 2) := by decide +kernel
theorem dX2_seek_98 : decode cX2_seek 98 = .ok (.iload 6, 2) := by decide +kernel
theorem dX2_seek_100 : decode cX2_seek 100 = .ok (.iload 5, 2) := by decide +kernel
theorem dX2_seek_102 : decode cX2_seek 102 = .ok (.if_icmp .ge 80, 3) := by decide +kernel
theorem dX2_seek_105 : decode cX2_seek 105 = .ok (.iload_n 3, 1) := by decide +kernel
theorem dX2_seek_106 : decode cX2_seek 106 = .ok (.ifCond .le 76, 3) := by decide +kernel
theorem dX2_seek_109 : decode cX2_seek 109 = .ok (.iload 6, 2) := by decide +kernel
theorem dX2_seek_111 : decode cX2_seek 111 = .ok (.istore 7, 2) := by decide +kernel
theorem dX2_seek_113 : decode cX2_seek 113 = .ok (.iload 4, 2) := by decide +kernel
theorem dX2_seek_115 : decode cX2_seek 115 = .ok (.iconst 1, 1) := by decide +kernel
theorem dX2_seek_116 : decode cX2_seek 116 = .ok (.isub, 1) := by decide +kernel
theorem dX2_seek_117 : decode cX2_seek 117 = .ok (.istore 8, 2) := by decide +kernel
theorem dX2_seek_119 : decode cX2_seek 119 = .ok (.iload 8, 2) := by decide +kernel
theorem dX2_seek_121 : decode cX2_seek 121 = .ok (.ifCond .lt 26, 3) := by decide +kernel
theorem dX2_seek_124 : decode cX2_seek 124 = .ok (.aload_n 0, 1) := by decide +kernel
theorem dX2_seek_125 : decode cX2_seek 125 = .ok (.getfield 25, 3) := by decide +kernel
theorem dX2_seek_128 : decode cX2_seek 128 = .ok (.iload 8, 2) := by decide +kernel
theorem dX2_seek_130 : decode cX2_seek 130 = .ok (.iload 7, 2) := by decide +kernel
theorem dX2_seek_132 : decode cX2_seek 132 = .ok (.iload_n 3, 1) := by decide +kernel
theorem dX2_seek_133 : decode cX2_seek 133 = .ok (.irem, 1) := by decide +kernel
theorem dX2_seek_134 : decode cX2_seek 134 = .ok (.iastore, 1) := by decide +kernel
theorem dX2_seek_135 : decode cX2_seek 135 = .ok (.iload 7, 2) := by decide +kernel
theorem dX2_seek_137 : decode cX2_seek 137 = .ok (.iload_n 3, 1) := by decide +kernel
theorem dX2_seek_138 : decode cX2_seek 138 = .ok (.idiv, 1) := by decide +kernel
theorem dX2_seek_139 : decode cX2_seek 139 = .ok (.istore 7, 2) := by decide +kernel
theorem dX2_seek_141 : decode cX2_seek 141 = .ok (.iinc 8 (-1), 3) := by decide +kernel
theorem dX2_seek_144 : decode cX2_seek 144 = .ok (.goto (-25), 3) := by decide +kernel
theorem dX2_seek_147 : decode cX2_seek 147 = .ok (.aload_n 0, 1) := by decide +kernel
theorem dX2_seek_148 : decode cX2_seek 148 = .ok (.aload_n 1, 1) := by decide +kernel
theorem dX2_seek_149 : decode cX2_seek 149 = .ok (.aload_n 2, 1) := by decide +kernel
theorem dX2_seek_150 : decode cX2_seek 150 = .ok (.iload 4, 2) := by decide +kernel
theorem dX2_seek_152 : decode cX2_seek 152 = .ok (.invokevirtual 62, 3) := by decide +kernel
theorem dX2_seek_155 : decode cX2_seek 155 = .ok (.istore 8, 2) := by decide +kernel
theorem dX2_seek_157 : decode cX2_seek 157 = .ok (.iload 8, 2) := by decide +kernel
theorem dX2_seek_159 : decode cX2_seek 159 = .ok (.ifCond .eq 17, 3) := by decide +kernel
theorem dX2_seek_162 : decode cX2_seek 162 = .ok (.aload_n 0, 1) := by decide +kernel
theorem dX2_seek_163 : decode cX2_seek 163 = .ok (.aload_n 1, 1) := by decide +kernel
theorem dX2_seek_164 : decode cX2_seek 164 = .ok (.iload 8, 2) := by decide +kernel
theorem dX2_seek_166 : decode cX2_seek 166 = .ok (.invokevirtual 66, 3) := by decide +kernel
theorem dX2_seek_169 : decode cX2_seek 169 = .ok (.ifCond .eq 7, 3) := by decide +kernel
theorem dX2_seek_172 : decode cX2_seek 172 = .ok (.aload_n 0, 1) := by decide +kernel
theorem dX2_seek_173 : decode cX2_seek 173 = .ok (.invokevirtual 70, 3) := by decide +kernel
theorem dX2_seek_176 : decode cX2_seek 176 = .ok (.iinc 6 1, 3) := by decide +kernel
theorem dX2_seek_179 : decode cX2_seek 179 = .ok (.goto (-81), 3) := by decide +kernel
theorem dX2_seek_182 : decode cX2_seek 182 = .ok (.return_, 1) := by decide +kernel
theorem dX2_leadPicks_0 : decode cX2_leadPicks 0 = .ok (.aload_n 0, 1) := by decide +kernel
theorem dX2_leadPicks_1 : decode cX2_leadPicks 1 = .ok (.getfield 18, 3) := by decide +kernel
theorem dX2_leadPicks_4 : decode cX2_leadPicks 4 = .ok (.iconst 0, 1) := by decide +kernel
theorem dX2_leadPicks_5 : decode cX2_leadPicks 5 = .ok (.aload_n 0, 1) := by decide +kernel
theorem dX2_leadPicks_6 : decode cX2_leadPicks 6 = .ok (.getfield 22, 3) := by decide +kernel
theorem dX2_leadPicks_9 : decode cX2_leadPicks 9 = .ok (.iconst 0, 1) := by decide +kernel
theorem dX2_leadPicks_10 : decode cX2_leadPicks 10 = .ok (.bipush 10, 2) := by decide +kernel
theorem dX2_leadPicks_12 : decode cX2_leadPicks 12 = .ok (.invokestatic 73, 3) := by decide +kernel
theorem dX2_leadPicks_15 : decode cX2_leadPicks 15 = .ok (.iconst 0, 1) := by decide +kernel
theorem dX2_leadPicks_16 : decode cX2_leadPicks 16 = .ok (.istore 4, 2) := by decide +kernel
theorem dX2_leadPicks_18 : decode cX2_leadPicks 18 = .ok (.iconst 0, 1) := by decide +kernel
theorem dX2_leadPicks_19 : decode cX2_leadPicks 19 = .ok (.istore 5, 2) := by decide +kernel
theorem dX2_leadPicks_21 : decode cX2_leadPicks 21 = .ok (.iload 5, 2) := by decide +kernel
theorem dX2_leadPicks_23 : decode cX2_leadPicks 23 = .ok (.iload_n 3, 1) := by decide +kernel
theorem dX2_leadPicks_24 : decode cX2_leadPicks 24 = .ok (.if_icmp .ge 97, 3) := by decide +kernel
theorem dX2_leadPicks_27 : decode cX2_leadPicks 27 = .ok (.iload 5, 2) := by decide +kernel
theorem dX2_leadPicks_29 : decode cX2_leadPicks 29 = .ok (.iconst 3, 1) := by decide +kernel
theorem dX2_leadPicks_30 : decode cX2_leadPicks 30 = .ok (.if_icmp .ge 91, 3) := by decide +kernel
theorem dX2_leadPicks_33 : decode cX2_leadPicks 33 = .ok (.aload_n 0, 1) := by decide +kernel
theorem dX2_leadPicks_34 : decode cX2_leadPicks 34 = .ok (.getfield 25, 3) := by decide +kernel
theorem dX2_leadPicks_37 : decode cX2_leadPicks 37 = .ok (.iload 5, 2) := by decide +kernel
theorem dX2_leadPicks_39 : decode cX2_leadPicks 39 = .ok (.iaload, 1) := by decide +kernel
theorem dX2_leadPicks_40 : decode cX2_leadPicks 40 = .ok (.istore 6, 2) := by decide +kernel
theorem dX2_leadPicks_42 : decode cX2_leadPicks 42 = .ok (.aload_n 2, 1) := by decide +kernel
theorem dX2_leadPicks_43 : decode cX2_leadPicks 43 = .ok (.iload 5, 2) := by decide +kernel
theorem dX2_leadPicks_45 : decode cX2_leadPicks 45 = .ok (.aload_n 1, 1) := by decide +kernel
theorem dX2_leadPicks_46 : decode cX2_leadPicks 46 = .ok (.iload 6, 2) := by decide +kernel
theorem dX2_leadPicks_48 : decode cX2_leadPicks 48 = .ok (.iconst 0, 1) := by decide +kernel
theorem dX2_leadPicks_49 : decode cX2_leadPicks 49 = .ok (.invokevirtual 52, 3) := by decide +kernel
theorem dX2_leadPicks_52 : decode cX2_leadPicks 52 = .ok (.invokestatic 79, 3) := by decide +kernel
theorem dX2_leadPicks_55 : decode cX2_leadPicks 55 = .ok (.istore 7, 2) := by decide +kernel
theorem dX2_leadPicks_57 : decode cX2_leadPicks 57 = .ok (.aload_n 1, 1) := by decide +kernel
theorem dX2_leadPicks_58 : decode cX2_leadPicks 58 = .ok (.iload 6, 2) := by decide +kernel
theorem dX2_leadPicks_60 : decode cX2_leadPicks 60 = .ok (.invokevirtual 83, 3) := by decide +kernel
theorem dX2_leadPicks_63 : decode cX2_leadPicks 63 = .ok (.ifCond .eq 32, 3) := by decide +kernel
theorem dX2_leadPicks_66 : decode cX2_leadPicks 66 = .ok (.iload 4, 2) := by decide +kernel
theorem dX2_leadPicks_68 : decode cX2_leadPicks 68 = .ok (.iload 6, 2) := by decide +kernel
theorem dX2_leadPicks_70 : decode cX2_leadPicks 70 = .ok (.ishr, 1) := by decide +kernel
theorem dX2_leadPicks_71 : decode cX2_leadPicks 71 = .ok (.iconst 1, 1) := by decide +kernel
theorem dX2_leadPicks_72 : decode cX2_leadPicks 72 = .ok (.iand, 1) := by decide +kernel
theorem dX2_leadPicks_73 : decode cX2_leadPicks 73 = .ok (.iconst 1, 1) := by decide +kernel
theorem dX2_leadPicks_74 : decode cX2_leadPicks 74 = .ok (.if_icmp .eq 21, 3) := by decide +kernel
theorem dX2_leadPicks_77 : decode cX2_leadPicks 77 = .ok (.iload 7, 2) := by decide +kernel
theorem dX2_leadPicks_79 : decode cX2_leadPicks 79 = .ok (.iconst (-1), 1) := by decide +kernel
theorem dX2_leadPicks_80 : decode cX2_leadPicks 80 = .ok (.if_icmp .eq 15, 3) := by decide +kernel
theorem dX2_leadPicks_83 : decode cX2_leadPicks 83 = .ok (.iload 6, 2) := by decide +kernel
theorem dX2_leadPicks_85 : decode cX2_leadPicks 85 = .ok (.ifCond .lt 10, 3) := by decide +kernel
theorem dX2_leadPicks_88 : decode cX2_leadPicks 88 = .ok (.iload 6, 2) := by decide +kernel
theorem dX2_leadPicks_90 : decode cX2_leadPicks 90 = .ok (.bipush 10, 2) := by decide +kernel
theorem dX2_leadPicks_92 : decode cX2_leadPicks 92 = .ok (.if_icmp .lt 5, 3) := by decide +kernel
theorem dX2_leadPicks_95 : decode cX2_leadPicks 95 = .ok (.iconst 0, 1) := by decide +kernel
theorem dX2_leadPicks_96 : decode cX2_leadPicks 96 = .ok (.ireturn, 1) := by decide +kernel
theorem dX2_leadPicks_97 : decode cX2_leadPicks 97 = .ok (.iload 4, 2) := by decide +kernel
theorem dX2_leadPicks_99 : decode cX2_leadPicks 99 = .ok (.iconst 1, 1) := by decide +kernel
theorem dX2_leadPicks_100 : decode cX2_leadPicks 100 = .ok (.iload 6, 2) := by decide +kernel
theorem dX2_leadPicks_102 : decode cX2_leadPicks 102 = .ok (.ishl, 1) := by decide +kernel
theorem dX2_leadPicks_103 : decode cX2_leadPicks 103 = .ok (.ior, 1) := by decide +kernel
theorem dX2_leadPicks_104 : decode cX2_leadPicks 104 = .ok (.istore 4, 2) := by decide +kernel
theorem dX2_leadPicks_106 : decode cX2_leadPicks 106 = .ok (.aload_n 0, 1) := by decide +kernel
theorem dX2_leadPicks_107 : decode cX2_leadPicks 107 = .ok (.getfield 22, 3) := by decide +kernel
theorem dX2_leadPicks_110 : decode cX2_leadPicks 110 = .ok (.iload 6, 2) := by decide +kernel
theorem dX2_leadPicks_112 : decode cX2_leadPicks 112 = .ok (.iload 7, 2) := by decide +kernel
theorem dX2_leadPicks_114 : decode cX2_leadPicks 114 = .ok (.iastore, 1) := by decide +kernel
theorem dX2_leadPicks_115 : decode cX2_leadPicks 115 = .ok (.iinc 5 1, 3) := by decide +kernel
theorem dX2_leadPicks_118 : decode cX2_leadPicks 118 = .ok (.goto (-97), 3) := by decide +kernel
theorem dX2_leadPicks_121 : decode cX2_leadPicks 121 = .ok (.iload 4, 2) := by decide +kernel
theorem dX2_leadPicks_123 : decode cX2_leadPicks 123 = .ok (.ireturn, 1) := by decide +kernel
theorem dX2_otherOf_0 : decode cX2_otherOf 0 = .ok (.aload_n 0, 1) := by decide +kernel
theorem dX2_otherOf_1 : decode cX2_otherOf 1 = .ok (.iconst 2, 1) := by decide +kernel
theorem dX2_otherOf_2 : decode cX2_otherOf 2 = .ok (.iload_n 1, 1) := by decide +kernel
theorem dX2_otherOf_3 : decode cX2_otherOf 3 = .ok (.imul, 1) := by decide +kernel
theorem dX2_otherOf_4 : decode cX2_otherOf 4 = .ok (.invokevirtual 87, 3) := by decide +kernel
theorem dX2_otherOf_7 : decode cX2_otherOf 7 = .ok (.l2i, 1) := by decide +kernel
theorem dX2_otherOf_8 : decode cX2_otherOf 8 = .ok (.istore_n 3, 1) := by decide +kernel
theorem dX2_otherOf_9 : decode cX2_otherOf 9 = .ok (.aload_n 0, 1) := by decide +kernel
theorem dX2_otherOf_10 : decode cX2_otherOf 10 = .ok (.iconst 2, 1) := by decide +kernel
theorem dX2_otherOf_11 : decode cX2_otherOf 11 = .ok (.iload_n 1, 1) := by decide +kernel
theorem dX2_otherOf_12 : decode cX2_otherOf 12 = .ok (.imul, 1) := by decide +kernel
theorem dX2_otherOf_13 : decode cX2_otherOf 13 = .ok (.iconst 1, 1) := by decide +kernel
theorem dX2_otherOf_14 : decode cX2_otherOf 14 = .ok (.iadd, 1) := by decide +kernel
theorem dX2_otherOf_15 : decode cX2_otherOf 15 = .ok (.invokevirtual 87, 3) := by decide +kernel
theorem dX2_otherOf_18 : decode cX2_otherOf 18 = .ok (.l2i, 1) := by decide +kernel
theorem dX2_otherOf_19 : decode cX2_otherOf 19 = .ok (.istore 4, 2) := by decide +kernel
theorem dX2_otherOf_21 : decode cX2_otherOf 21 = .ok (.iload_n 2, 1) := by decide +kernel
theorem dX2_otherOf_22 : decode cX2_otherOf 22 = .ok (.iload_n 3, 1) := by decide +kernel
theorem dX2_otherOf_23 : decode cX2_otherOf 23 = .ok (.if_icmp .ne 6, 3) := by decide +kernel
theorem dX2_otherOf_26 : decode cX2_otherOf 26 = .ok (.iload 4, 2) := by decide +kernel
theorem dX2_otherOf_28 : decode cX2_otherOf 28 = .ok (.ireturn, 1) := by decide +kernel
theorem dX2_otherOf_29 : decode cX2_otherOf 29 = .ok (.iload_n 2, 1) := by decide +kernel
theorem dX2_otherOf_30 : decode cX2_otherOf 30 = .ok (.iload 4, 2) := by decide +kernel
theorem dX2_otherOf_32 : decode cX2_otherOf 32 = .ok (.if_icmp .ne 7, 3) := by decide +kernel
theorem dX2_otherOf_35 : decode cX2_otherOf 35 = .ok (.iload_n 3, 1) := by decide +kernel
theorem dX2_otherOf_36 : decode cX2_otherOf 36 = .ok (.goto 4, 3) := by decide +kernel
theorem dX2_otherOf_39 : decode cX2_otherOf 39 = .ok (.iconst (-1), 1) := by decide +kernel
theorem dX2_otherOf_40 : decode cX2_otherOf 40 = .ok (.ireturn, 1) := by decide +kernel
theorem dX2_bringsTogether_0 : decode cX2_bringsTogether 0 = .ok (.aload_n 0, 1) := by decide +kernel
theorem dX2_bringsTogether_1 : decode cX2_bringsTogether 1 = .ok (.getfield 12, 3) := by decide +kernel
theorem dX2_bringsTogether_4 : decode cX2_bringsTogether 4 = .ok (.invokevirtual 91, 3) := by decide +kernel
theorem dX2_bringsTogether_7 : decode cX2_bringsTogether 7 = .ok (.iconst 0, 1) := by decide +kernel
theorem dX2_bringsTogether_8 : decode cX2_bringsTogether 8 = .ok (.istore_n 3, 1) := by decide +kernel
theorem dX2_bringsTogether_9 : decode cX2_bringsTogether 9 = .ok (.iload_n 3, 1) := by decide +kernel
theorem dX2_bringsTogether_10 : decode cX2_bringsTogether 10 = .ok (.aload_n 0, 1) := by decide +kernel
theorem dX2_bringsTogether_11 : decode cX2_bringsTogether 11 = .ok (.getfield 12, 3) := by decide +kernel
theorem dX2_bringsTogether_14 : decode cX2_bringsTogether 14 = .ok (.invokevirtual 94, 3) := by decide +kernel
theorem dX2_bringsTogether_17 : decode cX2_bringsTogether 17 = .ok (.if_icmp .ge 101, 3) := by decide +kernel
theorem dX2_bringsTogether_20 : decode cX2_bringsTogether 20 = .ok (.aload_n 0, 1) := by decide +kernel
theorem dX2_bringsTogether_21 : decode cX2_bringsTogether 21 = .ok (.getfield 12, 3) := by decide +kernel
theorem dX2_bringsTogether_24 : decode cX2_bringsTogether 24 = .ok (.iload_n 3, 1) := by decide +kernel
theorem dX2_bringsTogether_25 : decode cX2_bringsTogether 25 = .ok (.invokevirtual 95, 3) := by decide +kernel
theorem dX2_bringsTogether_28 : decode cX2_bringsTogether 28 = .ok (.istore 4, 2) := by decide +kernel
theorem dX2_bringsTogether_30 : decode cX2_bringsTogether 30 = .ok (.iload 4, 2) := by decide +kernel
theorem dX2_bringsTogether_32 : decode cX2_bringsTogether 32 = .ok (.ifCond .lt 20, 3) := by decide +kernel
theorem dX2_bringsTogether_35 : decode cX2_bringsTogether 35 = .ok (.iload 4, 2) := by decide +kernel
theorem dX2_bringsTogether_37 : decode cX2_bringsTogether 37 = .ok (.bipush 10, 2) := by decide +kernel
theorem dX2_bringsTogether_39 : decode cX2_bringsTogether 39 = .ok (.if_icmp .ge 13, 3) := by decide +kernel
theorem dX2_bringsTogether_42 : decode cX2_bringsTogether 42 = .ok (.aload_n 0, 1) := by decide +kernel
theorem dX2_bringsTogether_43 : decode cX2_bringsTogether 43 = .ok (.getfield 22, 3) := by decide +kernel
theorem dX2_bringsTogether_46 : decode cX2_bringsTogether 46 = .ok (.iload 4, 2) := by decide +kernel
theorem dX2_bringsTogether_48 : decode cX2_bringsTogether 48 = .ok (.iaload, 1) := by decide +kernel
theorem dX2_bringsTogether_49 : decode cX2_bringsTogether 49 = .ok (.goto 4, 3) := by decide +kernel
theorem dX2_bringsTogether_52 : decode cX2_bringsTogether 52 = .ok (.iconst (-1), 1) := by decide +kernel
theorem dX2_bringsTogether_53 : decode cX2_bringsTogether 53 = .ok (.istore 5, 2) := by decide +kernel
theorem dX2_bringsTogether_55 : decode cX2_bringsTogether 55 = .ok (.aload_n 1, 1) := by decide +kernel
theorem dX2_bringsTogether_56 : decode cX2_bringsTogether 56 = .ok (.iload 4, 2) := by decide +kernel
theorem dX2_bringsTogether_58 : decode cX2_bringsTogether 58 = .ok (.iconst 2, 1) := by decide +kernel
theorem dX2_bringsTogether_59 : decode cX2_bringsTogether 59 = .ok (.invokevirtual 52, 3) := by decide +kernel
theorem dX2_bringsTogether_62 : decode cX2_bringsTogether 62 = .ok (.istore 6, 2) := by decide +kernel
theorem dX2_bringsTogether_64 : decode cX2_bringsTogether 64 = .ok (.aload_n 0, 1) := by decide +kernel
theorem dX2_bringsTogether_65 : decode cX2_bringsTogether 65 = .ok (.getfield 12, 3) := by decide +kernel
theorem dX2_bringsTogether_68 : decode cX2_bringsTogether 68 = .ok (.aload_n 1, 1) := by decide +kernel
theorem dX2_bringsTogether_69 : decode cX2_bringsTogether 69 = .ok (.getfield 99, 3) := by decide +kernel
theorem dX2_bringsTogether_72 : decode cX2_bringsTogether 72 = .ok (.aload_n 1, 1) := by decide +kernel
theorem dX2_bringsTogether_73 : decode cX2_bringsTogether 73 = .ok (.iload 4, 2) := by decide +kernel
theorem dX2_bringsTogether_75 : decode cX2_bringsTogether 75 = .ok (.iconst 0, 1) := by decide +kernel
theorem dX2_bringsTogether_76 : decode cX2_bringsTogether 76 = .ok (.invokevirtual 52, 3) := by decide +kernel
theorem dX2_bringsTogether_79 : decode cX2_bringsTogether 79 = .ok (.iload 5, 2) := by decide +kernel
theorem dX2_bringsTogether_81 : decode cX2_bringsTogether 81 = .ok (.iload 6, 2) := by decide +kernel
theorem dX2_bringsTogether_83 : decode cX2_bringsTogether 83 = .ok (.aload_n 1, 1) := by decide +kernel
theorem dX2_bringsTogether_84 : decode cX2_bringsTogether 84 = .ok (.iload 4, 2) := by decide +kernel
theorem dX2_bringsTogether_86 : decode cX2_bringsTogether 86 = .ok (.invokevirtual 103, 3) := by decide +kernel
theorem dX2_bringsTogether_89 : decode cX2_bringsTogether 89 = .ok (.invokevirtual 106, 3) := by decide +kernel
theorem dX2_bringsTogether_92 : decode cX2_bringsTogether 92 = .ok (.istore 7, 2) := by decide +kernel
theorem dX2_bringsTogether_94 : decode cX2_bringsTogether 94 = .ok (.iload 7, 2) := by decide +kernel
theorem dX2_bringsTogether_96 : decode cX2_bringsTogether 96 = .ok (.iconst (-1), 1) := by decide +kernel
theorem dX2_bringsTogether_97 : decode cX2_bringsTogether 97 = .ok (.if_icmp .ne 15, 3) := by decide +kernel
theorem dX2_bringsTogether_100 : decode cX2_bringsTogether 100 = .ok (.iload_n 2, 1) := by decide +kernel
theorem dX2_bringsTogether_101 : decode cX2_bringsTogether 101 = .ok (.iload 4, 2) := by decide +kernel
theorem dX2_bringsTogether_103 : decode cX2_bringsTogether 103 = .ok (.ishr, 1) := by decide +kernel
theorem dX2_bringsTogether_104 : decode cX2_bringsTogether 104 = .ok (.iconst 1, 1) := by decide +kernel
theorem dX2_bringsTogether_105 : decode cX2_bringsTogether 105 = .ok (.iand, 1) := by decide +kernel
theorem dX2_bringsTogether_106 : decode cX2_bringsTogether 106 = .ok (.iconst 1, 1) := by decide +kernel
theorem dX2_bringsTogether_107 : decode cX2_bringsTogether 107 = .ok (.if_icmp .ne 5, 3) := by decide +kernel
theorem dX2_bringsTogether_110 : decode cX2_bringsTogether 110 = .ok (.iconst 0, 1) := by decide +kernel
theorem dX2_bringsTogether_111 : decode cX2_bringsTogether 111 = .ok (.ireturn, 1) := by decide +kernel
theorem dX2_bringsTogether_112 : decode cX2_bringsTogether 112 = .ok (.iinc 3 1, 3) := by decide +kernel
theorem dX2_bringsTogether_115 : decode cX2_bringsTogether 115 = .ok (.goto (-106), 3) := by decide +kernel
theorem dX2_bringsTogether_118 : decode cX2_bringsTogether 118 = .ok (.iconst 1, 1) := by decide +kernel
theorem dX2_bringsTogether_119 : decode cX2_bringsTogether 119 = .ok (.ireturn, 1) := by decide +kernel
theorem dX2_keepWay_0 : decode cX2_keepWay 0 = .ok (.aload_n 0, 1) := by decide +kernel
theorem dX2_keepWay_1 : decode cX2_keepWay 1 = .ok (.getfield 31, 3) := by decide +kernel
theorem dX2_keepWay_4 : decode cX2_keepWay 4 = .ok (.ifCond .ne 17, 3) := by decide +kernel
theorem dX2_keepWay_7 : decode cX2_keepWay 7 = .ok (.aload_n 0, 1) := by decide +kernel
theorem dX2_keepWay_8 : decode cX2_keepWay 8 = .ok (.getfield 25, 3) := by decide +kernel
theorem dX2_keepWay_11 : decode cX2_keepWay 11 = .ok (.iconst 0, 1) := by decide +kernel
theorem dX2_keepWay_12 : decode cX2_keepWay 12 = .ok (.aload_n 0, 1) := by decide +kernel
theorem dX2_keepWay_13 : decode cX2_keepWay 13 = .ok (.getfield 28, 3) := by decide +kernel
theorem dX2_keepWay_16 : decode cX2_keepWay 16 = .ok (.iconst 0, 1) := by decide +kernel
theorem dX2_keepWay_17 : decode cX2_keepWay 17 = .ok (.iconst 3, 1) := by decide +kernel
theorem dX2_keepWay_18 : decode cX2_keepWay 18 = .ok (.invokestatic 73, 3) := by decide +kernel
theorem dX2_keepWay_21 : decode cX2_keepWay 21 = .ok (.aload_n 0, 1) := by decide +kernel
theorem dX2_keepWay_22 : decode cX2_keepWay 22 = .ok (.dup, 1) := by decide +kernel
theorem dX2_keepWay_23 : decode cX2_keepWay 23 = .ok (.getfield 31, 3) := by decide +kernel
theorem dX2_keepWay_26 : decode cX2_keepWay 26 = .ok (.iconst 1, 1) := by decide +kernel
theorem dX2_keepWay_27 : decode cX2_keepWay 27 = .ok (.iadd, 1) := by decide +kernel
theorem dX2_keepWay_28 : decode cX2_keepWay 28 = .ok (.putfield 31, 3) := by decide +kernel
theorem dX2_keepWay_31 : decode cX2_keepWay 31 = .ok (.return_, 1) := by decide +kernel
theorem dX3_init_0 : decode cX3_init 0 = .ok (.aload_n 0, 1) := by decide +kernel
theorem dX3_init_1 : decode cX3_init 1 = .ok (.invokespecial 3, 3) := by decide +kernel
theorem dX3_init_4 : decode cX3_init 4 = .ok (.aload_n 0, 1) := by decide +kernel
theorem dX3_init_5 : decode cX3_init 5 = .ok (.sipush 810, 3) := by decide +kernel
theorem dX3_init_8 : decode cX3_init 8 = .ok (.newarray .int, 2) := by decide +kernel
theorem dX3_init_10 : decode cX3_init 10 = .ok (.putfield 11, 3) := by decide +kernel
theorem dX3_init_13 : decode cX3_init 13 = .ok (.aload_n 0, 1) := by decide +kernel
theorem dX3_init_14 : decode cX3_init 14 = .ok (.iconst 0, 1) := by decide +kernel
theorem dX3_init_15 : decode cX3_init 15 = .ok (.putfield 17, 3) := by decide +kernel
theorem dX3_init_18 : decode cX3_init 18 = .ok (.aload_n 0, 1) := by decide +kernel
theorem dX3_init_19 : decode cX3_init 19 = .ok (.iconst 0, 1) := by decide +kernel
theorem dX3_init_20 : decode cX3_init 20 = .ok (.putfield 21, 3) := by decide +kernel
theorem dX3_init_23 : decode cX3_init 23 = .ok (.return_, 1) := by decide +kernel
theorem dX3_many_0 : decode cX3_many 0 = .ok (.aload_n 0, 1) := by decide +kernel
theorem dX3_many_1 : decode cX3_many 1 = .ok (.getfield 21, 3) := by decide +kernel
theorem dX3_many_4 : decode cX3_many 4 = .ok (.ireturn, 1) := by decide +kernel
theorem dX3_forget_0 : decode cX3_forget 0 = .ok (.aload_n 0, 1) := by decide +kernel
theorem dX3_forget_1 : decode cX3_forget 1 = .ok (.iconst 0, 1) := by decide +kernel
theorem dX3_forget_2 : decode cX3_forget 2 = .ok (.putfield 21, 3) := by decide +kernel
theorem dX3_forget_5 : decode cX3_forget 5 = .ok (.return_, 1) := by decide +kernel
theorem dX3_keep_0 : decode cX3_keep 0 = .ok (.aload_n 1, 1) := by decide +kernel
theorem dX3_keep_1 : decode cX3_keep 1 = .ok (.aload_n 0, 1) := by decide +kernel
theorem dX3_keep_2 : decode cX3_keep 2 = .ok (.getfield 11, 3) := by decide +kernel
theorem dX3_keep_5 : decode cX3_keep 5 = .ok (.aload_n 0, 1) := by decide +kernel
theorem dX3_keep_6 : decode cX3_keep 6 = .ok (.getfield 17, 3) := by decide +kernel
theorem dX3_keep_9 : decode cX3_keep 9 = .ok (.bipush 81, 2) := by decide +kernel
theorem dX3_keep_11 : decode cX3_keep 11 = .ok (.imul, 1) := by decide +kernel
theorem dX3_keep_12 : decode cX3_keep 12 = .ok (.invokevirtual 24, 3) := by decide +kernel
theorem dX3_keep_15 : decode cX3_keep 15 = .ok (.aload_n 0, 1) := by decide +kernel
theorem dX3_keep_16 : decode cX3_keep 16 = .ok (.aload_n 0, 1) := by decide +kernel
theorem dX3_keep_17 : decode cX3_keep 17 = .ok (.getfield 17, 3) := by decide +kernel
theorem dX3_keep_20 : decode cX3_keep 20 = .ok (.iconst 1, 1) := by decide +kernel
theorem dX3_keep_21 : decode cX3_keep 21 = .ok (.iadd, 1) := by decide +kernel
theorem dX3_keep_22 : decode cX3_keep 22 = .ok (.bipush 10, 2) := by decide +kernel
theorem dX3_keep_24 : decode cX3_keep 24 = .ok (.irem, 1) := by decide +kernel
theorem dX3_keep_25 : decode cX3_keep 25 = .ok (.putfield 17, 3) := by decide +kernel
theorem dX3_keep_28 : decode cX3_keep 28 = .ok (.aload_n 0, 1) := by decide +kernel
theorem dX3_keep_29 : decode cX3_keep 29 = .ok (.aload_n 0, 1) := by decide +kernel
theorem dX3_keep_30 : decode cX3_keep 30 = .ok (.getfield 21, 3) := by decide +kernel
theorem dX3_keep_33 : decode cX3_keep 33 = .ok (.iconst 1, 1) := by decide +kernel
theorem dX3_keep_34 : decode cX3_keep 34 = .ok (.iadd, 1) := by decide +kernel
theorem dX3_keep_35 : decode cX3_keep 35 = .ok (.bipush 10, 2) := by decide +kernel
theorem dX3_keep_37 : decode cX3_keep 37 = .ok (.invokestatic 28, 3) := by decide +kernel
theorem dX3_keep_40 : decode cX3_keep 40 = .ok (.putfield 21, 3) := by decide +kernel
theorem dX3_keep_43 : decode cX3_keep 43 = .ok (.return_, 1) := by decide +kernel
theorem dX3_takeBack_0 : decode cX3_takeBack 0 = .ok (.aload_n 0, 1) := by decide +kernel
theorem dX3_takeBack_1 : decode cX3_takeBack 1 = .ok (.aload_n 0, 1) := by decide +kernel
theorem dX3_takeBack_2 : decode cX3_takeBack 2 = .ok (.getfield 17, 3) := by decide +kernel
theorem dX3_takeBack_5 : decode cX3_takeBack 5 = .ok (.iload_n 2, 1) := by decide +kernel
theorem dX3_takeBack_6 : decode cX3_takeBack 6 = .ok (.isub, 1) := by decide +kernel
theorem dX3_takeBack_7 : decode cX3_takeBack 7 = .ok (.bipush 10, 2) := by decide +kernel
theorem dX3_takeBack_9 : decode cX3_takeBack 9 = .ok (.invokestatic 34, 3) := by decide +kernel
theorem dX3_takeBack_12 : decode cX3_takeBack 12 = .ok (.putfield 17, 3) := by decide +kernel
theorem dX3_takeBack_15 : decode cX3_takeBack 15 = .ok (.aload_n 0, 1) := by decide +kernel
theorem dX3_takeBack_16 : decode cX3_takeBack 16 = .ok (.iconst 0, 1) := by decide +kernel
theorem dX3_takeBack_17 : decode cX3_takeBack 17 = .ok (.aload_n 0, 1) := by decide +kernel
theorem dX3_takeBack_18 : decode cX3_takeBack 18 = .ok (.getfield 21, 3) := by decide +kernel
theorem dX3_takeBack_21 : decode cX3_takeBack 21 = .ok (.iload_n 2, 1) := by decide +kernel
theorem dX3_takeBack_22 : decode cX3_takeBack 22 = .ok (.isub, 1) := by decide +kernel
theorem dX3_takeBack_23 : decode cX3_takeBack 23 = .ok (.invokestatic 37, 3) := by decide +kernel
theorem dX3_takeBack_26 : decode cX3_takeBack 26 = .ok (.putfield 21, 3) := by decide +kernel
theorem dX3_takeBack_29 : decode cX3_takeBack 29 = .ok (.aload_n 1, 1) := by decide +kernel
theorem dX3_takeBack_30 : decode cX3_takeBack 30 = .ok (.aload_n 0, 1) := by decide +kernel
theorem dX3_takeBack_31 : decode cX3_takeBack 31 = .ok (.getfield 11, 3) := by decide +kernel
theorem dX3_takeBack_34 : decode cX3_takeBack 34 = .ok (.aload_n 0, 1) := by decide +kernel
theorem dX3_takeBack_35 : decode cX3_takeBack 35 = .ok (.getfield 17, 3) := by decide +kernel
theorem dX3_takeBack_38 : decode cX3_takeBack 38 = .ok (.bipush 81, 2) := by decide +kernel
theorem dX3_takeBack_40 : decode cX3_takeBack 40 = .ok (.imul, 1) := by decide +kernel
theorem dX3_takeBack_41 : decode cX3_takeBack 41 = .ok (.invokevirtual 40, 3) := by decide +kernel
theorem dX3_takeBack_44 : decode cX3_takeBack 44 = .ok (.return_, 1) := by decide +kernel
theorem dX3_become_0 : decode cX3_become 0 = .ok (.aload_n 1, 1) := by decide +kernel
theorem dX3_become_1 : decode cX3_become 1 = .ok (.getfield 11, 3) := by decide +kernel
theorem dX3_become_4 : decode cX3_become 4 = .ok (.iconst 0, 1) := by decide +kernel
theorem dX3_become_5 : decode cX3_become 5 = .ok (.aload_n 0, 1) := by decide +kernel
theorem dX3_become_6 : decode cX3_become 6 = .ok (.getfield 11, 3) := by decide +kernel
theorem dX3_become_9 : decode cX3_become 9 = .ok (.iconst 0, 1) := by decide +kernel
theorem dX3_become_10 : decode cX3_become 10 = .ok (.aload_n 0, 1) := by decide +kernel
theorem dX3_become_11 : decode cX3_become 11 = .ok (.getfield 11, 3) := by decide +kernel
theorem dX3_become_14 : decode cX3_become 14 = .ok (.arraylength, 1) := by decide +kernel
theorem dX3_become_15 : decode cX3_become 15 = .ok (.invokestatic 43, 3) := by decide +kernel
theorem dX3_become_18 : decode cX3_become 18 = .ok (.aload_n 0, 1) := by decide +kernel
theorem dX3_become_19 : decode cX3_become 19 = .ok (.aload_n 1, 1) := by decide +kernel
theorem dX3_become_20 : decode cX3_become 20 = .ok (.getfield 17, 3) := by decide +kernel
theorem dX3_become_23 : decode cX3_become 23 = .ok (.putfield 17, 3) := by decide +kernel
theorem dX3_become_26 : decode cX3_become 26 = .ok (.aload_n 0, 1) := by decide +kernel
theorem dX3_become_27 : decode cX3_become 27 = .ok (.aload_n 1, 1) := by decide +kernel
theorem dX3_become_28 : decode cX3_become 28 = .ok (.getfield 21, 3) := by decide +kernel
theorem dX3_become_31 : decode cX3_become 31 = .ok (.putfield 21, 3) := by decide +kernel
theorem dX3_become_34 : decode cX3_become 34 = .ok (.return_, 1) := by decide +kernel
theorem dX4_init_0 : decode cX4_init 0 = .ok (.aload_n 0, 1) := by decide +kernel
theorem dX4_init_1 : decode cX4_init 1 = .ok (.invokespecial 3, 3) := by decide +kernel
theorem dX4_init_4 : decode cX4_init 4 = .ok (.aload_n 0, 1) := by decide +kernel
theorem dX4_init_5 : decode cX4_init 5 = .ok (.new 9, 3) := by decide +kernel
theorem dX4_init_8 : decode cX4_init 8 = .ok (.dup, 1) := by decide +kernel
theorem dX4_init_9 : decode cX4_init 9 = .ok (.invokespecial 11, 3) := by decide +kernel
theorem dX4_init_12 : decode cX4_init 12 = .ok (.putfield 12, 3) := by decide +kernel
theorem dX4_init_15 : decode cX4_init 15 = .ok (.aload_n 0, 1) := by decide +kernel
theorem dX4_init_16 : decode cX4_init 16 = .ok (.iconst 3, 1) := by decide +kernel
theorem dX4_init_17 : decode cX4_init 17 = .ok (.newarray .int, 2) := by decide +kernel
theorem dX4_init_19 : decode cX4_init 19 = .ok (.putfield 18, 3) := by decide +kernel
theorem dX4_init_22 : decode cX4_init 22 = .ok (.aload_n 0, 1) := by decide +kernel
theorem dX4_init_23 : decode cX4_init 23 = .ok (.iconst 3, 1) := by decide +kernel
theorem dX4_init_24 : decode cX4_init 24 = .ok (.newarray .int, 2) := by decide +kernel
theorem dX4_init_26 : decode cX4_init 26 = .ok (.putfield 22, 3) := by decide +kernel
theorem dX4_init_29 : decode cX4_init 29 = .ok (.aload_n 0, 1) := by decide +kernel
theorem dX4_init_30 : decode cX4_init 30 = .ok (.bipush 10, 2) := by decide +kernel
theorem dX4_init_32 : decode cX4_init 32 = .ok (.newarray .int, 2) := by decide +kernel
theorem dX4_init_34 : decode cX4_init 34 = .ok (.putfield 25, 3) := by decide +kernel
theorem dX4_init_37 : decode cX4_init 37 = .ok (.aload_n 0, 1) := by decide +kernel
theorem dX4_init_38 : decode cX4_init 38 = .ok (.bipush 10, 2) := by decide +kernel
theorem dX4_init_40 : decode cX4_init 40 = .ok (.newarray .int, 2) := by decide +kernel
theorem dX4_init_42 : decode cX4_init 42 = .ok (.putfield 28, 3) := by decide +kernel
theorem dX4_init_45 : decode cX4_init 45 = .ok (.aload_n 0, 1) := by decide +kernel
theorem dX4_init_46 : decode cX4_init 46 = .ok (.iconst 0, 1) := by decide +kernel
theorem dX4_init_47 : decode cX4_init 47 = .ok (.putfield 31, 3) := by decide +kernel
theorem dX4_init_50 : decode cX4_init 50 = .ok (.aload_n 0, 1) := by decide +kernel
theorem dX4_init_51 : decode cX4_init 51 = .ok (.iconst 0, 1) := by decide +kernel
theorem dX4_init_52 : decode cX4_init 52 = .ok (.putfield 35, 3) := by decide +kernel
theorem dX4_init_55 : decode cX4_init 55 = .ok (.aload_n 0, 1) := by decide +kernel
theorem dX4_init_56 : decode cX4_init 56 = .ok (.iconst 0, 1) := by decide +kernel
theorem dX4_init_57 : decode cX4_init 57 = .ok (.putfield 38, 3) := by decide +kernel
theorem dX4_init_60 : decode cX4_init 60 = .ok (.return_, 1) := by decide +kernel
theorem dX4_most_0 : decode cX4_most 0 = .ok (.aload_n 0, 1) := by decide +kernel
theorem dX4_most_1 : decode cX4_most 1 = .ok (.getfield 35, 3) := by decide +kernel
theorem dX4_most_4 : decode cX4_most 4 = .ok (.ireturn, 1) := by decide +kernel
theorem dX4_mostBits_0 : decode cX4_mostBits 0 = .ok (.aload_n 0, 1) := by decide +kernel
theorem dX4_mostBits_1 : decode cX4_mostBits 1 = .ok (.getfield 38, 3) := by decide +kernel
theorem dX4_mostBits_4 : decode cX4_mostBits 4 = .ok (.ireturn, 1) := by decide +kernel
theorem dX4_seekByBoard_0 : decode cX4_seekByBoard 0 = .ok (.aload_n 0, 1) := by decide +kernel
theorem dX4_seekByBoard_1 : decode cX4_seekByBoard 1 = .ok (.aload_n 1, 1) := by decide +kernel
theorem dX4_seekByBoard_2 : decode cX4_seekByBoard 2 = .ok (.getfield 41, 3) := by decide +kernel
theorem dX4_seekByBoard_5 : decode cX4_seekByBoard 5 = .ok (.getfield 47, 3) := by decide +kernel
theorem dX4_seekByBoard_8 : decode cX4_seekByBoard 8 = .ok (.iconst 3, 1) := by decide +kernel
theorem dX4_seekByBoard_9 : decode cX4_seekByBoard 9 = .ok (.invokestatic 50, 3) := by decide +kernel
theorem dX4_seekByBoard_12 : decode cX4_seekByBoard 12 = .ok (.putfield 31, 3) := by decide +kernel
theorem dX4_seekByBoard_15 : decode cX4_seekByBoard 15 = .ok (.aload_n 0, 1) := by decide +kernel
theorem dX4_seekByBoard_16 : decode cX4_seekByBoard 16 = .ok (.aload_n 1, 1) := by decide +kernel
theorem dX4_seekByBoard_17 : decode cX4_seekByBoard 17 = .ok (.invokevirtual 56, 3) := by decide +kernel
theorem dX4_seekByBoard_20 : decode cX4_seekByBoard 20 = .ok (.istore_n 2, 1) := by decide +kernel
theorem dX4_seekByBoard_21 : decode cX4_seekByBoard 21 = .ok (.iconst 0, 1) := by decide +kernel
theorem dX4_seekByBoard_22 : decode cX4_seekByBoard 22 = .ok (.istore_n 3, 1) := by decide +kernel
theorem dX4_seekByBoard_23 : decode cX4_seekByBoard 23 = .ok (.iload_n 3, 1) := by decide +kernel
theorem dX4_seekByBoard_24 : decode cX4_seekByBoard 24 = .ok (.aload_n 0, 1) := by decide +kernel
theorem dX4_seekByBoard_25 : decode cX4_seekByBoard 25 = .ok (.getfield 31, 3) := by decide +kernel
theorem dX4_seekByBoard_28 : decode cX4_seekByBoard 28 = .ok (.if_icmp .ge 23, 3) := by decide +kernel
theorem dX4_seekByBoard_31 : decode cX4_seekByBoard 31 = .ok (.aload_n 0, 1) := by decide +kernel
theorem dX4_seekByBoard_32 : decode cX4_seekByBoard 32 = .ok (.getfield 18, 3) := by decide +kernel
theorem dX4_seekByBoard_35 : decode cX4_seekByBoard 35 = .ok (.iload_n 3, 1) := by decide +kernel
theorem dX4_seekByBoard_36 : decode cX4_seekByBoard 36 = .ok (.iload_n 2, 1) := by decide +kernel
theorem dX4_seekByBoard_37 : decode cX4_seekByBoard 37 = .ok (.aload_n 0, 1) := by decide +kernel
theorem dX4_seekByBoard_38 : decode cX4_seekByBoard 38 = .ok (.aload_n 1, 1) := by decide +kernel
theorem dX4_seekByBoard_39 : decode cX4_seekByBoard 39 = .ok (.iload_n 3, 1) := by decide +kernel
theorem dX4_seekByBoard_40 : decode cX4_seekByBoard 40 = .ok (.invokevirtual 60, 3) := by decide +kernel
theorem dX4_seekByBoard_43 : decode cX4_seekByBoard 43 = .ok (.iand, 1) := by decide +kernel
theorem dX4_seekByBoard_44 : decode cX4_seekByBoard 44 = .ok (.iastore, 1) := by decide +kernel
theorem dX4_seekByBoard_45 : decode cX4_seekByBoard 45 = .ok (.iinc 3 1, 3) := by decide +kernel
theorem dX4_seekByBoard_48 : decode cX4_seekByBoard 48 = .ok (.goto (-25), 3) := by decide +kernel
theorem dX4_seekByBoard_51 : decode cX4_seekByBoard 51 = .ok (.aload_n 0, 1) := by decide +kernel
theorem dX4_seekByBoard_52 : decode cX4_seekByBoard 52 = .ok (.aload_n 1, 1) := by decide +kernel
theorem dX4_seekByBoard_53 : decode cX4_seekByBoard 53 = .ok (.invokevirtual 64, 3) := by decide +kernel
theorem dX4_seekByBoard_56 : decode cX4_seekByBoard 56 = .ok (.return_, 1) := by decide +kernel
theorem dX4_seekByCords_0 : decode cX4_seekByCords 0 = .ok (.aload_n 0, 1) := by decide +kernel
theorem dX4_seekByCords_1 : decode cX4_seekByCords 1 = .ok (.iconst 0, 1) := by decide +kernel
theorem dX4_seekByCords_2 : decode cX4_seekByCords 2 = .ok (.iload_n 2, 1) := by decide +kernel
theorem dX4_seekByCords_3 : decode cX4_seekByCords 3 = .ok (.iconst 3, 1) := by decide +kernel
theorem dX4_seekByCords_4 : decode cX4_seekByCords 4 = .ok (.invokestatic 50, 3) := by decide +kernel
theorem dX4_seekByCords_7 : decode cX4_seekByCords 7 = .ok (.invokestatic 68, 3) := by decide +kernel
theorem dX4_seekByCords_10 : decode cX4_seekByCords 10 = .ok (.putfield 31, 3) := by decide +kernel
theorem dX4_seekByCords_13 : decode cX4_seekByCords 13 = .ok (.aload_n 0, 1) := by decide +kernel
theorem dX4_seekByCords_14 : decode cX4_seekByCords 14 = .ok (.aload_n 1, 1) := by decide +kernel
theorem dX4_seekByCords_15 : decode cX4_seekByCords 15 = .ok (.invokevirtual 56, 3) := by decide +kernel
theorem dX4_seekByCords_18 : decode cX4_seekByCords 18 = .ok (.istore_n 3, 1) := by decide +kernel
theorem dX4_seekByCords_19 : decode cX4_seekByCords 19 = .ok (.iconst 0, 1) := by decide +kernel
theorem dX4_seekByCords_20 : decode cX4_seekByCords 20 = .ok (.istore 4, 2) := by decide +kernel
theorem dX4_seekByCords_22 : decode cX4_seekByCords 22 = .ok (.iload 4, 2) := by decide +kernel
theorem dX4_seekByCords_24 : decode cX4_seekByCords 24 = .ok (.aload_n 0, 1) := by decide +kernel
theorem dX4_seekByCords_25 : decode cX4_seekByCords 25 = .ok (.getfield 31, 3) := by decide +kernel
theorem dX4_seekByCords_28 : decode cX4_seekByCords 28 = .ok (.if_icmp .ge 17, 3) := by decide +kernel
theorem dX4_seekByCords_31 : decode cX4_seekByCords 31 = .ok (.aload_n 0, 1) := by decide +kernel
theorem dX4_seekByCords_32 : decode cX4_seekByCords 32 = .ok (.getfield 18, 3) := by decide +kernel
theorem dX4_seekByCords_35 : decode cX4_seekByCords 35 = .ok (.iload 4, 2) := by decide +kernel
theorem dX4_seekByCords_37 : decode cX4_seekByCords 37 = .ok (.iload_n 3, 1) := by decide +kernel
theorem dX4_seekByCords_38 : decode cX4_seekByCords 38 = .ok (.iastore, 1) := by decide +kernel
theorem dX4_seekByCords_39 : decode cX4_seekByCords 39 = .ok (.iinc 4 1, 3) := by decide +kernel
theorem dX4_seekByCords_42 : decode cX4_seekByCords 42 = .ok (.goto (-20), 3) := by decide +kernel
theorem dX4_seekByCords_45 : decode cX4_seekByCords 45 = .ok (.aload_n 0, 1) := by decide +kernel
theorem dX4_seekByCords_46 : decode cX4_seekByCords 46 = .ok (.aload_n 1, 1) := by decide +kernel
theorem dX4_seekByCords_47 : decode cX4_seekByCords 47 = .ok (.invokevirtual 64, 3) := by decide +kernel
theorem dX4_seekByCords_50 : decode cX4_seekByCords 50 = .ok (.return_, 1) := by decide +kernel
theorem dX4_ableCalls_0 : decode cX4_ableCalls 0 = .ok (.aload_n 0, 1) := by decide +kernel
theorem dX4_ableCalls_1 : decode cX4_ableCalls 1 = .ok (.getfield 12, 3) := by decide +kernel
theorem dX4_ableCalls_4 : decode cX4_ableCalls 4 = .ok (.aload_n 1, 1) := by decide +kernel
theorem dX4_ableCalls_5 : decode cX4_ableCalls 5 = .ok (.invokevirtual 71, 3) := by decide +kernel
theorem dX4_ableCalls_8 : decode cX4_ableCalls 8 = .ok (.iconst 0, 1) := by decide +kernel
theorem dX4_ableCalls_9 : decode cX4_ableCalls 9 = .ok (.istore_n 2, 1) := by decide +kernel
theorem dX4_ableCalls_10 : decode cX4_ableCalls 10 = .ok (.iconst 0, 1) := by decide +kernel
theorem dX4_ableCalls_11 : decode cX4_ableCalls 11 = .ok (.istore_n 3, 1) := by decide +kernel
theorem dX4_ableCalls_12 : decode cX4_ableCalls 12 = .ok (.iload_n 3, 1) := by decide +kernel
theorem dX4_ableCalls_13 : decode cX4_ableCalls 13 = .ok (.aload_n 0, 1) := by decide +kernel
theorem dX4_ableCalls_14 : decode cX4_ableCalls 14 = .ok (.getfield 12, 3) := by decide +kernel
theorem dX4_ableCalls_17 : decode cX4_ableCalls 17 = .ok (.invokevirtual 74, 3) := by decide +kernel
theorem dX4_ableCalls_20 : decode cX4_ableCalls 20 = .ok (.if_icmp .ge 82, 3) := by decide +kernel
theorem dX4_ableCalls_23 : decode cX4_ableCalls 23 = .ok (.aload_n 0, 1) := by decide +kernel
theorem dX4_ableCalls_24 : decode cX4_ableCalls 24 = .ok (.getfield 12, 3) := by decide +kernel
theorem dX4_ableCalls_27 : decode cX4_ableCalls 27 = .ok (.iload_n 3, 1) := by decide +kernel
theorem dX4_ableCalls_28 : decode cX4_ableCalls 28 = .ok (.invokevirtual 78, 3) := by decide +kernel
theorem dX4_ableCalls_31 : decode cX4_ableCalls 31 = .ok (.istore 4, 2) := by decide +kernel
theorem dX4_ableCalls_33 : decode cX4_ableCalls 33 = .ok (.aload_n 1, 1) := by decide +kernel
theorem dX4_ableCalls_34 : decode cX4_ableCalls 34 = .ok (.iload 4, 2) := by decide +kernel
theorem dX4_ableCalls_36 : decode cX4_ableCalls 36 = .ok (.iconst 2, 1) := by decide +kernel
theorem dX4_ableCalls_37 : decode cX4_ableCalls 37 = .ok (.invokevirtual 82, 3) := by decide +kernel
theorem dX4_ableCalls_40 : decode cX4_ableCalls 40 = .ok (.istore 5, 2) := by decide +kernel
theorem dX4_ableCalls_42 : decode cX4_ableCalls 42 = .ok (.iload 5, 2) := by decide +kernel
theorem dX4_ableCalls_44 : decode cX4_ableCalls 44 = .ok (.aload_n 1, 1) := by decide +kernel
theorem dX4_ableCalls_45 : decode cX4_ableCalls 45 = .ok (.invokevirtual 85, 3) := by decide +kernel
theorem dX4_ableCalls_48 : decode cX4_ableCalls 48 = .ok (.if_icmp .lt 7, 3) := by decide +kernel
theorem dX4_ableCalls_51 : decode cX4_ableCalls 51 = .ok (.iconst 1, 1) := by decide +kernel
theorem dX4_ableCalls_52 : decode cX4_ableCalls 52 = .ok (.goto 4, 3) := by decide +kernel
theorem dX4_ableCalls_55 : decode cX4_ableCalls 55 = .ok (.iconst 0, 1) := by decide +kernel
theorem dX4_ableCalls_56 : decode cX4_ableCalls 56 = .ok (.istore 6, 2) := by decide +kernel
theorem dX4_ableCalls_58 : decode cX4_ableCalls 58 = .ok (.iload 6, 2) := by decide +kernel
theorem dX4_ableCalls_60 : decode cX4_ableCalls 60 = .ok (.ifCond .eq 36, 3) := by decide +kernel
theorem dX4_ableCalls_63 : decode cX4_ableCalls 63 = .ok (.aload_n 0, 1) := by decide +kernel
theorem dX4_ableCalls_64 : decode cX4_ableCalls 64 = .ok (.getfield 12, 3) := by decide +kernel
theorem dX4_ableCalls_67 : decode cX4_ableCalls 67 = .ok (.aload_n 1, 1) := by decide +kernel
theorem dX4_ableCalls_68 : decode cX4_ableCalls 68 = .ok (.iload 4, 2) := by decide +kernel
theorem dX4_ableCalls_70 : decode cX4_ableCalls 70 = .ok (.iconst 0, 1) := by decide +kernel
theorem dX4_ableCalls_71 : decode cX4_ableCalls 71 = .ok (.invokevirtual 82, 3) := by decide +kernel
theorem dX4_ableCalls_74 : decode cX4_ableCalls 74 = .ok (.aload_n 1, 1) := by decide +kernel
theorem dX4_ableCalls_75 : decode cX4_ableCalls 75 = .ok (.iload 4, 2) := by decide +kernel
theorem dX4_ableCalls_77 : decode cX4_ableCalls 77 = .ok (.iconst 1, 1) := by decide +kernel
theorem dX4_ableCalls_78 : decode cX4_ableCalls 78 = .ok (.invokevirtual 82, 3) := by decide +kernel
theorem dX4_ableCalls_81 : decode cX4_ableCalls 81 = .ok (.iload 5, 2) := by decide +kernel
theorem dX4_ableCalls_83 : decode cX4_ableCalls 83 = .ok (.invokevirtual 88, 3) := by decide +kernel
theorem dX4_ableCalls_86 : decode cX4_ableCalls 86 = .ok (.ifCond .eq 10, 3) := by decide +kernel
theorem dX4_ableCalls_89 : decode cX4_ableCalls 89 = .ok (.iload_n 2, 1) := by decide +kernel
theorem dX4_ableCalls_90 : decode cX4_ableCalls 90 = .ok (.iconst 1, 1) := by decide +kernel
theorem dX4_ableCalls_91 : decode cX4_ableCalls 91 = .ok (.iload 4, 2) := by decide +kernel
theorem dX4_ableCalls_93 : decode cX4_ableCalls 93 = .ok (.ishl, 1) := by decide +kernel
theorem dX4_ableCalls_94 : decode cX4_ableCalls 94 = .ok (.ior, 1) := by decide +kernel
theorem dX4_ableCalls_95 : decode cX4_ableCalls 95 = .ok (.istore_n 2, 1) := by decide +kernel
theorem dX4_ableCalls_96 : decode cX4_ableCalls 96 = .ok (.iinc 3 1, 3) := by decide +kernel
theorem dX4_ableCalls_99 : decode cX4_ableCalls 99 = .ok (.goto (-87), 3) := by decide +kernel
theorem dX4_ableCalls_102 : decode cX4_ableCalls 102 = .ok (.iload_n 2, 1) := by decide +kernel
theorem dX4_ableCalls_103 : decode cX4_ableCalls 103 = .ok (.ireturn, 1) := by decide +kernel
theorem dX4_takenBy_0 : decode cX4_takenBy 0 = .ok (.iconst 0, 1) := by decide +kernel
theorem dX4_takenBy_1 : decode cX4_takenBy 1 = .ok (.istore_n 3, 1) := by decide +kernel
theorem dX4_takenBy_2 : decode cX4_takenBy 2 = .ok (.iconst 0, 1) := by decide +kernel
theorem dX4_takenBy_3 : decode cX4_takenBy 3 = .ok (.istore 4, 2) := by decide +kernel
theorem dX4_takenBy_5 : decode cX4_takenBy 5 = .ok (.iload 4, 2) := by decide +kernel
theorem dX4_takenBy_7 : decode cX4_takenBy 7 = .ok (.aload_n 1, 1) := by decide +kernel
theorem dX4_takenBy_8 : decode cX4_takenBy 8 = .ok (.invokevirtual 92, 3) := by decide +kernel
theorem dX4_takenBy_11 : decode cX4_takenBy 11 = .ok (.if_icmp .ge 63, 3) := by decide +kernel
theorem dX4_takenBy_14 : decode cX4_takenBy 14 = .ok (.aload_n 1, 1) := by decide +kernel
theorem dX4_takenBy_15 : decode cX4_takenBy 15 = .ok (.getfield 41, 3) := by decide +kernel
theorem dX4_takenBy_18 : decode cX4_takenBy 18 = .ok (.iload_n 2, 1) := by decide +kernel
theorem dX4_takenBy_19 : decode cX4_takenBy 19 = .ok (.aload_n 1, 1) := by decide +kernel
theorem dX4_takenBy_20 : decode cX4_takenBy 20 = .ok (.iload 4, 2) := by decide +kernel
theorem dX4_takenBy_22 : decode cX4_takenBy 22 = .ok (.iconst 0, 1) := by decide +kernel
theorem dX4_takenBy_23 : decode cX4_takenBy 23 = .ok (.invokevirtual 82, 3) := by decide +kernel
theorem dX4_takenBy_26 : decode cX4_takenBy 26 = .ok (.aload_n 1, 1) := by decide +kernel
theorem dX4_takenBy_27 : decode cX4_takenBy 27 = .ok (.iload 4, 2) := by decide +kernel
theorem dX4_takenBy_29 : decode cX4_takenBy 29 = .ok (.iconst 1, 1) := by decide +kernel
theorem dX4_takenBy_30 : decode cX4_takenBy 30 = .ok (.invokevirtual 82, 3) := by decide +kernel
theorem dX4_takenBy_33 : decode cX4_takenBy 33 = .ok (.invokevirtual 95, 3) := by decide +kernel
theorem dX4_takenBy_36 : decode cX4_takenBy 36 = .ok (.istore 5, 2) := by decide +kernel
theorem dX4_takenBy_38 : decode cX4_takenBy 38 = .ok (.iload 5, 2) := by decide +kernel
theorem dX4_takenBy_40 : decode cX4_takenBy 40 = .ok (.ifCond .eq 28, 3) := by decide +kernel
theorem dX4_takenBy_43 : decode cX4_takenBy 43 = .ok (.aload_n 0, 1) := by decide +kernel
theorem dX4_takenBy_44 : decode cX4_takenBy 44 = .ok (.getfield 12, 3) := by decide +kernel
theorem dX4_takenBy_47 : decode cX4_takenBy 47 = .ok (.iload_n 2, 1) := by decide +kernel
theorem dX4_takenBy_48 : decode cX4_takenBy 48 = .ok (.aload_n 1, 1) := by decide +kernel
theorem dX4_takenBy_49 : decode cX4_takenBy 49 = .ok (.iload 4, 2) := by decide +kernel
theorem dX4_takenBy_51 : decode cX4_takenBy 51 = .ok (.iconst 2, 1) := by decide +kernel
theorem dX4_takenBy_52 : decode cX4_takenBy 52 = .ok (.invokevirtual 82, 3) := by decide +kernel
theorem dX4_takenBy_55 : decode cX4_takenBy 55 = .ok (.invokevirtual 98, 3) := by decide +kernel
theorem dX4_takenBy_58 : decode cX4_takenBy 58 = .ok (.ifCond .eq 10, 3) := by decide +kernel
theorem dX4_takenBy_61 : decode cX4_takenBy 61 = .ok (.iload_n 3, 1) := by decide +kernel
theorem dX4_takenBy_62 : decode cX4_takenBy 62 = .ok (.iconst 1, 1) := by decide +kernel
theorem dX4_takenBy_63 : decode cX4_takenBy 63 = .ok (.iload 4, 2) := by decide +kernel
theorem dX4_takenBy_65 : decode cX4_takenBy 65 = .ok (.ishl, 1) := by decide +kernel
theorem dX4_takenBy_66 : decode cX4_takenBy 66 = .ok (.ior, 1) := by decide +kernel
theorem dX4_takenBy_67 : decode cX4_takenBy 67 = .ok (.istore_n 3, 1) := by decide +kernel
theorem dX4_takenBy_68 : decode cX4_takenBy 68 = .ok (.iinc 4 1, 3) := by decide +kernel
theorem dX4_takenBy_71 : decode cX4_takenBy 71 = .ok (.goto (-66), 3) := by decide +kernel
theorem dX4_takenBy_74 : decode cX4_takenBy 74 = .ok (.iload_n 3, 1) := by decide +kernel
theorem dX4_takenBy_75 : decode cX4_takenBy 75 = .ok (.ireturn, 1) := by decide +kernel
theorem dX4_seek_0 : decode cX4_seek 0 = .ok (.aload_n 1, 1) := by decide +kernel
theorem dX4_seek_1 : decode cX4_seek 1 = .ok (.invokevirtual 92, 3) := by decide +kernel
theorem dX4_seek_4 : decode cX4_seek 4 = .ok (.bipush 10, 2) := by decide +kernel
theorem dX4_seek_6 : decode cX4_seek 6 = .ok (.invokestatic 50, 3) := by decide +kernel
theorem dX4_seek_9 : decode cX4_seek 9 = .ok (.istore_n 2, 1) := by decide +kernel
theorem dX4_seek_10 : decode cX4_seek 10 = .ok (.iconst 0, 1) := by decide +kernel
theorem dX4_seek_11 : decode cX4_seek 11 = .ok (.istore_n 3, 1) := by decide +kernel
theorem dX4_seek_12 : decode cX4_seek 12 = .ok (.iload_n 3, 1) := by decide +kernel
theorem dX4_seek_13 : decode cX4_seek 13 = .ok (.iload_n 2, 1) := by decide +kernel
theorem dX4_seek_14 : decode cX4_seek 14 = .ok (.if_icmp .ge 16, 3) := by decide +kernel
theorem dX4_seek_17 : decode cX4_seek 17 = .ok (.aload_n 0, 1) := by decide +kernel
theorem dX4_seek_18 : decode cX4_seek 18 = .ok (.aload_n 1, 1) := by decide +kernel
theorem dX4_seek_19 : decode cX4_seek 19 = .ok (.iload_n 3, 1) := by decide +kernel
theorem dX4_seek_20 : decode cX4_seek 20 = .ok (.iload_n 2, 1) := by decide +kernel
theorem dX4_seek_21 : decode cX4_seek 21 = .ok (.invokevirtual 102, 3) := by decide +kernel
theorem dX4_seek_24 : decode cX4_seek 24 = .ok (.iinc 3 1, 3) := by decide +kernel
theorem dX4_seek_27 : decode cX4_seek 27 = .ok (.goto (-15), 3) := by decide +kernel
theorem dX4_seek_30 : decode cX4_seek 30 = .ok (.iconst 0, 1) := by decide +kernel
theorem dX4_seek_31 : decode cX4_seek 31 = .ok (.istore_n 3, 1) := by decide +kernel
theorem dX4_seek_32 : decode cX4_seek 32 = .ok (.iconst 0, 1) := by decide +kernel
theorem dX4_seek_33 : decode cX4_seek 33 = .ok (.istore 4, 2) := by decide +kernel
theorem dX4_seek_35 : decode cX4_seek 35 = .ok (.iload 4, 2) := by decide +kernel
theorem dX4_seek_37 : decode cX4_seek 37 = .ok (.aload_n 0, 1) := by decide +kernel
theorem dX4_seek_38 : decode cX4_seek 38 = .ok (.getfield 31, 3) := by decide +kernel
theorem dX4_seek_41 : decode cX4_seek 41 = .ok (.if_icmp .ge 25, 3) := by decide +kernel
theorem dX4_seek_44 : decode cX4_seek 44 = .ok (.iload 4, 2) := by decide +kernel
theorem dX4_seek_46 : decode cX4_seek 46 = .ok (.iconst 3, 1) := by decide +kernel
theorem dX4_seek_47 : decode cX4_seek 47 = .ok (.if_icmp .ge 19, 3) := by decide +kernel
theorem dX4_seek_50 : decode cX4_seek 50 = .ok (.iload_n 3, 1) := by decide +kernel
theorem dX4_seek_51 : decode cX4_seek 51 = .ok (.aload_n 0, 1) := by decide +kernel
theorem dX4_seek_52 : decode cX4_seek 52 = .ok (.getfield 18, 3) := by decide +kernel
theorem dX4_seek_55 : decode cX4_seek 55 = .ok (.iload 4, 2) := by decide +kernel
theorem dX4_seek_57 : decode cX4_seek 57 = .ok (.iaload, 1) := by decide +kernel
theorem dX4_seek_58 : decode cX4_seek 58 = .ok (.ior, 1) := by decide +kernel
theorem dX4_seek_59 : decode cX4_seek 59 = .ok (.istore_n 3, 1) := by decide +kernel
theorem dX4_seek_60 : decode cX4_seek 60 = .ok (.iinc 4 1, 3) := by decide +kernel
theorem dX4_seek_63 : decode cX4_seek 63 = .ok (.goto (-28), 3) := by decide +kernel
theorem dX4_seek_66 : decode cX4_seek 66 = .ok (.aload_n 0, 1) := by decide +kernel
theorem dX4_seek_67 : decode cX4_seek 67 = .ok (.iconst 0, 1) := by decide +kernel
theorem dX4_seek_68 : decode cX4_seek 68 = .ok (.putfield 35, 3) := by decide +kernel
theorem dX4_seek_71 : decode cX4_seek 71 = .ok (.aload_n 0, 1) := by decide +kernel
theorem dX4_seek_72 : decode cX4_seek 72 = .ok (.iconst 0, 1) := by decide +kernel
theorem dX4_seek_73 : decode cX4_seek 73 = .ok (.putfield 38, 3) := by decide +kernel
theorem dX4_seek_76 : decode cX4_seek 76 = .ok (.iconst 1, 1) := by decide +kernel
theorem dX4_seek_77 : decode cX4_seek 77 = .ok (.istore 4, 2) := by decide +kernel
theorem dX4_seek_79 : decode cX4_seek 79 = .ok (.iload 4, 2) := by decide +kernel
theorem dX4_seek_81 : decode cX4_seek 81 = .ok (.iconst 1, 1) := by decide +kernel
theorem dX4_seek_82 : decode cX4_seek 82 = .ok (.iload_n 2, 1) := by decide +kernel
theorem dX4_seek_83 : decode cX4_seek 83 = .ok (.ishl, 1) := by decide +kernel
theorem dX4_seek_84 : decode cX4_seek 84 = .ok (.if_icmp .ge 72, 3) := by decide +kernel
theorem dX4_seek_87 : decode cX4_seek 87 = .ok (.iload 4, 2) := by decide +kernel
theorem dX4_seek_89 : decode cX4_seek 89 = .ok (.iload_n 3, 1) := by decide +kernel
theorem dX4_seek_90 : decode cX4_seek 90 = .ok (.iconst (-1), 1) := by decide +kernel
theorem dX4_seek_91 : decode cX4_seek 91 = .ok (.ixor, 1) := by decide +kernel
theorem dX4_seek_92 : decode cX4_seek 92 = .ok (.iand, 1) := by decide +kernel
theorem dX4_seek_93 : decode cX4_seek 93 = .ok (.ifCond .ne 57, 3) := by decide +kernel
theorem dX4_seek_96 : decode cX4_seek 96 = .ok (.iload 4, 2) := by decide +kernel
theorem dX4_seek_98 : decode cX4_seek 98 = .ok (.invokestatic 106, 3) := by decide +kernel
theorem dX4_seek_101 : decode cX4_seek 101 = .ok (.aload_n 0, 1) := by decide +kernel
theorem dX4_seek_102 : decode cX4_seek 102 = .ok (.getfield 35, 3) := by decide +kernel
theorem dX4_seek_105 : decode cX4_seek 105 = .ok (.if_icmp .le 45, 3) := by decide +kernel
theorem dX4_seek_108 : decode cX4_seek 108 = .ok (.aload_n 0, 1) := by decide +kernel
theorem dX4_seek_109 : decode cX4_seek 109 = .ok (.iload 4, 2) := by decide +kernel
theorem dX4_seek_111 : decode cX4_seek 111 = .ok (.invokevirtual 111, 3) := by decide +kernel
theorem dX4_seek_114 : decode cX4_seek 114 = .ok (.ifCond .ne 36, 3) := by decide +kernel
theorem dX4_seek_117 : decode cX4_seek 117 = .ok (.aload_n 0, 1) := by decide +kernel
theorem dX4_seek_118 : decode cX4_seek 118 = .ok (.getfield 22, 3) := by decide +kernel
theorem dX4_seek_121 : decode cX4_seek 121 = .ok (.iconst 0, 1) := by decide +kernel
theorem dX4_seek_122 : decode cX4_seek 122 = .ok (.invokestatic 115, 3) := by decide +kernel
theorem dX4_seek_125 : decode cX4_seek 125 = .ok (.aload_n 0, 1) := by decide +kernel
theorem dX4_seek_126 : decode cX4_seek 126 = .ok (.iload 4, 2) := by decide +kernel
theorem dX4_seek_128 : decode cX4_seek 128 = .ok (.iconst 0, 1) := by decide +kernel
theorem dX4_seek_129 : decode cX4_seek 129 = .ok (.invokevirtual 121, 3) := by decide +kernel
theorem dX4_seek_132 : decode cX4_seek 132 = .ok (.ifCond .eq 18, 3) := by decide +kernel
theorem dX4_seek_135 : decode cX4_seek 135 = .ok (.aload_n 0, 1) := by decide +kernel
theorem dX4_seek_136 : decode cX4_seek 136 = .ok (.iload 4, 2) := by decide +kernel
theorem dX4_seek_138 : decode cX4_seek 138 = .ok (.invokestatic 106, 3) := by decide +kernel
theorem dX4_seek_141 : decode cX4_seek 141 = .ok (.putfield 35, 3) := by decide +kernel
theorem dX4_seek_144 : decode cX4_seek 144 = .ok (.aload_n 0, 1) := by decide +kernel
theorem dX4_seek_145 : decode cX4_seek 145 = .ok (.iload 4, 2) := by decide +kernel
theorem dX4_seek_147 : decode cX4_seek 147 = .ok (.putfield 38, 3) := by decide +kernel
theorem dX4_seek_150 : decode cX4_seek 150 = .ok (.iinc 4 1, 3) := by decide +kernel
theorem dX4_seek_153 : decode cX4_seek 153 = .ok (.goto (-74), 3) := by decide +kernel
theorem dX4_seek_156 : decode cX4_seek 156 = .ok (.return_, 1) := by decide +kernel
theorem dX4_findOthers_0 : decode cX4_findOthers 0 = .ok (.aload_n 1, 1) := by decide +kernel
theorem dX4_findOthers_1 : decode cX4_findOthers 1 = .ok (.iload_n 2, 1) := by decide +kernel
theorem dX4_findOthers_2 : decode cX4_findOthers 2 = .ok (.iconst 0, 1) := by decide +kernel
theorem dX4_findOthers_3 : decode cX4_findOthers 3 = .ok (.invokevirtual 82, 3) := by decide +kernel
theorem dX4_findOthers_6 : decode cX4_findOthers 6 = .ok (.istore 4, 2) := by decide +kernel
theorem dX4_findOthers_8 : decode cX4_findOthers 8 = .ok (.aload_n 1, 1) := by decide +kernel
theorem dX4_findOthers_9 : decode cX4_findOthers 9 = .ok (.iload_n 2, 1) := by decide +kernel
theorem dX4_findOthers_10 : decode cX4_findOthers 10 = .ok (.iconst 1, 1) := by decide +kernel
theorem dX4_findOthers_11 : decode cX4_findOthers 11 = .ok (.invokevirtual 82, 3) := by decide +kernel
theorem dX4_findOthers_14 : decode cX4_findOthers 14 = .ok (.istore 5, 2) := by decide +kernel
theorem dX4_findOthers_16 : decode cX4_findOthers 16 = .ok (.iconst 1, 1) := by decide +kernel
theorem dX4_findOthers_17 : decode cX4_findOthers 17 = .ok (.iload 4, 2) := by decide +kernel
theorem dX4_findOthers_19 : decode cX4_findOthers 19 = .ok (.ishl, 1) := by decide +kernel
theorem dX4_findOthers_20 : decode cX4_findOthers 20 = .ok (.iconst 1, 1) := by decide +kernel
theorem dX4_findOthers_21 : decode cX4_findOthers 21 = .ok (.iload 5, 2) := by decide +kernel
theorem dX4_findOthers_23 : decode cX4_findOthers 23 = .ok (.ishl, 1) := by decide +kernel
theorem dX4_findOthers_24 : decode cX4_findOthers 24 = .ok (.ior, 1) := by decide +kernel
theorem dX4_findOthers_25 : decode cX4_findOthers 25 = .ok (.istore 6, 2) := by decide +kernel
theorem dX4_findOthers_27 : decode cX4_findOthers 27 = .ok (.iconst 0, 1) := by decide +kernel
theorem dX4_findOthers_28 : decode cX4_findOthers 28 = .ok (.istore 7, 2) := by decide +kernel
theorem dX4_findOthers_30 : decode cX4_findOthers 30 = .ok (.iconst 0, 1) := by decide +kernel
theorem dX4_findOthers_31 : decode cX4_findOthers 31 = .ok (.istore 8, 2) := by decide +kernel
theorem dX4_findOthers_33 : decode cX4_findOthers 33 = .ok (.iconst 0, 1) := by decide +kernel
theorem dX4_findOthers_34 : decode cX4_findOthers 34 = .ok (.istore 9, 2) := by decide +kernel
theorem dX4_findOthers_36 : decode cX4_findOthers 36 = .ok (.iload 9, 2) := by decide +kernel
theorem dX4_findOthers_38 : decode cX4_findOthers 38 = .ok (.iload_n 3, 1) := by decide +kernel
theorem dX4_findOthers_39 : decode cX4_findOthers 39 = .ok (.if_icmp .ge 108, 3) := by decide +kernel
theorem dX4_findOthers_42 : decode cX4_findOthers 42 = .ok (.aload_n 1, 1) := by decide +kernel
theorem dX4_findOthers_43 : decode cX4_findOthers 43 = .ok (.iload_n 2, 1) := by decide +kernel
theorem dX4_findOthers_44 : decode cX4_findOthers 44 = .ok (.invokevirtual 124, 3) := by decide +kernel
theorem dX4_findOthers_47 : decode cX4_findOthers 47 = .ok (.aload_n 1, 1) := by decide +kernel
theorem dX4_findOthers_48 : decode cX4_findOthers 48 = .ok (.iload 9, 2) := by decide +kernel
theorem dX4_findOthers_50 : decode cX4_findOthers 50 = .ok (.iconst 2, 1) := by decide +kernel
theorem dX4_findOthers_51 : decode cX4_findOthers 51 = .ok (.invokevirtual 82, 3) := by decide +kernel
theorem dX4_findOthers_54 : decode cX4_findOthers 54 = .ok (.if_icmp .le 18, 3) := by decide +kernel
theorem dX4_findOthers_57 : decode cX4_findOthers 57 = .ok (.aload_n 1, 1) := by decide +kernel
theorem dX4_findOthers_58 : decode cX4_findOthers 58 = .ok (.iload 9, 2) := by decide +kernel
theorem dX4_findOthers_60 : decode cX4_findOthers 60 = .ok (.invokevirtual 124, 3) := by decide +kernel
theorem dX4_findOthers_63 : decode cX4_findOthers 63 = .ok (.aload_n 1, 1) := by decide +kernel
theorem dX4_findOthers_64 : decode cX4_findOthers 64 = .ok (.iload_n 2, 1) := by decide +kernel
theorem dX4_findOthers_65 : decode cX4_findOthers 65 = .ok (.iconst 2, 1) := by decide +kernel
theorem dX4_findOthers_66 : decode cX4_findOthers 66 = .ok (.invokevirtual 82, 3) := by decide +kernel
theorem dX4_findOthers_69 : decode cX4_findOthers 69 = .ok (.if_icmp .gt 7, 3) := by decide +kernel
theorem dX4_findOthers_72 : decode cX4_findOthers 72 = .ok (.iconst 1, 1) := by decide +kernel
theorem dX4_findOthers_73 : decode cX4_findOthers 73 = .ok (.goto 4, 3) := by decide +kernel
theorem dX4_findOthers_76 : decode cX4_findOthers 76 = .ok (.iconst 0, 1) := by decide +kernel
theorem dX4_findOthers_77 : decode cX4_findOthers 77 = .ok (.istore 10, 2) := by decide +kernel
theorem dX4_findOthers_79 : decode cX4_findOthers 79 = .ok (.iload 9, 2) := by decide +kernel
theorem dX4_findOthers_81 : decode cX4_findOthers 81 = .ok (.iload_n 2, 1) := by decide +kernel
theorem dX4_findOthers_82 : decode cX4_findOthers 82 = .ok (.if_icmp .eq 59, 3) := by decide +kernel
theorem dX4_findOthers_85 : decode cX4_findOthers 85 = .ok (.iload 10, 2) := by decide +kernel
theorem dX4_findOthers_87 : decode cX4_findOthers 87 = .ok (.ifCond .ne 54, 3) := by decide +kernel
theorem dX4_findOthers_90 : decode cX4_findOthers 90 = .ok (.iload 7, 2) := by decide +kernel
theorem dX4_findOthers_92 : decode cX4_findOthers 92 = .ok (.iconst 1, 1) := by decide +kernel
theorem dX4_findOthers_93 : decode cX4_findOthers 93 = .ok (.iload 9, 2) := by decide +kernel
theorem dX4_findOthers_95 : decode cX4_findOthers 95 = .ok (.ishl, 1) := by decide +kernel
theorem dX4_findOthers_96 : decode cX4_findOthers 96 = .ok (.ior, 1) := by decide +kernel
theorem dX4_findOthers_97 : decode cX4_findOthers 97 = .ok (.istore 7, 2) := by decide +kernel
theorem dX4_findOthers_99 : decode cX4_findOthers 99 = .ok (.iconst 1, 1) := by decide +kernel
theorem dX4_findOthers_100 : decode cX4_findOthers 100 = .ok (.aload_n 1, 1) := by decide +kernel
theorem dX4_findOthers_101 : decode cX4_findOthers 101 = .ok (.iload 9, 2) := by decide +kernel
theorem dX4_findOthers_103 : decode cX4_findOthers 103 = .ok (.iconst 0, 1) := by decide +kernel
theorem dX4_findOthers_104 : decode cX4_findOthers 104 = .ok (.invokevirtual 82, 3) := by decide +kernel
theorem dX4_findOthers_107 : decode cX4_findOthers 107 = .ok (.ishl, 1) := by decide +kernel
theorem dX4_findOthers_108 : decode cX4_findOthers 108 = .ok (.iconst 1, 1) := by decide +kernel
theorem dX4_findOthers_109 : decode cX4_findOthers 109 = .ok (.aload_n 1, 1) := by decide +kernel
theorem dX4_findOthers_110 : decode cX4_findOthers 110 = .ok (.iload 9, 2) := by decide +kernel
theorem dX4_findOthers_112 : decode cX4_findOthers 112 = .ok (.iconst 1, 1) := by decide +kernel
theorem dX4_findOthers_113 : decode cX4_findOthers 113 = .ok (.invokevirtual 82, 3) := by decide +kernel
theorem dX4_findOthers_116 : decode cX4_findOthers 116 = .ok (.ishl, 1) := by decide +kernel
theorem dX4_findOthers_117 : decode cX4_findOthers 117 = .ok (.ior, 1) := by decide +kernel
theorem dX4_findOthers_118 : decode cX4_findOthers 118 = .ok (.istore 11, 2) := by decide +kernel
theorem dX4_findOthers_120 : decode cX4_findOthers 120 = .ok (.iload 8, 2) := by decide +kernel
theorem dX4_findOthers_122 : decode cX4_findOthers 122 = .ok (.iload 6, 2) := by decide +kernel
theorem dX4_findOthers_124 : decode cX4_findOthers 124 = .ok (.iload 11, 2) := by decide +kernel
theorem dX4_findOthers_126 : decode cX4_findOthers 126 = .ok (.iand, 1) := by decide +kernel
theorem dX4_findOthers_127 : decode cX4_findOthers 127 = .ok (.ifCond .eq 10, 3) := by decide +kernel
theorem dX4_findOthers_130 : decode cX4_findOthers 130 = .ok (.iconst 1, 1) := by decide +kernel
theorem dX4_findOthers_131 : decode cX4_findOthers 131 = .ok (.iload 9, 2) := by decide +kernel
theorem dX4_findOthers_133 : decode cX4_findOthers 133 = .ok (.ishl, 1) := by decide +kernel
theorem dX4_findOthers_134 : decode cX4_findOthers 134 = .ok (.goto 4, 3) := by decide +kernel
theorem dX4_findOthers_137 : decode cX4_findOthers 137 = .ok (.iconst 0, 1) := by decide +kernel
theorem dX4_findOthers_138 : decode cX4_findOthers 138 = .ok (.ior, 1) := by decide +kernel
theorem dX4_findOthers_139 : decode cX4_findOthers 139 = .ok (.istore 8, 2) := by decide +kernel
theorem dX4_findOthers_141 : decode cX4_findOthers 141 = .ok (.iinc 9 1, 3) := by decide +kernel
theorem dX4_findOthers_144 : decode cX4_findOthers 144 = .ok (.goto (-108), 3) := by decide +kernel
theorem dX4_findOthers_147 : decode cX4_findOthers 147 = .ok (.iload_n 2, 1) := by decide +kernel
theorem dX4_findOthers_148 : decode cX4_findOthers 148 = .ok (.ifCond .lt 25, 3) := by decide +kernel
theorem dX4_findOthers_151 : decode cX4_findOthers 151 = .ok (.iload_n 2, 1) := by decide +kernel
theorem dX4_findOthers_152 : decode cX4_findOthers 152 = .ok (.bipush 10, 2) := by decide +kernel
theorem dX4_findOthers_154 : decode cX4_findOthers 154 = .ok (.if_icmp .ge 19, 3) := by decide +kernel
theorem dX4_findOthers_157 : decode cX4_findOthers 157 = .ok (.aload_n 0, 1) := by decide +kernel
theorem dX4_findOthers_158 : decode cX4_findOthers 158 = .ok (.getfield 25, 3) := by decide +kernel
theorem dX4_findOthers_161 : decode cX4_findOthers 161 = .ok (.iload_n 2, 1) := by decide +kernel
theorem dX4_findOthers_162 : decode cX4_findOthers 162 = .ok (.iload 7, 2) := by decide +kernel
theorem dX4_findOthers_164 : decode cX4_findOthers 164 = .ok (.iastore, 1) := by decide +kernel
theorem dX4_findOthers_165 : decode cX4_findOthers 165 = .ok (.aload_n 0, 1) := by decide +kernel
theorem dX4_findOthers_166 : decode cX4_findOthers 166 = .ok (.getfield 28, 3) := by decide +kernel
theorem dX4_findOthers_169 : decode cX4_findOthers 169 = .ok (.iload_n 2, 1) := by decide +kernel
theorem dX4_findOthers_170 : decode cX4_findOthers 170 = .ok (.iload 8, 2) := by decide +kernel
theorem dX4_findOthers_172 : decode cX4_findOthers 172 = .ok (.iastore, 1) := by decide +kernel
theorem dX4_findOthers_173 : decode cX4_findOthers 173 = .ok (.return_, 1) := by decide +kernel
theorem dX4_isAnyLineTwice_0 : decode cX4_isAnyLineTwice 0 = .ok (.iconst 0, 1) := by decide +kernel
theorem dX4_isAnyLineTwice_1 : decode cX4_isAnyLineTwice 1 = .ok (.istore_n 2, 1) := by decide +kernel
theorem dX4_isAnyLineTwice_2 : decode cX4_isAnyLineTwice 2 = .ok (.iload_n 2, 1) := by decide +kernel
theorem dX4_isAnyLineTwice_3 : decode cX4_isAnyLineTwice 3 = .ok (.bipush 10, 2) := by decide +kernel
theorem dX4_isAnyLineTwice_5 : decode cX4_isAnyLineTwice 5 = .ok (.if_icmp .ge 31, 3) := by decide +kernel
theorem dX4_isAnyLineTwice_8 : decode cX4_isAnyLineTwice 8 = .ok (.iload_n 1, 1) := by decide +kernel
theorem dX4_isAnyLineTwice_9 : decode cX4_isAnyLineTwice 9 = .ok (.iload_n 2, 1) := by decide +kernel
theorem dX4_isAnyLineTwice_10 : decode cX4_isAnyLineTwice 10 = .ok (.ishr, 1) := by decide +kernel
theorem dX4_isAnyLineTwice_11 : decode cX4_isAnyLineTwice 11 = .ok (.iconst 1, 1) := by decide +kernel
theorem dX4_isAnyLineTwice_12 : decode cX4_isAnyLineTwice 12 = .ok (.iand, 1) := by decide +kernel
theorem dX4_isAnyLineTwice_13 : decode cX4_isAnyLineTwice 13 = .ok (.iconst 1, 1) := by decide +kernel
theorem dX4_isAnyLineTwice_14 : decode cX4_isAnyLineTwice 14 = .ok (.if_icmp .ne 16, 3) := by decide +kernel
theorem dX4_isAnyLineTwice_17 : decode cX4_isAnyLineTwice 17 = .ok (.aload_n 0, 1) := by decide +kernel
theorem dX4_isAnyLineTwice_18 : decode cX4_isAnyLineTwice 18 = .ok (.getfield 28, 3) := by decide +kernel
theorem dX4_isAnyLineTwice_21 : decode cX4_isAnyLineTwice 21 = .ok (.iload_n 2, 1) := by decide +kernel
theorem dX4_isAnyLineTwice_22 : decode cX4_isAnyLineTwice 22 = .ok (.iaload, 1) := by decide +kernel
theorem dX4_isAnyLineTwice_23 : decode cX4_isAnyLineTwice 23 = .ok (.iload_n 1, 1) := by decide +kernel
theorem dX4_isAnyLineTwice_24 : decode cX4_isAnyLineTwice 24 = .ok (.iand, 1) := by decide +kernel
theorem dX4_isAnyLineTwice_25 : decode cX4_isAnyLineTwice 25 = .ok (.ifCond .eq 5, 3) := by decide +kernel
theorem dX4_isAnyLineTwice_28 : decode cX4_isAnyLineTwice 28 = .ok (.iconst 1, 1) := by decide +kernel
theorem dX4_isAnyLineTwice_29 : decode cX4_isAnyLineTwice 29 = .ok (.ireturn, 1) := by decide +kernel
theorem dX4_isAnyLineTwice_30 : decode cX4_isAnyLineTwice 30 = .ok (.iinc 2 1, 3) := by decide +kernel
theorem dX4_isAnyLineTwice_33 : decode cX4_isAnyLineTwice 33 = .ok (.goto (-31), 3) := by decide +kernel
theorem dX4_isAnyLineTwice_36 : decode cX4_isAnyLineTwice 36 = .ok (.iconst 0, 1) := by decide +kernel
theorem dX4_isAnyLineTwice_37 : decode cX4_isAnyLineTwice 37 = .ok (.ireturn, 1) := by decide +kernel
theorem dX4_fits_0 : decode cX4_fits 0 = .ok (.iload_n 2, 1) := by decide +kernel
theorem dX4_fits_1 : decode cX4_fits 1 = .ok (.ifCond .lt 15, 3) := by decide +kernel
theorem dX4_fits_4 : decode cX4_fits 4 = .ok (.iload_n 2, 1) := by decide +kernel
theorem dX4_fits_5 : decode cX4_fits 5 = .ok (.bipush 10, 2) := by decide +kernel
theorem dX4_fits_7 : decode cX4_fits 7 = .ok (.if_icmp .ge 9, 3) := by decide +kernel
theorem dX4_fits_10 : decode cX4_fits 10 = .ok (.iload_n 1, 1) := by decide +kernel
theorem dX4_fits_11 : decode cX4_fits 11 = .ok (.iload_n 2, 1) := by decide +kernel
theorem dX4_fits_12 : decode cX4_fits 12 = .ok (.ishr, 1) := by decide +kernel
theorem dX4_fits_13 : decode cX4_fits 13 = .ok (.ifCond .ne 5, 3) := by decide +kernel
theorem dX4_fits_16 : decode cX4_fits 16 = .ok (.iconst 1, 1) := by decide +kernel
theorem dX4_fits_17 : decode cX4_fits 17 = .ok (.ireturn, 1) := by decide +kernel
theorem dX4_fits_18 : decode cX4_fits 18 = .ok (.iload_n 1, 1) := by decide +kernel
theorem dX4_fits_19 : decode cX4_fits 19 = .ok (.iload_n 2, 1) := by decide +kernel
theorem dX4_fits_20 : decode cX4_fits 20 = .ok (.ishr, 1) := by decide +kernel
theorem dX4_fits_21 : decode cX4_fits 21 = .ok (.iconst 1, 1) := by decide +kernel
theorem dX4_fits_22 : decode cX4_fits 22 = .ok (.iand, 1) := by decide +kernel
theorem dX4_fits_23 : decode cX4_fits 23 = .ok (.ifCond .ne 12, 3) := by decide +kernel
theorem dX4_fits_26 : decode cX4_fits 26 = .ok (.aload_n 0, 1) := by decide +kernel
theorem dX4_fits_27 : decode cX4_fits 27 = .ok (.iload_n 1, 1) := by decide +kernel
theorem dX4_fits_28 : decode cX4_fits 28 = .ok (.iload_n 2, 1) := by decide +kernel
theorem dX4_fits_29 : decode cX4_fits 29 = .ok (.iconst 1, 1) := by decide +kernel
theorem dX4_fits_30 : decode cX4_fits 30 = .ok (.iadd, 1) := by decide +kernel
theorem dX4_fits_31 : decode cX4_fits 31 = .ok (.invokevirtual 121, 3) := by decide +kernel
theorem dX4_fits_34 : decode cX4_fits 34 = .ok (.ireturn, 1) := by decide +kernel
theorem dX4_fits_35 : decode cX4_fits 35 = .ok (.iconst 0, 1) := by decide +kernel
theorem dX4_fits_36 : decode cX4_fits 36 = .ok (.istore_n 3, 1) := by decide +kernel
theorem dX4_fits_37 : decode cX4_fits 37 = .ok (.iload_n 3, 1) := by decide +kernel
theorem dX4_fits_38 : decode cX4_fits 38 = .ok (.aload_n 0, 1) := by decide +kernel
theorem dX4_fits_39 : decode cX4_fits 39 = .ok (.getfield 31, 3) := by decide +kernel
theorem dX4_fits_42 : decode cX4_fits 42 = .ok (.if_icmp .ge 83, 3) := by decide +kernel
theorem dX4_fits_45 : decode cX4_fits 45 = .ok (.iload_n 3, 1) := by decide +kernel
theorem dX4_fits_46 : decode cX4_fits 46 = .ok (.iconst 3, 1) := by decide +kernel
theorem dX4_fits_47 : decode cX4_fits 47 = .ok (.if_icmp .ge 78, 3) := by decide +kernel
theorem dX4_fits_50 : decode cX4_fits 50 = .ok (.aload_n 0, 1) := by decide +kernel
theorem dX4_fits_51 : decode cX4_fits 51 = .ok (.getfield 18, 3) := by decide +kernel
theorem dX4_fits_54 : decode cX4_fits 54 = .ok (.iload_n 3, 1) := by decide +kernel
theorem dX4_fits_55 : decode cX4_fits 55 = .ok (.iaload, 1) := by decide +kernel
theorem dX4_fits_56 : decode cX4_fits 56 = .ok (.iload_n 2, 1) := by decide +kernel
theorem dX4_fits_57 : decode cX4_fits 57 = .ok (.ishr, 1) := by decide +kernel
theorem dX4_fits_58 : decode cX4_fits 58 = .ok (.iconst 1, 1) := by decide +kernel
theorem dX4_fits_59 : decode cX4_fits 59 = .ok (.iand, 1) := by decide +kernel
theorem dX4_fits_60 : decode cX4_fits 60 = .ok (.iconst 1, 1) := by decide +kernel
theorem dX4_fits_61 : decode cX4_fits 61 = .ok (.if_icmp .ne 58, 3) := by decide +kernel
theorem dX4_fits_64 : decode cX4_fits 64 = .ok (.aload_n 0, 1) := by decide +kernel
theorem dX4_fits_65 : decode cX4_fits 65 = .ok (.getfield 22, 3) := by decide +kernel
theorem dX4_fits_68 : decode cX4_fits 68 = .ok (.iload_n 3, 1) := by decide +kernel
theorem dX4_fits_69 : decode cX4_fits 69 = .ok (.iaload, 1) := by decide +kernel
theorem dX4_fits_70 : decode cX4_fits 70 = .ok (.aload_n 0, 1) := by decide +kernel
theorem dX4_fits_71 : decode cX4_fits 71 = .ok (.getfield 25, 3) := by decide +kernel
theorem dX4_fits_74 : decode cX4_fits 74 = .ok (.iload_n 2, 1) := by decide +kernel
theorem dX4_fits_75 : decode cX4_fits 75 = .ok (.iaload, 1) := by decide +kernel
theorem dX4_fits_76 : decode cX4_fits 76 = .ok (.iand, 1) := by decide +kernel
theorem dX4_fits_77 : decode cX4_fits 77 = .ok (.ifCond .ne 42, 3) := by decide +kernel
theorem dX4_fits_80 : decode cX4_fits 80 = .ok (.aload_n 0, 1) := by decide +kernel
theorem dX4_fits_81 : decode cX4_fits 81 = .ok (.getfield 22, 3) := by decide +kernel
theorem dX4_fits_84 : decode cX4_fits 84 = .ok (.iload_n 3, 1) := by decide +kernel
theorem dX4_fits_85 : decode cX4_fits 85 = .ok (.dup2, 1) := by decide +kernel
theorem dX4_fits_86 : decode cX4_fits 86 = .ok (.iaload, 1) := by decide +kernel
theorem dX4_fits_87 : decode cX4_fits 87 = .ok (.iconst 1, 1) := by decide +kernel
theorem dX4_fits_88 : decode cX4_fits 88 = .ok (.iload_n 2, 1) := by decide +kernel
theorem dX4_fits_89 : decode cX4_fits 89 = .ok (.ishl, 1) := by decide +kernel
theorem dX4_fits_90 : decode cX4_fits 90 = .ok (.ior, 1) := by decide +kernel
theorem dX4_fits_91 : decode cX4_fits 91 = .ok (.iastore, 1) := by decide +kernel
theorem dX4_fits_92 : decode cX4_fits 92 = .ok (.aload_n 0, 1) := by decide +kernel
theorem dX4_fits_93 : decode cX4_fits 93 = .ok (.iload_n 1, 1) := by decide +kernel
theorem dX4_fits_94 : decode cX4_fits 94 = .ok (.iload_n 2, 1) := by decide +kernel
theorem dX4_fits_95 : decode cX4_fits 95 = .ok (.iconst 1, 1) := by decide +kernel
theorem dX4_fits_96 : decode cX4_fits 96 = .ok (.iadd, 1) := by decide +kernel
theorem dX4_fits_97 : decode cX4_fits 97 = .ok (.invokevirtual 121, 3) := by decide +kernel
theorem dX4_fits_100 : decode cX4_fits 100 = .ok (.ifCond .eq 5, 3) := by decide +kernel
theorem dX4_fits_103 : decode cX4_fits 103 = .ok (.iconst 1, 1) := by decide +kernel
theorem dX4_fits_104 : decode cX4_fits 104 = .ok (.ireturn, 1) := by decide +kernel
theorem dX4_fits_105 : decode cX4_fits 105 = .ok (.aload_n 0, 1) := by decide +kernel
theorem dX4_fits_106 : decode cX4_fits 106 = .ok (.getfield 22, 3) := by decide +kernel
theorem dX4_fits_109 : decode cX4_fits 109 = .ok (.iload_n 3, 1) := by decide +kernel
theorem dX4_fits_110 : decode cX4_fits 110 = .ok (.dup2, 1) := by decide +kernel
theorem dX4_fits_111 : decode cX4_fits 111 = .ok (.iaload, 1) := by decide +kernel
theorem dX4_fits_112 : decode cX4_fits 112 = .ok (.iconst 1, 1) := by decide +kernel
theorem dX4_fits_113 : decode cX4_fits 113 = .ok (.iload_n 2, 1) := by decide +kernel
theorem dX4_fits_114 : decode cX4_fits 114 = .ok (.ishl, 1) := by decide +kernel
theorem dX4_fits_115 : decode cX4_fits 115 = .ok (.iconst (-1), 1) := by decide +kernel
theorem dX4_fits_116 : decode cX4_fits 116 = .ok (.ixor, 1) := by decide +kernel
theorem dX4_fits_117 : decode cX4_fits 117 = .ok (.iand, 1) := by decide +kernel
theorem dX4_fits_118 : decode cX4_fits 118 = .ok (.iastore, 1) := by decide +kernel
theorem dX4_fits_119 : decode cX4_fits 119 = .ok (.iinc 3 1, 3) := by decide +kernel
theorem dX4_fits_122 : decode cX4_fits 122 = .ok (.goto (-85), 3) := by decide +kernel
theorem dX4_fits_125 : decode cX4_fits 125 = .ok (.iconst 0, 1) := by decide +kernel
theorem dX4_fits_126 : decode cX4_fits 126 = .ok (.ireturn, 1) := by decide +kernel
theorem dX5_init_0 : decode cX5_init 0 = .ok (.aload_n 0, 1) := by decide +kernel
theorem dX5_init_1 : decode cX5_init 1 = .ok (.invokespecial 1, 3) := by decide +kernel
theorem dX5_init_4 : decode cX5_init 4 = .ok (.aload_n 0, 1) := by decide +kernel
theorem dX5_init_5 : decode cX5_init 5 = .ok (.bipush 32, 2) := by decide +kernel
theorem dX5_init_7 : decode cX5_init 7 = .ok (.newarray .int, 2) := by decide +kernel
theorem dX5_init_9 : decode cX5_init 9 = .ok (.putfield 9, 3) := by decide +kernel
theorem dX5_init_12 : decode cX5_init 12 = .ok (.aload_n 0, 1) := by decide +kernel
theorem dX5_init_13 : decode cX5_init 13 = .ok (.aload_n 1, 1) := by decide +kernel
theorem dX5_init_14 : decode cX5_init 14 = .ok (.putfield 13, 3) := by decide +kernel
theorem dX5_init_17 : decode cX5_init 17 = .ok (.return_, 1) := by decide +kernel
theorem dX5_setVariables_0 : decode cX5_setVariables 0 = .ok (.aload_n 0, 1) := by decide +kernel
theorem dX5_setVariables_1 : decode cX5_setVariables 1 = .ok (.getfield 9, 3) := by decide +kernel
theorem dX5_setVariables_4 : decode cX5_setVariables 4 = .ok (.iconst 0, 1) := by decide +kernel
theorem dX5_setVariables_5 : decode cX5_setVariables 5 = .ok (.iload_n 1, 1) := by decide +kernel
theorem dX5_setVariables_6 : decode cX5_setVariables 6 = .ok (.iastore, 1) := by decide +kernel
theorem dX5_setVariables_7 : decode cX5_setVariables 7 = .ok (.aload_n 0, 1) := by decide +kernel
theorem dX5_setVariables_8 : decode cX5_setVariables 8 = .ok (.getfield 9, 3) := by decide +kernel
theorem dX5_setVariables_11 : decode cX5_setVariables 11 = .ok (.iconst 1, 1) := by decide +kernel
theorem dX5_setVariables_12 : decode cX5_setVariables 12 = .ok (.iload_n 2, 1) := by decide +kernel
theorem dX5_setVariables_13 : decode cX5_setVariables 13 = .ok (.iastore, 1) := by decide +kernel
theorem dX5_setVariables_14 : decode cX5_setVariables 14 = .ok (.aload_n 0, 1) := by decide +kernel
theorem dX5_setVariables_15 : decode cX5_setVariables 15 = .ok (.getfield 9, 3) := by decide +kernel
theorem dX5_setVariables_18 : decode cX5_setVariables 18 = .ok (.iconst 2, 1) := by decide +kernel
theorem dX5_setVariables_19 : decode cX5_setVariables 19 = .ok (.iload_n 3, 1) := by decide +kernel
theorem dX5_setVariables_20 : decode cX5_setVariables 20 = .ok (.iastore, 1) := by decide +kernel
theorem dX5_setVariables_21 : decode cX5_setVariables 21 = .ok (.aload_n 0, 1) := by decide +kernel
theorem dX5_setVariables_22 : decode cX5_setVariables 22 = .ok (.getfield 9, 3) := by decide +kernel
theorem dX5_setVariables_25 : decode cX5_setVariables 25 = .ok (.iconst 3, 1) := by decide +kernel
theorem dX5_setVariables_26 : decode cX5_setVariables 26 = .ok (.iload 4, 2) := by decide +kernel
theorem dX5_setVariables_28 : decode cX5_setVariables 28 = .ok (.iastore, 1) := by decide +kernel
theorem dX5_setVariables_29 : decode cX5_setVariables 29 = .ok (.return_, 1) := by decide +kernel
theorem dX5_setLiking_0 : decode cX5_setLiking 0 = .ok (.aload_n 0, 1) := by decide +kernel
theorem dX5_setLiking_1 : decode cX5_setLiking 1 = .ok (.getfield 9, 3) := by decide +kernel
theorem dX5_setLiking_4 : decode cX5_setLiking 4 = .ok (.iconst 4, 1) := by decide +kernel
theorem dX5_setLiking_5 : decode cX5_setLiking 5 = .ok (.iload_n 1, 1) := by decide +kernel
theorem dX5_setLiking_6 : decode cX5_setLiking 6 = .ok (.iastore, 1) := by decide +kernel
theorem dX5_setLiking_7 : decode cX5_setLiking 7 = .ok (.aload_n 0, 1) := by decide +kernel
theorem dX5_setLiking_8 : decode cX5_setLiking 8 = .ok (.getfield 9, 3) := by decide +kernel
theorem dX5_setLiking_11 : decode cX5_setLiking 11 = .ok (.iconst 5, 1) := by decide +kernel
theorem dX5_setLiking_12 : decode cX5_setLiking 12 = .ok (.iload_n 2, 1) := by decide +kernel
theorem dX5_setLiking_13 : decode cX5_setLiking 13 = .ok (.iastore, 1) := by decide +kernel
theorem dX5_setLiking_14 : decode cX5_setLiking 14 = .ok (.return_, 1) := by decide +kernel
theorem dX5_value_0 : decode cX5_value 0 = .ok (.bipush 6, 2) := by decide +kernel
theorem dX5_value_2 : decode cX5_value 2 = .ok (.istore_n 1, 1) := by decide +kernel
theorem dX5_value_3 : decode cX5_value 3 = .ok (.iconst 0, 1) := by decide +kernel
theorem dX5_value_4 : decode cX5_value 4 = .ok (.istore_n 2, 1) := by decide +kernel
theorem dX5_value_5 : decode cX5_value 5 = .ok (.iload_n 2, 1) := by decide +kernel
theorem dX5_value_6 : decode cX5_value 6 = .ok (.aload_n 0, 1) := by decide +kernel
theorem dX5_value_7 : decode cX5_value 7 = .ok (.getfield 13, 3) := by decide +kernel
theorem dX5_value_10 : decode cX5_value 10 = .ok (.arraylength, 1) := by decide +kernel
theorem dX5_value_11 : decode cX5_value 11 = .ok (.if_icmp .ge 109, 3) := by decide +kernel
theorem dX5_value_14 : decode cX5_value 14 = .ok (.aload_n 0, 1) := by decide +kernel
theorem dX5_value_15 : decode cX5_value 15 = .ok (.getfield 13, 3) := by decide +kernel
theorem dX5_value_18 : decode cX5_value 18 = .ok (.iload_n 2, 1) := by decide +kernel
theorem dX5_value_19 : decode cX5_value 19 = .ok (.iaload, 1) := by decide +kernel
theorem dX5_value_20 : decode cX5_value 20 = .ok (.istore_n 3, 1) := by decide +kernel
theorem dX5_value_21 : decode cX5_value 21 = .ok (.iload_n 3, 1) := by decide +kernel
theorem dX5_value_22 : decode cX5_value 22 = .ok (.sipush 2000, 3) := by decide +kernel
theorem dX5_value_25 : decode cX5_value 25 = .ok (.if_icmp .ge 26, 3) := by decide +kernel
theorem dX5_value_28 : decode cX5_value 28 = .ok (.iload_n 1, 1) := by decide +kernel
theorem dX5_value_29 : decode cX5_value 29 = .ok (.bipush 32, 2) := by decide +kernel
theorem dX5_value_31 : decode cX5_value 31 = .ok (.if_icmp .ge 83, 3) := by decide +kernel
theorem dX5_value_34 : decode cX5_value 34 = .ok (.aload_n 0, 1) := by decide +kernel
theorem dX5_value_35 : decode cX5_value 35 = .ok (.getfield 9, 3) := by decide +kernel
theorem dX5_value_38 : decode cX5_value 38 = .ok (.iload_n 1, 1) := by decide +kernel
theorem dX5_value_39 : decode cX5_value 39 = .ok (.aload_n 0, 1) := by decide +kernel
theorem dX5_value_40 : decode cX5_value 40 = .ok (.iload_n 3, 1) := by decide +kernel
theorem dX5_value_41 : decode cX5_value 41 = .ok (.invokevirtual 16, 3) := by decide +kernel
theorem dX5_value_44 : decode cX5_value 44 = .ok (.iastore, 1) := by decide +kernel
theorem dX5_value_45 : decode cX5_value 45 = .ok (.iinc 1 1, 3) := by decide +kernel
theorem dX5_value_48 : decode cX5_value 48 = .ok (.goto 66, 3) := by decide +kernel
theorem dX5_value_51 : decode cX5_value 51 = .ok (.iload_n 3, 1) := by decide +kernel
theorem dX5_value_52 : decode cX5_value 52 = .ok (.sipush 2008, 3) := by decide +kernel
theorem dX5_value_55 : decode cX5_value 55 = .ok (.if_icmp .ne 24, 3) := by decide +kernel
theorem dX5_value_58 : decode cX5_value 58 = .ok (.aload_n 0, 1) := by decide +kernel
theorem dX5_value_59 : decode cX5_value 59 = .ok (.getfield 9, 3) := by decide +kernel
theorem dX5_value_62 : decode cX5_value 62 = .ok (.iload_n 1, 1) := by decide +kernel
theorem dX5_value_63 : decode cX5_value 63 = .ok (.iconst 1, 1) := by decide +kernel
theorem dX5_value_64 : decode cX5_value 64 = .ok (.isub, 1) := by decide +kernel
theorem dX5_value_65 : decode cX5_value 65 = .ok (.iconst 1, 1) := by decide +kernel
theorem dX5_value_66 : decode cX5_value 66 = .ok (.aload_n 0, 1) := by decide +kernel
theorem dX5_value_67 : decode cX5_value 67 = .ok (.getfield 9, 3) := by decide +kernel
theorem dX5_value_70 : decode cX5_value 70 = .ok (.iload_n 1, 1) := by decide +kernel
theorem dX5_value_71 : decode cX5_value 71 = .ok (.iconst 1, 1) := by decide +kernel
theorem dX5_value_72 : decode cX5_value 72 = .ok (.isub, 1) := by decide +kernel
theorem dX5_value_73 : decode cX5_value 73 = .ok (.iaload, 1) := by decide +kernel
theorem dX5_value_74 : decode cX5_value 74 = .ok (.isub, 1) := by decide +kernel
theorem dX5_value_75 : decode cX5_value 75 = .ok (.iastore, 1) := by decide +kernel
theorem dX5_value_76 : decode cX5_value 76 = .ok (.goto 38, 3) := by decide +kernel
theorem dX5_value_79 : decode cX5_value 79 = .ok (.iload_n 1, 1) := by decide +kernel
theorem dX5_value_80 : decode cX5_value 80 = .ok (.bipush 7, 2) := by decide +kernel
theorem dX5_value_82 : decode cX5_value 82 = .ok (.if_icmp .le 32, 3) := by decide +kernel
theorem dX5_value_85 : decode cX5_value 85 = .ok (.iinc 1 (-1), 3) := by decide +kernel
theorem dX5_value_88 : decode cX5_value 88 = .ok (.aload_n 0, 1) := by decide +kernel
theorem dX5_value_89 : decode cX5_value 89 = .ok (.getfield 9, 3) := by decide +kernel
theorem dX5_value_92 : decode cX5_value 92 = .ok (.iload_n 1, 1) := by decide +kernel
theorem dX5_value_93 : decode cX5_value 93 = .ok (.iconst 1, 1) := by decide +kernel
theorem dX5_value_94 : decode cX5_value 94 = .ok (.isub, 1) := by decide +kernel
theorem dX5_value_95 : decode cX5_value 95 = .ok (.iload_n 3, 1) := by decide +kernel
theorem dX5_value_96 : decode cX5_value 96 = .ok (.aload_n 0, 1) := by decide +kernel
theorem dX5_value_97 : decode cX5_value 97 = .ok (.getfield 9, 3) := by decide +kernel
theorem dX5_value_100 : decode cX5_value 100 = .ok (.iload_n 1, 1) := by decide +kernel
theorem dX5_value_101 : decode cX5_value 101 = .ok (.iconst 1, 1) := by decide +kernel
theorem dX5_value_102 : decode cX5_value 102 = .ok (.isub, 1) := by decide +kernel
theorem dX5_value_103 : decode cX5_value 103 = .ok (.iaload, 1) := by decide +kernel
theorem dX5_value_104 : decode cX5_value 104 = .ok (.aload_n 0, 1) := by decide +kernel
theorem dX5_value_105 : decode cX5_value 105 = .ok (.getfield 9, 3) := by decide +kernel
theorem dX5_value_108 : decode cX5_value 108 = .ok (.iload_n 1, 1) := by decide +kernel
theorem dX5_value_109 : decode cX5_value 109 = .ok (.iaload, 1) := by decide +kernel
theorem dX5_value_110 : decode cX5_value 110 = .ok (.invokestatic 20, 3) := by decide +kernel
theorem dX5_value_113 : decode cX5_value 113 = .ok (.iastore, 1) := by decide +kernel
theorem dX5_value_114 : decode cX5_value 114 = .ok (.iinc 2 1, 3) := by decide +kernel
theorem dX5_value_117 : decode cX5_value 117 = .ok (.goto (-112), 3) := by decide +kernel
theorem dX5_value_120 : decode cX5_value 120 = .ok (.aload_n 0, 1) := by decide +kernel
theorem dX5_value_121 : decode cX5_value 121 = .ok (.getfield 9, 3) := by decide +kernel
theorem dX5_value_124 : decode cX5_value 124 = .ok (.iload_n 1, 1) := by decide +kernel
theorem dX5_value_125 : decode cX5_value 125 = .ok (.iconst 1, 1) := by decide +kernel
theorem dX5_value_126 : decode cX5_value 126 = .ok (.isub, 1) := by decide +kernel
theorem dX5_value_127 : decode cX5_value 127 = .ok (.iaload, 1) := by decide +kernel
theorem dX5_value_128 : decode cX5_value 128 = .ok (.ireturn, 1) := by decide +kernel
theorem dX5_plain_0 : decode cX5_plain 0 = .ok (.iload_n 1, 1) := by decide +kernel
theorem dX5_plain_1 : decode cX5_plain 1 = .ok (.sipush 1000, 3) := by decide +kernel
theorem dX5_plain_4 : decode cX5_plain 4 = .ok (.isub, 1) := by decide +kernel
theorem dX5_plain_5 : decode cX5_plain 5 = .ok (.istore_n 2, 1) := by decide +kernel
theorem dX5_plain_6 : decode cX5_plain 6 = .ok (.iload_n 2, 1) := by decide +kernel
theorem dX5_plain_7 : decode cX5_plain 7 = .ok (.ifCond .lt 18, 3) := by decide +kernel
theorem dX5_plain_10 : decode cX5_plain 10 = .ok (.iload_n 2, 1) := by decide +kernel
theorem dX5_plain_11 : decode cX5_plain 11 = .ok (.bipush 6, 2) := by decide +kernel
theorem dX5_plain_13 : decode cX5_plain 13 = .ok (.if_icmp .ge 12, 3) := by decide +kernel
theorem dX5_plain_16 : decode cX5_plain 16 = .ok (.aload_n 0, 1) := by decide +kernel
theorem dX5_plain_17 : decode cX5_plain 17 = .ok (.getfield 9, 3) := by decide +kernel
theorem dX5_plain_20 : decode cX5_plain 20 = .ok (.iload_n 2, 1) := by decide +kernel
theorem dX5_plain_21 : decode cX5_plain 21 = .ok (.iaload, 1) := by decide +kernel
theorem dX5_plain_22 : decode cX5_plain 22 = .ok (.goto 4, 3) := by decide +kernel
theorem dX5_plain_25 : decode cX5_plain 25 = .ok (.iload_n 1, 1) := by decide +kernel
theorem dX5_plain_26 : decode cX5_plain 26 = .ok (.ireturn, 1) := by decide +kernel
theorem dX5_join_0 : decode cX5_join 0 = .ok (.iload_n 0, 1) := by decide +kernel
theorem dX5_join_1 : decode cX5_join 1 = .ok (.tableswitch 76 2003 2007 #[35, 46, 57, 68, 72], 35) := by decide +kernel
theorem dX5_join_36 : decode cX5_join 36 = .ok (.iload_n 1, 1) := by decide +kernel
theorem dX5_join_37 : decode cX5_join 37 = .ok (.iload_n 2, 1) := by decide +kernel
theorem dX5_join_38 : decode cX5_join 38 = .ok (.if_icmp .ne 7, 3) := by decide +kernel
theorem dX5_join_41 : decode cX5_join 41 = .ok (.iconst 1, 1) := by decide +kernel
theorem dX5_join_42 : decode cX5_join 42 = .ok (.goto 4, 3) := by decide +kernel
theorem dX5_join_45 : decode cX5_join 45 = .ok (.iconst 0, 1) := by decide +kernel
theorem dX5_join_46 : decode cX5_join 46 = .ok (.ireturn, 1) := by decide +kernel
theorem dX5_join_47 : decode cX5_join 47 = .ok (.iload_n 1, 1) := by decide +kernel
theorem dX5_join_48 : decode cX5_join 48 = .ok (.iload_n 2, 1) := by decide +kernel
theorem dX5_join_49 : decode cX5_join 49 = .ok (.if_icmp .ge 7, 3) := by decide +kernel
theorem dX5_join_52 : decode cX5_join 52 = .ok (.iconst 1, 1) := by decide +kernel
theorem dX5_join_53 : decode cX5_join 53 = .ok (.goto 4, 3) := by decide +kernel
theorem dX5_join_56 : decode cX5_join 56 = .ok (.iconst 0, 1) := by decide +kernel
theorem dX5_join_57 : decode cX5_join 57 = .ok (.ireturn, 1) := by decide +kernel
theorem dX5_join_58 : decode cX5_join 58 = .ok (.iload_n 1, 1) := by decide +kernel
theorem dX5_join_59 : decode cX5_join 59 = .ok (.iload_n 2, 1) := by decide +kernel
theorem dX5_join_60 : decode cX5_join 60 = .ok (.if_icmp .le 7, 3) := by decide +kernel
theorem dX5_join_63 : decode cX5_join 63 = .ok (.iconst 1, 1) := by decide +kernel
theorem dX5_join_64 : decode cX5_join 64 = .ok (.goto 4, 3) := by decide +kernel
theorem dX5_join_67 : decode cX5_join 67 = .ok (.iconst 0, 1) := by decide +kernel
theorem dX5_join_68 : decode cX5_join 68 = .ok (.ireturn, 1) := by decide +kernel
theorem dX5_join_69 : decode cX5_join 69 = .ok (.iload_n 1, 1) := by decide +kernel
theorem dX5_join_70 : decode cX5_join 70 = .ok (.iload_n 2, 1) := by decide +kernel
theorem dX5_join_71 : decode cX5_join 71 = .ok (.iand, 1) := by decide +kernel
theorem dX5_join_72 : decode cX5_join 72 = .ok (.ireturn, 1) := by decide +kernel
theorem dX5_join_73 : decode cX5_join 73 = .ok (.iload_n 1, 1) := by decide +kernel
theorem dX5_join_74 : decode cX5_join 74 = .ok (.iload_n 2, 1) := by decide +kernel
theorem dX5_join_75 : decode cX5_join 75 = .ok (.ior, 1) := by decide +kernel
theorem dX5_join_76 : decode cX5_join 76 = .ok (.ireturn, 1) := by decide +kernel
theorem dX5_join_77 : decode cX5_join 77 = .ok (.iload_n 0, 1) := by decide +kernel
theorem dX5_join_78 : decode cX5_join 78 = .ok (.sipush 2000, 3) := by decide +kernel
theorem dX5_join_81 : decode cX5_join 81 = .ok (.if_icmp .ne 11, 3) := by decide +kernel
theorem dX5_join_84 : decode cX5_join 84 = .ok (.iload_n 1, 1) := by decide +kernel
theorem dX5_join_85 : decode cX5_join 85 = .ok (.i2l, 1) := by decide +kernel
theorem dX5_join_86 : decode cX5_join 86 = .ok (.iload_n 2, 1) := by decide +kernel
theorem dX5_join_87 : decode cX5_join 87 = .ok (.i2l, 1) := by decide +kernel
theorem dX5_join_88 : decode cX5_join 88 = .ok (.ladd, 1) := by decide +kernel
theorem dX5_join_89 : decode cX5_join 89 = .ok (.goto 23, 3) := by decide +kernel
theorem dX5_join_92 : decode cX5_join 92 = .ok (.iload_n 0, 1) := by decide +kernel
theorem dX5_join_93 : decode cX5_join 93 = .ok (.sipush 2001, 3) := by decide +kernel
theorem dX5_join_96 : decode cX5_join 96 = .ok (.if_icmp .ne 11, 3) := by decide +kernel
theorem dX5_join_99 : decode cX5_join 99 = .ok (.iload_n 1, 1) := by decide +kernel
theorem dX5_join_100 : decode cX5_join 100 = .ok (.i2l, 1) := by decide +kernel
theorem dX5_join_101 : decode cX5_join 101 = .ok (.iload_n 2, 1) := by decide +kernel
theorem dX5_join_102 : decode cX5_join 102 = .ok (.i2l, 1) := by decide +kernel
theorem dX5_join_103 : decode cX5_join 103 = .ok (.lsub, 1) := by decide +kernel
theorem dX5_join_104 : decode cX5_join 104 = .ok (.goto 8, 3) := by decide +kernel
theorem dX5_join_107 : decode cX5_join 107 = .ok (.iload_n 1, 1) := by decide +kernel
theorem dX5_join_108 : decode cX5_join 108 = .ok (.i2l, 1) := by decide +kernel
theorem dX5_join_109 : decode cX5_join 109 = .ok (.iload_n 2, 1) := by decide +kernel
theorem dX5_join_110 : decode cX5_join 110 = .ok (.i2l, 1) := by decide +kernel
theorem dX5_join_111 : decode cX5_join 111 = .ok (.lmul, 1) := by decide +kernel
theorem dX5_join_112 : decode cX5_join 112 = .ok (.lstore_n 3, 1) := by decide +kernel
theorem dX5_join_113 : decode cX5_join 113 = .ok (.lload_n 3, 1) := by decide +kernel
theorem dX5_join_114 : decode cX5_join 114 = .ok (.ldc2_w 24, 3) := by decide +kernel
theorem dX5_join_117 : decode cX5_join 117 = .ok (.lcmp, 1) := by decide +kernel
theorem dX5_join_118 : decode cX5_join 118 = .ok (.ifCond .le 6, 3) := by decide +kernel
theorem dX5_join_121 : decode cX5_join 121 = .ok (.ldc 26, 2) := by decide +kernel
theorem dX5_join_123 : decode cX5_join 123 = .ok (.ireturn, 1) := by decide +kernel
theorem dX5_join_124 : decode cX5_join 124 = .ok (.lload_n 3, 1) := by decide +kernel
theorem dX5_join_125 : decode cX5_join 125 = .ok (.ldc2_w 27, 3) := by decide +kernel
theorem dX5_join_128 : decode cX5_join 128 = .ok (.lcmp, 1) := by decide +kernel
theorem dX5_join_129 : decode cX5_join 129 = .ok (.ifCond .ge 8, 3) := by decide +kernel
theorem dX5_join_132 : decode cX5_join 132 = .ok (.ldc 29, 2) := by decide +kernel
theorem dX5_join_134 : decode cX5_join 134 = .ok (.goto 5, 3) := by decide +kernel
theorem dX5_join_137 : decode cX5_join 137 = .ok (.lload_n 3, 1) := by decide +kernel
theorem dX5_join_138 : decode cX5_join 138 = .ok (.l2i, 1) := by decide +kernel
theorem dX5_join_139 : decode cX5_join 139 = .ok (.ireturn, 1) := by decide +kernel
theorem dX6_init_0 : decode cX6_init 0 = .ok (.aload_n 0, 1) := by decide +kernel
theorem dX6_init_1 : decode cX6_init 1 = .ok (.invokespecial 3, 3) := by decide +kernel
theorem dX6_init_4 : decode cX6_init 4 = .ok (.aload_n 0, 1) := by decide +kernel
theorem dX6_init_5 : decode cX6_init 5 = .ok (.bipush 8, 2) := by decide +kernel
theorem dX6_init_7 : decode cX6_init 7 = .ok (.newarray .int, 2) := by decide +kernel
theorem dX6_init_9 : decode cX6_init 9 = .ok (.putfield 9, 3) := by decide +kernel
theorem dX6_init_12 : decode cX6_init 12 = .ok (.aload_n 0, 1) := by decide +kernel
theorem dX6_init_13 : decode cX6_init 13 = .ok (.bipush 8, 2) := by decide +kernel
theorem dX6_init_15 : decode cX6_init 15 = .ok (.newarray .int, 2) := by decide +kernel
theorem dX6_init_17 : decode cX6_init 17 = .ok (.putfield 15, 3) := by decide +kernel
theorem dX6_init_20 : decode cX6_init 20 = .ok (.aload_n 0, 1) := by decide +kernel
theorem dX6_init_21 : decode cX6_init 21 = .ok (.bipush 8, 2) := by decide +kernel
theorem dX6_init_23 : decode cX6_init 23 = .ok (.newarray .int, 2) := by decide +kernel
theorem dX6_init_25 : decode cX6_init 25 = .ok (.putfield 18, 3) := by decide +kernel
theorem dX6_init_28 : decode cX6_init 28 = .ok (.aload_n 0, 1) := by decide +kernel
theorem dX6_init_29 : decode cX6_init 29 = .ok (.aconst_null, 1) := by decide +kernel
theorem dX6_init_30 : decode cX6_init 30 = .ok (.putfield 21, 3) := by decide +kernel
theorem dX6_init_33 : decode cX6_init 33 = .ok (.aload_n 0, 1) := by decide +kernel
theorem dX6_init_34 : decode cX6_init 34 = .ok (.iconst 0, 1) := by decide +kernel
theorem dX6_init_35 : decode cX6_init 35 = .ok (.putfield 25, 3) := by decide +kernel
theorem dX6_init_38 : decode cX6_init 38 = .ok (.aload_n 0, 1) := by decide +kernel
theorem dX6_init_39 : decode cX6_init 39 = .ok (.iconst 0, 1) := by decide +kernel
theorem dX6_init_40 : decode cX6_init 40 = .ok (.putfield 29, 3) := by decide +kernel
theorem dX6_init_43 : decode cX6_init 43 = .ok (.aload_n 0, 1) := by decide +kernel
theorem dX6_init_44 : decode cX6_init 44 = .ok (.iconst 0, 1) := by decide +kernel
theorem dX6_init_45 : decode cX6_init 45 = .ok (.putfield 33, 3) := by decide +kernel
theorem dX6_init_48 : decode cX6_init 48 = .ok (.aload_n 0, 1) := by decide +kernel
theorem dX6_init_49 : decode cX6_init 49 = .ok (.iconst 0, 1) := by decide +kernel
theorem dX6_init_50 : decode cX6_init 50 = .ok (.putfield 36, 3) := by decide +kernel
theorem dX6_init_53 : decode cX6_init 53 = .ok (.return_, 1) := by decide +kernel
theorem dX6_steadyWays_0 : decode cX6_steadyWays 0 = .ok (.aload_n 0, 1) := by decide +kernel
theorem dX6_steadyWays_1 : decode cX6_steadyWays 1 = .ok (.getfield 29, 3) := by decide +kernel
theorem dX6_steadyWays_4 : decode cX6_steadyWays 4 = .ok (.ireturn, 1) := by decide +kernel
theorem dX6_steadyPartner_0 : decode cX6_steadyPartner 0 = .ok (.iload_n 1, 1) := by decide +kernel
theorem dX6_steadyPartner_1 : decode cX6_steadyPartner 1 = .ok (.ifCond .lt 18, 3) := by decide +kernel
theorem dX6_steadyPartner_4 : decode cX6_steadyPartner 4 = .ok (.iload_n 1, 1) := by decide +kernel
theorem dX6_steadyPartner_5 : decode cX6_steadyPartner 5 = .ok (.bipush 8, 2) := by decide +kernel
theorem dX6_steadyPartner_7 : decode cX6_steadyPartner 7 = .ok (.if_icmp .ge 12, 3) := by decide +kernel
theorem dX6_steadyPartner_10 : decode cX6_steadyPartner 10 = .ok (.aload_n 0, 1) := by decide +kernel
theorem dX6_steadyPartner_11 : decode cX6_steadyPartner 11 = .ok (.getfield 15, 3) := by decide +kernel
theorem dX6_steadyPartner_14 : decode cX6_steadyPartner 14 = .ok (.iload_n 1, 1) := by decide +kernel
theorem dX6_steadyPartner_15 : decode cX6_steadyPartner 15 = .ok (.iaload, 1) := by decide +kernel
theorem dX6_steadyPartner_16 : decode cX6_steadyPartner 16 = .ok (.goto 4, 3) := by decide +kernel
theorem dX6_steadyPartner_19 : decode cX6_steadyPartner 19 = .ok (.iconst (-1), 1) := by decide +kernel
theorem dX6_steadyPartner_20 : decode cX6_steadyPartner 20 = .ok (.ireturn, 1) := by decide +kernel
theorem dX6_happySum_0 : decode cX6_happySum 0 = .ok (.aload_n 0, 1) := by decide +kernel
theorem dX6_happySum_1 : decode cX6_happySum 1 = .ok (.getfield 36, 3) := by decide +kernel
theorem dX6_happySum_4 : decode cX6_happySum 4 = .ok (.ireturn, 1) := by decide +kernel
theorem dX6_happyPartner_0 : decode cX6_happyPartner 0 = .ok (.iload_n 1, 1) := by decide +kernel
theorem dX6_happyPartner_1 : decode cX6_happyPartner 1 = .ok (.ifCond .lt 18, 3) := by decide +kernel
theorem dX6_happyPartner_4 : decode cX6_happyPartner 4 = .ok (.iload_n 1, 1) := by decide +kernel
theorem dX6_happyPartner_5 : decode cX6_happyPartner 5 = .ok (.bipush 8, 2) := by decide +kernel
theorem dX6_happyPartner_7 : decode cX6_happyPartner 7 = .ok (.if_icmp .ge 12, 3) := by decide +kernel
theorem dX6_happyPartner_10 : decode cX6_happyPartner 10 = .ok (.aload_n 0, 1) := by decide +kernel
theorem dX6_happyPartner_11 : decode cX6_happyPartner 11 = .ok (.getfield 18, 3) := by decide +kernel
theorem dX6_happyPartner_14 : decode cX6_happyPartner 14 = .ok (.iload_n 1, 1) := by decide +kernel
theorem dX6_happyPartner_15 : decode cX6_happyPartner 15 = .ok (.iaload, 1) := by decide +kernel
theorem dX6_happyPartner_16 : decode cX6_happyPartner 16 = .ok (.goto 4, 3) := by decide +kernel
theorem dX6_happyPartner_19 : decode cX6_happyPartner 19 = .ok (.iconst (-1), 1) := by decide +kernel
theorem dX6_happyPartner_20 : decode cX6_happyPartner 20 = .ok (.ireturn, 1) := by decide +kernel
theorem dX6_survey_0 : decode cX6_survey 0 = .ok (.aload_n 0, 1) := by decide +kernel
theorem dX6_survey_1 : decode cX6_survey 1 = .ok (.getfield 21, 3) := by decide +kernel
theorem dX6_survey_4 : decode cX6_survey 4 = .ok (.aload_n 1, 1) := by decide +kernel
theorem dX6_survey_5 : decode cX6_survey 5 = .ok (.if_acmp .ne 4, 3) := by decide +kernel
theorem dX6_survey_8 : decode cX6_survey 8 = .ok (.return_, 1) := by decide +kernel
theorem dX6_survey_9 : decode cX6_survey 9 = .ok (.aload_n 0, 1) := by decide +kernel
theorem dX6_survey_10 : decode cX6_survey 10 = .ok (.aload_n 1, 1) := by decide +kernel
theorem dX6_survey_11 : decode cX6_survey 11 = .ok (.putfield 21, 3) := by decide +kernel
theorem dX6_survey_14 : decode cX6_survey 14 = .ok (.aload_n 0, 1) := by decide +kernel
theorem dX6_survey_15 : decode cX6_survey 15 = .ok (.getfield 9, 3) := by decide +kernel
theorem dX6_survey_18 : decode cX6_survey 18 = .ok (.bipush (-2), 2) := by decide +kernel
theorem dX6_survey_20 : decode cX6_survey 20 = .ok (.invokestatic 39, 3) := by decide +kernel
theorem dX6_survey_23 : decode cX6_survey 23 = .ok (.aload_n 0, 1) := by decide +kernel
theorem dX6_survey_24 : decode cX6_survey 24 = .ok (.getfield 15, 3) := by decide +kernel
theorem dX6_survey_27 : decode cX6_survey 27 = .ok (.iconst (-1), 1) := by decide +kernel
theorem dX6_survey_28 : decode cX6_survey 28 = .ok (.invokestatic 39, 3) := by decide +kernel
theorem dX6_survey_31 : decode cX6_survey 31 = .ok (.aload_n 0, 1) := by decide +kernel
theorem dX6_survey_32 : decode cX6_survey 32 = .ok (.getfield 18, 3) := by decide +kernel
theorem dX6_survey_35 : decode cX6_survey 35 = .ok (.iconst (-1), 1) := by decide +kernel
theorem dX6_survey_36 : decode cX6_survey 36 = .ok (.invokestatic 39, 3) := by decide +kernel
theorem dX6_survey_39 : decode cX6_survey 39 = .ok (.aload_n 0, 1) := by decide +kernel
theorem dX6_survey_40 : decode cX6_survey 40 = .ok (.iconst 0, 1) := by decide +kernel
theorem dX6_survey_41 : decode cX6_survey 41 = .ok (.putfield 25, 3) := by decide +kernel
theorem dX6_survey_44 : decode cX6_survey 44 = .ok (.aload_n 0, 1) := by decide +kernel
theorem dX6_survey_45 : decode cX6_survey 45 = .ok (.iconst 0, 1) := by decide +kernel
theorem dX6_survey_46 : decode cX6_survey 46 = .ok (.putfield 29, 3) := by decide +kernel
theorem dX6_survey_49 : decode cX6_survey 49 = .ok (.aload_n 0, 1) := by decide +kernel
theorem dX6_survey_50 : decode cX6_survey 50 = .ok (.iconst 0, 1) := by decide +kernel
theorem dX6_survey_51 : decode cX6_survey 51 = .ok (.putfield 33, 3) := by decide +kernel
theorem dX6_survey_54 : decode cX6_survey 54 = .ok (.aload_n 0, 1) := by decide +kernel
theorem dX6_survey_55 : decode cX6_survey 55 = .ok (.iconst 0, 1) := by decide +kernel
theorem dX6_survey_56 : decode cX6_survey 56 = .ok (.putfield 36, 3) := by decide +kernel
theorem dX6_survey_59 : decode cX6_survey 59 = .ok (.aload_n 0, 1) := by decide +kernel
theorem dX6_survey_60 : decode cX6_survey 60 = .ok (.aload_n 1, 1) := by decide +kernel
theorem dX6_survey_61 : decode cX6_survey 61 = .ok (.iconst 0, 1) := by decide +kernel
theorem dX6_survey_62 : decode cX6_survey 62 = .ok (.invokevirtual 45, 3) := by decide +kernel
theorem dX6_survey_65 : decode cX6_survey 65 = .ok (.return_, 1) := by decide +kernel
theorem dX6_pairFrom_0 : decode cX6_pairFrom 0 = .ok (.iload_n 2, 1) := by decide +kernel
theorem dX6_pairFrom_1 : decode cX6_pairFrom 1 = .ok (.ifCond .lt 17, 3) := by decide +kernel
theorem dX6_pairFrom_4 : decode cX6_pairFrom 4 = .ok (.iload_n 2, 1) := by decide +kernel
theorem dX6_pairFrom_5 : decode cX6_pairFrom 5 = .ok (.aload_n 1, 1) := by decide +kernel
theorem dX6_pairFrom_6 : decode cX6_pairFrom 6 = .ok (.getfield 49, 3) := by decide +kernel
theorem dX6_pairFrom_9 : decode cX6_pairFrom 9 = .ok (.if_icmp .ge 9, 3) := by decide +kernel
theorem dX6_pairFrom_12 : decode cX6_pairFrom 12 = .ok (.iload_n 2, 1) := by decide +kernel
theorem dX6_pairFrom_13 : decode cX6_pairFrom 13 = .ok (.bipush 8, 2) := by decide +kernel
theorem dX6_pairFrom_15 : decode cX6_pairFrom 15 = .ok (.if_icmp .lt 9, 3) := by decide +kernel
theorem dX6_pairFrom_18 : decode cX6_pairFrom 18 = .ok (.aload_n 0, 1) := by decide +kernel
theorem dX6_pairFrom_19 : decode cX6_pairFrom 19 = .ok (.aload_n 1, 1) := by decide +kernel
theorem dX6_pairFrom_20 : decode cX6_pairFrom 20 = .ok (.invokevirtual 54, 3) := by decide +kernel
theorem dX6_pairFrom_23 : decode cX6_pairFrom 23 = .ok (.return_, 1) := by decide +kernel
theorem dX6_pairFrom_24 : decode cX6_pairFrom 24 = .ok (.aload_n 0, 1) := by decide +kernel
theorem dX6_pairFrom_25 : decode cX6_pairFrom 25 = .ok (.getfield 9, 3) := by decide +kernel
theorem dX6_pairFrom_28 : decode cX6_pairFrom 28 = .ok (.iload_n 2, 1) := by decide +kernel
theorem dX6_pairFrom_29 : decode cX6_pairFrom 29 = .ok (.iaload, 1) := by decide +kernel
theorem dX6_pairFrom_30 : decode cX6_pairFrom 30 = .ok (.bipush (-2), 2) := by decide +kernel
theorem dX6_pairFrom_32 : decode cX6_pairFrom 32 = .ok (.if_icmp .eq 12, 3) := by decide +kernel
theorem dX6_pairFrom_35 : decode cX6_pairFrom 35 = .ok (.aload_n 0, 1) := by decide +kernel
theorem dX6_pairFrom_36 : decode cX6_pairFrom 36 = .ok (.aload_n 1, 1) := by decide +kernel
theorem dX6_pairFrom_37 : decode cX6_pairFrom 37 = .ok (.iload_n 2, 1) := by decide +kernel
theorem dX6_pairFrom_38 : decode cX6_pairFrom 38 = .ok (.iconst 1, 1) := by decide +kernel
theorem dX6_pairFrom_39 : decode cX6_pairFrom 39 = .ok (.iadd, 1) := by decide +kernel
theorem dX6_pairFrom_40 : decode cX6_pairFrom 40 = .ok (.invokevirtual 45, 3) := by decide +kernel
theorem dX6_pairFrom_43 : decode cX6_pairFrom 43 = .ok (.return_, 1) := by decide +kernel
theorem dX6_pairFrom_44 : decode cX6_pairFrom 44 = .ok (.iload_n 2, 1) := by decide +kernel
theorem dX6_pairFrom_45 : decode cX6_pairFrom 45 = .ok (.iconst 1, 1) := by decide +kernel
theorem dX6_pairFrom_46 : decode cX6_pairFrom 46 = .ok (.iadd, 1) := by decide +kernel
theorem dX6_pairFrom_47 : decode cX6_pairFrom 47 = .ok (.istore_n 3, 1) := by decide +kernel
theorem dX6_pairFrom_48 : decode cX6_pairFrom 48 = .ok (.iload_n 3, 1) := by decide +kernel
theorem dX6_pairFrom_49 : decode cX6_pairFrom 49 = .ok (.aload_n 1, 1) := by decide +kernel
theorem dX6_pairFrom_50 : decode cX6_pairFrom 50 = .ok (.getfield 49, 3) := by decide +kernel
theorem dX6_pairFrom_53 : decode cX6_pairFrom 53 = .ok (.if_icmp .ge 56, 3) := by decide +kernel
theorem dX6_pairFrom_56 : decode cX6_pairFrom 56 = .ok (.iload_n 3, 1) := by decide +kernel
theorem dX6_pairFrom_57 : decode cX6_pairFrom 57 = .ok (.bipush 8, 2) := by decide +kernel
theorem dX6_pairFrom_59 : decode cX6_pairFrom 59 = .ok (.if_icmp .ge 50, 3) := by decide +kernel
theorem dX6_pairFrom_62 : decode cX6_pairFrom 62 = .ok (.aload_n 0, 1) := by decide +kernel
theorem dX6_pairFrom_63 : decode cX6_pairFrom 63 = .ok (.getfield 9, 3) := by decide +kernel
theorem dX6_pairFrom_66 : decode cX6_pairFrom 66 = .ok (.iload_n 3, 1) := by decide +kernel
theorem dX6_pairFrom_67 : decode cX6_pairFrom 67 = .ok (.iaload, 1) := by decide +kernel
theorem dX6_pairFrom_68 : decode cX6_pairFrom 68 = .ok (.bipush (-2), 2) := by decide +kernel
theorem dX6_pairFrom_70 : decode cX6_pairFrom 70 = .ok (.if_icmp .ne 33, 3) := by decide +kernel
theorem dX6_pairFrom_73 : decode cX6_pairFrom 73 = .ok (.aload_n 0, 1) := by decide +kernel
theorem dX6_pairFrom_74 : decode cX6_pairFrom 74 = .ok (.getfield 9, 3) := by decide +kernel
theorem dX6_pairFrom_77 : decode cX6_pairFrom 77 = .ok (.iload_n 2, 1) := by decide +kernel
theorem dX6_pairFrom_78 : decode cX6_pairFrom 78 = .ok (.iload_n 3, 1) := by decide +kernel
theorem dX6_pairFrom_79 : decode cX6_pairFrom 79 = .ok (.iastore, 1) := by decide +kernel
theorem dX6_pairFrom_80 : decode cX6_pairFrom 80 = .ok (.aload_n 0, 1) := by decide +kernel
theorem dX6_pairFrom_81 : decode cX6_pairFrom 81 = .ok (.getfield 9, 3) := by decide +kernel
theorem dX6_pairFrom_84 : decode cX6_pairFrom 84 = .ok (.iload_n 3, 1) := by decide +kernel
theorem dX6_pairFrom_85 : decode cX6_pairFrom 85 = .ok (.iload_n 2, 1) := by decide +kernel
theorem dX6_pairFrom_86 : decode cX6_pairFrom 86 = .ok (.iastore, 1) := by decide +kernel
theorem dX6_pairFrom_87 : decode cX6_pairFrom 87 = .ok (.aload_n 0, 1) := by decide +kernel
theorem dX6_pairFrom_88 : decode cX6_pairFrom 88 = .ok (.aload_n 1, 1) := by decide +kernel
theorem dX6_pairFrom_89 : decode cX6_pairFrom 89 = .ok (.iload_n 2, 1) := by decide +kernel
theorem dX6_pairFrom_90 : decode cX6_pairFrom 90 = .ok (.iconst 1, 1) := by decide +kernel
theorem dX6_pairFrom_91 : decode cX6_pairFrom 91 = .ok (.iadd, 1) := by decide +kernel
theorem dX6_pairFrom_92 : decode cX6_pairFrom 92 = .ok (.invokevirtual 45, 3) := by decide +kernel
theorem dX6_pairFrom_95 : decode cX6_pairFrom 95 = .ok (.aload_n 0, 1) := by decide +kernel
theorem dX6_pairFrom_96 : decode cX6_pairFrom 96 = .ok (.getfield 9, 3) := by decide +kernel
theorem dX6_pairFrom_99 : decode cX6_pairFrom 99 = .ok (.iload_n 3, 1) := by decide +kernel
theorem dX6_pairFrom_100 : decode cX6_pairFrom 100 = .ok (.bipush (-2), 2) := by decide +kernel
theorem dX6_pairFrom_102 : decode cX6_pairFrom 102 = .ok (.iastore, 1) := by decide +kernel
theorem dX6_pairFrom_103 : decode cX6_pairFrom 103 = .ok (.iinc 3 1, 3) := by decide +kernel
theorem dX6_pairFrom_106 : decode cX6_pairFrom 106 = .ok (.goto (-58), 3) := by decide +kernel
theorem dX6_pairFrom_109 : decode cX6_pairFrom 109 = .ok (.aload_n 1, 1) := by decide +kernel
theorem dX6_pairFrom_110 : decode cX6_pairFrom 110 = .ok (.getfield 49, 3) := by decide +kernel
theorem dX6_pairFrom_113 : decode cX6_pairFrom 113 = .ok (.iconst 2, 1) := by decide +kernel
theorem dX6_pairFrom_114 : decode cX6_pairFrom 114 = .ok (.irem, 1) := by decide +kernel
theorem dX6_pairFrom_115 : decode cX6_pairFrom 115 = .ok (.iconst 1, 1) := by decide +kernel
theorem dX6_pairFrom_116 : decode cX6_pairFrom 116 = .ok (.if_icmp .ne 35, 3) := by decide +kernel
theorem dX6_pairFrom_119 : decode cX6_pairFrom 119 = .ok (.aload_n 0, 1) := by decide +kernel
theorem dX6_pairFrom_120 : decode cX6_pairFrom 120 = .ok (.getfield 25, 3) := by decide +kernel
theorem dX6_pairFrom_123 : decode cX6_pairFrom 123 = .ok (.ifCond .ne 28, 3) := by decide +kernel
theorem dX6_pairFrom_126 : decode cX6_pairFrom 126 = .ok (.aload_n 0, 1) := by decide +kernel
theorem dX6_pairFrom_127 : decode cX6_pairFrom 127 = .ok (.iconst 1, 1) := by decide +kernel
theorem dX6_pairFrom_128 : decode cX6_pairFrom 128 = .ok (.putfield 25, 3) := by decide +kernel
theorem dX6_pairFrom_131 : decode cX6_pairFrom 131 = .ok (.aload_n 0, 1) := by decide +kernel
theorem dX6_pairFrom_132 : decode cX6_pairFrom 132 = .ok (.getfield 9, 3) := by decide +kernel
theorem dX6_pairFrom_135 : decode cX6_pairFrom 135 = .ok (.iload_n 2, 1) := by decide +kernel
theorem dX6_pairFrom_136 : decode cX6_pairFrom 136 = .ok (.iconst (-1), 1) := by decide +kernel
theorem dX6_pairFrom_137 : decode cX6_pairFrom 137 = .ok (.iastore, 1) := by decide +kernel
theorem dX6_pairFrom_138 : decode cX6_pairFrom 138 = .ok (.aload_n 0, 1) := by decide +kernel
theorem dX6_pairFrom_139 : decode cX6_pairFrom 139 = .ok (.aload_n 1, 1) := by decide +kernel
theorem dX6_pairFrom_140 : decode cX6_pairFrom 140 = .ok (.iload_n 2, 1) := by decide +kernel
theorem dX6_pairFrom_141 : decode cX6_pairFrom 141 = .ok (.iconst 1, 1) := by decide +kernel
theorem dX6_pairFrom_142 : decode cX6_pairFrom 142 = .ok (.iadd, 1) := by decide +kernel
theorem dX6_pairFrom_143 : decode cX6_pairFrom 143 = .ok (.invokevirtual 45, 3) := by decide +kernel
theorem dX6_pairFrom_146 : decode cX6_pairFrom 146 = .ok (.aload_n 0, 1) := by decide +kernel
theorem dX6_pairFrom_147 : decode cX6_pairFrom 147 = .ok (.iconst 0, 1) := by decide +kernel
theorem dX6_pairFrom_148 : decode cX6_pairFrom 148 = .ok (.putfield 25, 3) := by decide +kernel
theorem dX6_pairFrom_151 : decode cX6_pairFrom 151 = .ok (.aload_n 0, 1) := by decide +kernel
theorem dX6_pairFrom_152 : decode cX6_pairFrom 152 = .ok (.getfield 9, 3) := by decide +kernel
theorem dX6_pairFrom_155 : decode cX6_pairFrom 155 = .ok (.iload_n 2, 1) := by decide +kernel
theorem dX6_pairFrom_156 : decode cX6_pairFrom 156 = .ok (.bipush (-2), 2) := by decide +kernel
theorem dX6_pairFrom_158 : decode cX6_pairFrom 158 = .ok (.iastore, 1) := by decide +kernel
theorem dX6_pairFrom_159 : decode cX6_pairFrom 159 = .ok (.return_, 1) := by decide +kernel
theorem dX6_weigh_0 : decode cX6_weigh 0 = .ok (.aload_n 1, 1) := by decide +kernel
theorem dX6_weigh_1 : decode cX6_weigh 1 = .ok (.aload_n 0, 1) := by decide +kernel
theorem dX6_weigh_2 : decode cX6_weigh 2 = .ok (.getfield 9, 3) := by decide +kernel
theorem dX6_weigh_5 : decode cX6_weigh 5 = .ok (.invokestatic 58, 3) := by decide +kernel
theorem dX6_weigh_8 : decode cX6_weigh 8 = .ok (.iconst (-1), 1) := by decide +kernel
theorem dX6_weigh_9 : decode cX6_weigh 9 = .ok (.if_icmp .ne 37, 3) := by decide +kernel
theorem dX6_weigh_12 : decode cX6_weigh 12 = .ok (.aload_n 0, 1) := by decide +kernel
theorem dX6_weigh_13 : decode cX6_weigh 13 = .ok (.getfield 29, 3) := by decide +kernel
theorem dX6_weigh_16 : decode cX6_weigh 16 = .ok (.ifCond .ne 20, 3) := by decide +kernel
theorem dX6_weigh_19 : decode cX6_weigh 19 = .ok (.aload_n 0, 1) := by decide +kernel
theorem dX6_weigh_20 : decode cX6_weigh 20 = .ok (.getfield 9, 3) := by decide +kernel
theorem dX6_weigh_23 : decode cX6_weigh 23 = .ok (.iconst 0, 1) := by decide +kernel
theorem dX6_weigh_24 : decode cX6_weigh 24 = .ok (.aload_n 0, 1) := by decide +kernel
theorem dX6_weigh_25 : decode cX6_weigh 25 = .ok (.getfield 15, 3) := by decide +kernel
theorem dX6_weigh_28 : decode cX6_weigh 28 = .ok (.iconst 0, 1) := by decide +kernel
theorem dX6_weigh_29 : decode cX6_weigh 29 = .ok (.aload_n 1, 1) := by decide +kernel
theorem dX6_weigh_30 : decode cX6_weigh 30 = .ok (.getfield 49, 3) := by decide +kernel
theorem dX6_weigh_33 : decode cX6_weigh 33 = .ok (.invokestatic 62, 3) := by decide +kernel
theorem dX6_weigh_36 : decode cX6_weigh 36 = .ok (.aload_n 0, 1) := by decide +kernel
theorem dX6_weigh_37 : decode cX6_weigh 37 = .ok (.dup, 1) := by decide +kernel
theorem dX6_weigh_38 : decode cX6_weigh 38 = .ok (.getfield 29, 3) := by decide +kernel
theorem dX6_weigh_41 : decode cX6_weigh 41 = .ok (.iconst 1, 1) := by decide +kernel
theorem dX6_weigh_42 : decode cX6_weigh 42 = .ok (.iadd, 1) := by decide +kernel
theorem dX6_weigh_43 : decode cX6_weigh 43 = .ok (.putfield 29, 3) := by decide +kernel
theorem dX6_weigh_46 : decode cX6_weigh 46 = .ok (.iconst 0, 1) := by decide +kernel
theorem dX6_weigh_47 : decode cX6_weigh 47 = .ok (.istore_n 2, 1) := by decide +kernel
theorem dX6_weigh_48 : decode cX6_weigh 48 = .ok (.iconst 0, 1) := by decide +kernel
theorem dX6_weigh_49 : decode cX6_weigh 49 = .ok (.istore_n 3, 1) := by decide +kernel
theorem dX6_weigh_50 : decode cX6_weigh 50 = .ok (.iload_n 3, 1) := by decide +kernel
theorem dX6_weigh_51 : decode cX6_weigh 51 = .ok (.aload_n 1, 1) := by decide +kernel
theorem dX6_weigh_52 : decode cX6_weigh 52 = .ok (.getfield 49, 3) := by decide +kernel
theorem dX6_weigh_55 : decode cX6_weigh 55 = .ok (.if_icmp .ge 27, 3) := by decide +kernel
theorem dX6_weigh_58 : decode cX6_weigh 58 = .ok (.iload_n 3, 1) := by decide +kernel
theorem dX6_weigh_59 : decode cX6_weigh 59 = .ok (.bipush 8, 2) := by decide +kernel
theorem dX6_weigh_61 : decode cX6_weigh 61 = .ok (.if_icmp .ge 21, 3) := by decide +kernel
theorem dX6_weigh_64 : decode cX6_weigh 64 = .ok (.iload_n 2, 1) := by decide +kernel
theorem dX6_weigh_65 : decode cX6_weigh 65 = .ok (.aload_n 1, 1) := by decide +kernel
theorem dX6_weigh_66 : decode cX6_weigh 66 = .ok (.aload_n 0, 1) := by decide +kernel
theorem dX6_weigh_67 : decode cX6_weigh 67 = .ok (.getfield 9, 3) := by decide +kernel
theorem dX6_weigh_70 : decode cX6_weigh 70 = .ok (.iload_n 3, 1) := by decide +kernel
theorem dX6_weigh_71 : decode cX6_weigh 71 = .ok (.invokestatic 68, 3) := by decide +kernel
theorem dX6_weigh_74 : decode cX6_weigh 74 = .ok (.iadd, 1) := by decide +kernel
theorem dX6_weigh_75 : decode cX6_weigh 75 = .ok (.istore_n 2, 1) := by decide +kernel
theorem dX6_weigh_76 : decode cX6_weigh 76 = .ok (.iinc 3 1, 3) := by decide +kernel
theorem dX6_weigh_79 : decode cX6_weigh 79 = .ok (.goto (-29), 3) := by decide +kernel
theorem dX6_weigh_82 : decode cX6_weigh 82 = .ok (.aload_n 0, 1) := by decide +kernel
theorem dX6_weigh_83 : decode cX6_weigh 83 = .ok (.getfield 33, 3) := by decide +kernel
theorem dX6_weigh_86 : decode cX6_weigh 86 = .ok (.ifCond .eq 11, 3) := by decide +kernel
theorem dX6_weigh_89 : decode cX6_weigh 89 = .ok (.iload_n 2, 1) := by decide +kernel
theorem dX6_weigh_90 : decode cX6_weigh 90 = .ok (.aload_n 0, 1) := by decide +kernel
theorem dX6_weigh_91 : decode cX6_weigh 91 = .ok (.getfield 36, 3) := by decide +kernel
theorem dX6_weigh_94 : decode cX6_weigh 94 = .ok (.if_icmp .le 30, 3) := by decide +kernel
theorem dX6_weigh_97 : decode cX6_weigh 97 = .ok (.aload_n 0, 1) := by decide +kernel
theorem dX6_weigh_98 : decode cX6_weigh 98 = .ok (.iconst 1, 1) := by decide +kernel
theorem dX6_weigh_99 : decode cX6_weigh 99 = .ok (.putfield 33, 3) := by decide +kernel
theorem dX6_weigh_102 : decode cX6_weigh 102 = .ok (.aload_n 0, 1) := by decide +kernel
theorem dX6_weigh_103 : decode cX6_weigh 103 = .ok (.iload_n 2, 1) := by decide +kernel
theorem dX6_weigh_104 : decode cX6_weigh 104 = .ok (.putfield 36, 3) := by decide +kernel
theorem dX6_weigh_107 : decode cX6_weigh 107 = .ok (.aload_n 0, 1) := by decide +kernel
theorem dX6_weigh_108 : decode cX6_weigh 108 = .ok (.getfield 9, 3) := by decide +kernel
theorem dX6_weigh_111 : decode cX6_weigh 111 = .ok (.iconst 0, 1) := by decide +kernel
theorem dX6_weigh_112 : decode cX6_weigh 112 = .ok (.aload_n 0, 1) := by decide +kernel
theorem dX6_weigh_113 : decode cX6_weigh 113 = .ok (.getfield 18, 3) := by decide +kernel
theorem dX6_weigh_116 : decode cX6_weigh 116 = .ok (.iconst 0, 1) := by decide +kernel
theorem dX6_weigh_117 : decode cX6_weigh 117 = .ok (.aload_n 1, 1) := by decide +kernel
theorem dX6_weigh_118 : decode cX6_weigh 118 = .ok (.getfield 49, 3) := by decide +kernel
theorem dX6_weigh_121 : decode cX6_weigh 121 = .ok (.invokestatic 62, 3) := by decide +kernel
theorem dX6_weigh_124 : decode cX6_weigh 124 = .ok (.return_, 1) := by decide +kernel
theorem dX6_firstToPart_0 : decode cX6_firstToPart 0 = .ok (.iconst 0, 1) := by decide +kernel
theorem dX6_firstToPart_1 : decode cX6_firstToPart 1 = .ok (.istore_n 2, 1) := by decide +kernel
theorem dX6_firstToPart_2 : decode cX6_firstToPart 2 = .ok (.iload_n 2, 1) := by decide +kernel
theorem dX6_firstToPart_3 : decode cX6_firstToPart 3 = .ok (.aload_n 0, 1) := by decide +kernel
theorem dX6_firstToPart_4 : decode cX6_firstToPart 4 = .ok (.getfield 49, 3) := by decide +kernel
theorem dX6_firstToPart_7 : decode cX6_firstToPart 7 = .ok (.if_icmp .ge 83, 3) := by decide +kernel
theorem dX6_firstToPart_10 : decode cX6_firstToPart 10 = .ok (.iload_n 2, 1) := by decide +kernel
theorem dX6_firstToPart_11 : decode cX6_firstToPart 11 = .ok (.aload_n 1, 1) := by decide +kernel
theorem dX6_firstToPart_12 : decode cX6_firstToPart 12 = .ok (.arraylength, 1) := by decide +kernel
theorem dX6_firstToPart_13 : decode cX6_firstToPart 13 = .ok (.if_icmp .ge 77, 3) := by decide +kernel
theorem dX6_firstToPart_16 : decode cX6_firstToPart 16 = .ok (.iload_n 2, 1) := by decide +kernel
theorem dX6_firstToPart_17 : decode cX6_firstToPart 17 = .ok (.iconst 1, 1) := by decide +kernel
theorem dX6_firstToPart_18 : decode cX6_firstToPart 18 = .ok (.iadd, 1) := by decide +kernel
theorem dX6_firstToPart_19 : decode cX6_firstToPart 19 = .ok (.istore_n 3, 1) := by decide +kernel
theorem dX6_firstToPart_20 : decode cX6_firstToPart 20 = .ok (.iload_n 3, 1) := by decide +kernel
theorem dX6_firstToPart_21 : decode cX6_firstToPart 21 = .ok (.aload_n 0, 1) := by decide +kernel
theorem dX6_firstToPart_22 : decode cX6_firstToPart 22 = .ok (.getfield 49, 3) := by decide +kernel
theorem dX6_firstToPart_25 : decode cX6_firstToPart 25 = .ok (.if_icmp .ge 59, 3) := by decide +kernel
theorem dX6_firstToPart_28 : decode cX6_firstToPart 28 = .ok (.iload_n 3, 1) := by decide +kernel
theorem dX6_firstToPart_29 : decode cX6_firstToPart 29 = .ok (.aload_n 1, 1) := by decide +kernel
theorem dX6_firstToPart_30 : decode cX6_firstToPart 30 = .ok (.arraylength, 1) := by decide +kernel
theorem dX6_firstToPart_31 : decode cX6_firstToPart 31 = .ok (.if_icmp .ge 53, 3) := by decide +kernel
theorem dX6_firstToPart_34 : decode cX6_firstToPart 34 = .ok (.aload_n 1, 1) := by decide +kernel
theorem dX6_firstToPart_35 : decode cX6_firstToPart 35 = .ok (.iload_n 2, 1) := by decide +kernel
theorem dX6_firstToPart_36 : decode cX6_firstToPart 36 = .ok (.iaload, 1) := by decide +kernel
theorem dX6_firstToPart_37 : decode cX6_firstToPart 37 = .ok (.iload_n 3, 1) := by decide +kernel
theorem dX6_firstToPart_38 : decode cX6_firstToPart 38 = .ok (.if_icmp .eq 40, 3) := by decide +kernel
theorem dX6_firstToPart_41 : decode cX6_firstToPart 41 = .ok (.aload_n 0, 1) := by decide +kernel
theorem dX6_firstToPart_42 : decode cX6_firstToPart 42 = .ok (.iload_n 2, 1) := by decide +kernel
theorem dX6_firstToPart_43 : decode cX6_firstToPart 43 = .ok (.iload_n 3, 1) := by decide +kernel
theorem dX6_firstToPart_44 : decode cX6_firstToPart 44 = .ok (.invokevirtual 72, 3) := by decide +kernel
theorem dX6_firstToPart_47 : decode cX6_firstToPart 47 = .ok (.aload_n 0, 1) := by decide +kernel
theorem dX6_firstToPart_48 : decode cX6_firstToPart 48 = .ok (.aload_n 1, 1) := by decide +kernel
theorem dX6_firstToPart_49 : decode cX6_firstToPart 49 = .ok (.iload_n 2, 1) := by decide +kernel
theorem dX6_firstToPart_50 : decode cX6_firstToPart 50 = .ok (.invokestatic 68, 3) := by decide +kernel
theorem dX6_firstToPart_53 : decode cX6_firstToPart 53 = .ok (.if_icmp .le 25, 3) := by decide +kernel
theorem dX6_firstToPart_56 : decode cX6_firstToPart 56 = .ok (.aload_n 0, 1) := by decide +kernel
theorem dX6_firstToPart_57 : decode cX6_firstToPart 57 = .ok (.iload_n 3, 1) := by decide +kernel
theorem dX6_firstToPart_58 : decode cX6_firstToPart 58 = .ok (.iload_n 2, 1) := by decide +kernel
theorem dX6_firstToPart_59 : decode cX6_firstToPart 59 = .ok (.invokevirtual 72, 3) := by decide +kernel
theorem dX6_firstToPart_62 : decode cX6_firstToPart 62 = .ok (.aload_n 0, 1) := by decide +kernel
theorem dX6_firstToPart_63 : decode cX6_firstToPart 63 = .ok (.aload_n 1, 1) := by decide +kernel
theorem dX6_firstToPart_64 : decode cX6_firstToPart 64 = .ok (.iload_n 3, 1) := by decide +kernel
theorem dX6_firstToPart_65 : decode cX6_firstToPart 65 = .ok (.invokestatic 68, 3) := by decide +kernel
theorem dX6_firstToPart_68 : decode cX6_firstToPart 68 = .ok (.if_icmp .le 10, 3) := by decide +kernel
theorem dX6_firstToPart_71 : decode cX6_firstToPart 71 = .ok (.bipush 10, 2) := by decide +kernel
theorem dX6_firstToPart_73 : decode cX6_firstToPart 73 = .ok (.iload_n 2, 1) := by decide +kernel
theorem dX6_firstToPart_74 : decode cX6_firstToPart 74 = .ok (.imul, 1) := by decide +kernel
theorem dX6_firstToPart_75 : decode cX6_firstToPart 75 = .ok (.iload_n 3, 1) := by decide +kernel
theorem dX6_firstToPart_76 : decode cX6_firstToPart 76 = .ok (.iadd, 1) := by decide +kernel
theorem dX6_firstToPart_77 : decode cX6_firstToPart 77 = .ok (.ireturn, 1) := by decide +kernel
theorem dX6_firstToPart_78 : decode cX6_firstToPart 78 = .ok (.iinc 3 1, 3) := by decide +kernel
theorem dX6_firstToPart_81 : decode cX6_firstToPart 81 = .ok (.goto (-61), 3) := by decide +kernel
theorem dX6_firstToPart_84 : decode cX6_firstToPart 84 = .ok (.iinc 2 1, 3) := by decide +kernel
theorem dX6_firstToPart_87 : decode cX6_firstToPart 87 = .ok (.goto (-85), 3) := by decide +kernel
theorem dX6_firstToPart_90 : decode cX6_firstToPart 90 = .ok (.iconst (-1), 1) := by decide +kernel
theorem dX6_firstToPart_91 : decode cX6_firstToPart 91 = .ok (.ireturn, 1) := by decide +kernel
theorem dX6_contentment_0 : decode cX6_contentment 0 = .ok (.iload_n 2, 1) := by decide +kernel
theorem dX6_contentment_1 : decode cX6_contentment 1 = .ok (.ifCond .lt 26, 3) := by decide +kernel
theorem dX6_contentment_4 : decode cX6_contentment 4 = .ok (.iload_n 2, 1) := by decide +kernel
theorem dX6_contentment_5 : decode cX6_contentment 5 = .ok (.aload_n 1, 1) := by decide +kernel
theorem dX6_contentment_6 : decode cX6_contentment 6 = .ok (.arraylength, 1) := by decide +kernel
theorem dX6_contentment_7 : decode cX6_contentment 7 = .ok (.if_icmp .ge 20, 3) := by decide +kernel
theorem dX6_contentment_10 : decode cX6_contentment 10 = .ok (.aload_n 1, 1) := by decide +kernel
theorem dX6_contentment_11 : decode cX6_contentment 11 = .ok (.iload_n 2, 1) := by decide +kernel
theorem dX6_contentment_12 : decode cX6_contentment 12 = .ok (.iaload, 1) := by decide +kernel
theorem dX6_contentment_13 : decode cX6_contentment 13 = .ok (.ifCond .lt 14, 3) := by decide +kernel
theorem dX6_contentment_16 : decode cX6_contentment 16 = .ok (.aload_n 0, 1) := by decide +kernel
theorem dX6_contentment_17 : decode cX6_contentment 17 = .ok (.iload_n 2, 1) := by decide +kernel
theorem dX6_contentment_18 : decode cX6_contentment 18 = .ok (.aload_n 1, 1) := by decide +kernel
theorem dX6_contentment_19 : decode cX6_contentment 19 = .ok (.iload_n 2, 1) := by decide +kernel
theorem dX6_contentment_20 : decode cX6_contentment 20 = .ok (.iaload, 1) := by decide +kernel
theorem dX6_contentment_21 : decode cX6_contentment 21 = .ok (.invokevirtual 72, 3) := by decide +kernel
theorem dX6_contentment_24 : decode cX6_contentment 24 = .ok (.goto 4, 3) := by decide +kernel
theorem dX6_contentment_27 : decode cX6_contentment 27 = .ok (.iconst 0, 1) := by decide +kernel
theorem dX6_contentment_28 : decode cX6_contentment 28 = .ok (.ireturn, 1) := by decide +kernel
