theorem dM_init_0 : decode cM_init 0 = .ok (.aload_n 0, 1) := by decide +kernel
theorem dM_init_1 : decode cM_init 1 = .ok (.invokespecial 1, 3) := by decide +kernel
theorem dM_init_4 : decode cM_init 4 = .ok (.aload_n 0, 1) := by decide +kernel
theorem dM_init_5 : decode cM_init 5 = .ok (.bipush 61, 2) := by decide +kernel
theorem dM_init_7 : decode cM_init 7 = .ok (.newarray .boolean, 2) := by decide +kernel
theorem dM_init_9 : decode cM_init 9 = .ok (.putfield 7, 3) := by decide +kernel
theorem dM_init_12 : decode cM_init 12 = .ok (.aload_n 0, 1) := by decide +kernel
theorem dM_init_13 : decode cM_init 13 = .ok (.bipush 61, 2) := by decide +kernel
theorem dM_init_15 : decode cM_init 15 = .ok (.newarray .int, 2) := by decide +kernel
theorem dM_init_17 : decode cM_init 17 = .ok (.putfield 13, 3) := by decide +kernel
theorem dM_init_20 : decode cM_init 20 = .ok (.aload_n 0, 1) := by decide +kernel
theorem dM_init_21 : decode cM_init 21 = .ok (.bipush 61, 2) := by decide +kernel
theorem dM_init_23 : decode cM_init 23 = .ok (.newarray .int, 2) := by decide +kernel
theorem dM_init_25 : decode cM_init 25 = .ok (.putfield 17, 3) := by decide +kernel
theorem dM_init_28 : decode cM_init 28 = .ok (.aload_n 0, 1) := by decide +kernel
theorem dM_init_29 : decode cM_init 29 = .ok (.sipush 2440, 3) := by decide +kernel
theorem dM_init_32 : decode cM_init 32 = .ok (.newarray .int, 2) := by decide +kernel
theorem dM_init_34 : decode cM_init 34 = .ok (.putfield 20, 3) := by decide +kernel
theorem dM_init_37 : decode cM_init 37 = .ok (.aload_n 0, 1) := by decide +kernel
theorem dM_init_38 : decode cM_init 38 = .ok (.bipush 61, 2) := by decide +kernel
theorem dM_init_40 : decode cM_init 40 = .ok (.newarray .int, 2) := by decide +kernel
theorem dM_init_42 : decode cM_init 42 = .ok (.putfield 23, 3) := by decide +kernel
theorem dM_init_45 : decode cM_init 45 = .ok (.aload_n 0, 1) := by decide +kernel
theorem dM_init_46 : decode cM_init 46 = .ok (.sipush 200, 3) := by decide +kernel
theorem dM_init_49 : decode cM_init 49 = .ok (.newarray .int, 2) := by decide +kernel
theorem dM_init_51 : decode cM_init 51 = .ok (.putfield 26, 3) := by decide +kernel
theorem dM_init_54 : decode cM_init 54 = .ok (.aload_n 0, 1) := by decide +kernel
theorem dM_init_55 : decode cM_init 55 = .ok (.sipush 200, 3) := by decide +kernel
theorem dM_init_58 : decode cM_init 58 = .ok (.newarray .int, 2) := by decide +kernel
theorem dM_init_60 : decode cM_init 60 = .ok (.putfield 29, 3) := by decide +kernel
theorem dM_init_63 : decode cM_init 63 = .ok (.aload_n 0, 1) := by decide +kernel
theorem dM_init_64 : decode cM_init 64 = .ok (.sipush 200, 3) := by decide +kernel
theorem dM_init_67 : decode cM_init 67 = .ok (.newarray .int, 2) := by decide +kernel
theorem dM_init_69 : decode cM_init 69 = .ok (.putfield 32, 3) := by decide +kernel
theorem dM_init_72 : decode cM_init 72 = .ok (.aload_n 0, 1) := by decide +kernel
theorem dM_init_73 : decode cM_init 73 = .ok (.bipush 61, 2) := by decide +kernel
theorem dM_init_75 : decode cM_init 75 = .ok (.newarray .int, 2) := by decide +kernel
theorem dM_init_77 : decode cM_init 77 = .ok (.putfield 35, 3) := by decide +kernel
theorem dM_init_80 : decode cM_init 80 = .ok (.return_, 1) := by decide +kernel
theorem dM_record_0 : decode cM_record 0 = .ok (.aload_n 0, 1) := by decide +kernel
theorem dM_record_1 : decode cM_record 1 = .ok (.iconst 0, 1) := by decide +kernel
theorem dM_record_2 : decode cM_record 2 = .ok (.putfield 38, 3) := by decide +kernel
theorem dM_record_5 : decode cM_record 5 = .ok (.aload_n 0, 1) := by decide +kernel
theorem dM_record_6 : decode cM_record 6 = .ok (.getfield 42, 3) := by decide +kernel
theorem dM_record_9 : decode cM_record 9 = .ok (.bipush 60, 2) := by decide +kernel
theorem dM_record_11 : decode cM_record 11 = .ok (.if_icmp .ne 5, 3) := by decide +kernel
theorem dM_record_14 : decode cM_record 14 = .ok (.iconst 0, 1) := by decide +kernel
theorem dM_record_15 : decode cM_record 15 = .ok (.ireturn, 1) := by decide +kernel
theorem dM_record_16 : decode cM_record 16 = .ok (.aload_n 0, 1) := by decide +kernel
theorem dM_record_17 : decode cM_record 17 = .ok (.dup, 1) := by decide +kernel
theorem dM_record_18 : decode cM_record 18 = .ok (.getfield 42, 3) := by decide +kernel
theorem dM_record_21 : decode cM_record 21 = .ok (.iconst 1, 1) := by decide +kernel
theorem dM_record_22 : decode cM_record 22 = .ok (.iadd, 1) := by decide +kernel
theorem dM_record_23 : decode cM_record 23 = .ok (.putfield 42, 3) := by decide +kernel
theorem dM_record_26 : decode cM_record 26 = .ok (.aload_n 0, 1) := by decide +kernel
theorem dM_record_27 : decode cM_record 27 = .ok (.getfield 7, 3) := by decide +kernel
theorem dM_record_30 : decode cM_record 30 = .ok (.aload_n 0, 1) := by decide +kernel
theorem dM_record_31 : decode cM_record 31 = .ok (.getfield 42, 3) := by decide +kernel
theorem dM_record_34 : decode cM_record 34 = .ok (.iconst 1, 1) := by decide +kernel
theorem dM_record_35 : decode cM_record 35 = .ok (.bastore, 1) := by decide +kernel
theorem dM_record_36 : decode cM_record 36 = .ok (.aload_n 0, 1) := by decide +kernel
theorem dM_record_37 : decode cM_record 37 = .ok (.getfield 42, 3) := by decide +kernel
theorem dM_record_40 : decode cM_record 40 = .ok (.ireturn, 1) := by decide +kernel
theorem dM_link_0 : decode cM_link 0 = .ok (.aload_n 0, 1) := by decide +kernel
theorem dM_link_1 : decode cM_link 1 = .ok (.iconst 0, 1) := by decide +kernel
theorem dM_link_2 : decode cM_link 2 = .ok (.putfield 38, 3) := by decide +kernel
theorem dM_link_5 : decode cM_link 5 = .ok (.aload_n 0, 1) := by decide +kernel
theorem dM_link_6 : decode cM_link 6 = .ok (.dup, 1) := by decide +kernel
theorem dM_link_7 : decode cM_link 7 = .ok (.getfield 45, 3) := by decide +kernel
theorem dM_link_10 : decode cM_link 10 = .ok (.iconst 1, 1) := by decide +kernel
theorem dM_link_11 : decode cM_link 11 = .ok (.iadd, 1) := by decide +kernel
theorem dM_link_12 : decode cM_link 12 = .ok (.putfield 45, 3) := by decide +kernel
theorem dM_link_15 : decode cM_link 15 = .ok (.aload_n 0, 1) := by decide +kernel
theorem dM_link_16 : decode cM_link 16 = .ok (.iload_n 1, 1) := by decide +kernel
theorem dM_link_17 : decode cM_link 17 = .ok (.invokevirtual 55, 3) := by decide +kernel
theorem dM_link_20 : decode cM_link 20 = .ok (.ifCond .eq 23, 3) := by decide +kernel
theorem dM_link_23 : decode cM_link 23 = .ok (.iload_n 2, 1) := by decide +kernel
theorem dM_link_24 : decode cM_link 24 = .ok (.ifCond .lt 19, 3) := by decide +kernel
theorem dM_link_27 : decode cM_link 27 = .ok (.iload_n 2, 1) := by decide +kernel
theorem dM_link_28 : decode cM_link 28 = .ok (.bipush 9, 2) := by decide +kernel
theorem dM_link_30 : decode cM_link 30 = .ok (.if_icmp .gt 13, 3) := by decide +kernel
theorem dM_link_33 : decode cM_link 33 = .ok (.aload_n 0, 1) := by decide +kernel
theorem dM_link_34 : decode cM_link 34 = .ok (.getfield 48, 3) := by decide +kernel
theorem dM_link_37 : decode cM_link 37 = .ok (.sipush 200, 3) := by decide +kernel
theorem dM_link_40 : decode cM_link 40 = .ok (.if_icmp .ne 5, 3) := by decide +kernel
theorem dM_link_43 : decode cM_link 43 = .ok (.iconst 0, 1) := by decide +kernel
theorem dM_link_44 : decode cM_link 44 = .ok (.ireturn, 1) := by decide +kernel
theorem dM_link_45 : decode cM_link 45 = .ok (.iload_n 2, 1) := by decide +kernel
theorem dM_link_46 : decode cM_link 46 = .ok (.iconst 4, 1) := by decide +kernel
theorem dM_link_47 : decode cM_link 47 = .ok (.if_icmp .ge 19, 3) := by decide +kernel
theorem dM_link_50 : decode cM_link 50 = .ok (.aload_n 0, 1) := by decide +kernel
theorem dM_link_51 : decode cM_link 51 = .ok (.iload_n 3, 1) := by decide +kernel
theorem dM_link_52 : decode cM_link 52 = .ok (.invokevirtual 55, 3) := by decide +kernel
theorem dM_link_55 : decode cM_link 55 = .ok (.ifCond .eq 18, 3) := by decide +kernel
theorem dM_link_58 : decode cM_link 58 = .ok (.iload_n 3, 1) := by decide +kernel
theorem dM_link_59 : decode cM_link 59 = .ok (.iload_n 1, 1) := by decide +kernel
theorem dM_link_60 : decode cM_link 60 = .ok (.if_icmp .ne 15, 3) := by decide +kernel
theorem dM_link_63 : decode cM_link 63 = .ok (.goto 10, 3) := by decide +kernel
theorem dM_link_66 : decode cM_link 66 = .ok (.iload_n 3, 1) := by decide +kernel
theorem dM_link_67 : decode cM_link 67 = .ok (.invokestatic 59, 3) := by decide +kernel
theorem dM_link_70 : decode cM_link 70 = .ok (.ifCond .ne 5, 3) := by decide +kernel
theorem dM_link_73 : decode cM_link 73 = .ok (.iconst 0, 1) := by decide +kernel
theorem dM_link_74 : decode cM_link 74 = .ok (.ireturn, 1) := by decide +kernel
theorem dM_link_75 : decode cM_link 75 = .ok (.aload_n 0, 1) := by decide +kernel
theorem dM_link_76 : decode cM_link 76 = .ok (.iload_n 1, 1) := by decide +kernel
theorem dM_link_77 : decode cM_link 77 = .ok (.iload_n 2, 1) := by decide +kernel
theorem dM_link_78 : decode cM_link 78 = .ok (.invokevirtual 62, 3) := by decide +kernel
theorem dM_link_81 : decode cM_link 81 = .ok (.iload_n 2, 1) := by decide +kernel
theorem dM_link_82 : decode cM_link 82 = .ok (.invokestatic 66, 3) := by decide +kernel
theorem dM_link_85 : decode cM_link 85 = .ok (.if_icmp .eq 14, 3) := by decide +kernel
theorem dM_link_88 : decode cM_link 88 = .ok (.aload_n 0, 1) := by decide +kernel
theorem dM_link_89 : decode cM_link 89 = .ok (.iload_n 1, 1) := by decide +kernel
theorem dM_link_90 : decode cM_link 90 = .ok (.iload_n 2, 1) := by decide +kernel
theorem dM_link_91 : decode cM_link 91 = .ok (.iload_n 3, 1) := by decide +kernel
theorem dM_link_92 : decode cM_link 92 = .ok (.invokevirtual 69, 3) := by decide +kernel
theorem dM_link_95 : decode cM_link 95 = .ok (.iconst (-1), 1) := by decide +kernel
theorem dM_link_96 : decode cM_link 96 = .ok (.if_icmp .eq 5, 3) := by decide +kernel
theorem dM_link_99 : decode cM_link 99 = .ok (.iconst 0, 1) := by decide +kernel
theorem dM_link_100 : decode cM_link 100 = .ok (.ireturn, 1) := by decide +kernel
theorem dM_link_101 : decode cM_link 101 = .ok (.iload_n 2, 1) := by decide +kernel
theorem dM_link_102 : decode cM_link 102 = .ok (.ifCond .ne 80, 3) := by decide +kernel
theorem dM_link_105 : decode cM_link 105 = .ok (.aload_n 0, 1) := by decide +kernel
theorem dM_link_106 : decode cM_link 106 = .ok (.iload_n 3, 1) := by decide +kernel
theorem dM_link_107 : decode cM_link 107 = .ok (.iload_n 1, 1) := by decide +kernel
theorem dM_link_108 : decode cM_link 108 = .ok (.invokevirtual 73, 3) := by decide +kernel
theorem dM_link_111 : decode cM_link 111 = .ok (.ifCond .eq 71, 3) := by decide +kernel
theorem dM_link_114 : decode cM_link 114 = .ok (.aload_n 0, 1) := by decide +kernel
theorem dM_link_115 : decode cM_link 115 = .ok (.iconst 0, 1) := by decide +kernel
theorem dM_link_116 : decode cM_link 116 = .ok (.putfield 77, 3) := by decide +kernel
theorem dM_link_119 : decode cM_link 119 = .ok (.iload_n 3, 1) := by decide +kernel
theorem dM_link_120 : decode cM_link 120 = .ok (.istore 4, 2) := by decide +kernel
theorem dM_link_122 : decode cM_link 122 = .ok (.iload 4, 2) := by decide +kernel
theorem dM_link_124 : decode cM_link 124 = .ok (.iload_n 1, 1) := by decide +kernel
theorem dM_link_125 : decode cM_link 125 = .ok (.if_icmp .eq 35, 3) := by decide +kernel
theorem dM_link_128 : decode cM_link 128 = .ok (.aload_n 0, 1) := by decide +kernel
theorem dM_link_129 : decode cM_link 129 = .ok (.getfield 35, 3) := by decide +kernel
theorem dM_link_132 : decode cM_link 132 = .ok (.aload_n 0, 1) := by decide +kernel
theorem dM_link_133 : decode cM_link 133 = .ok (.getfield 77, 3) := by decide +kernel
theorem dM_link_136 : decode cM_link 136 = .ok (.iload 4, 2) := by decide +kernel
theorem dM_link_138 : decode cM_link 138 = .ok (.iastore, 1) := by decide +kernel
theorem dM_link_139 : decode cM_link 139 = .ok (.aload_n 0, 1) := by decide +kernel
theorem dM_link_140 : decode cM_link 140 = .ok (.dup, 1) := by decide +kernel
theorem dM_link_141 : decode cM_link 141 = .ok (.getfield 77, 3) := by decide +kernel
theorem dM_link_144 : decode cM_link 144 = .ok (.iconst 1, 1) := by decide +kernel
theorem dM_link_145 : decode cM_link 145 = .ok (.iadd, 1) := by decide +kernel
theorem dM_link_146 : decode cM_link 146 = .ok (.putfield 77, 3) := by decide +kernel
theorem dM_link_149 : decode cM_link 149 = .ok (.aload_n 0, 1) := by decide +kernel
theorem dM_link_150 : decode cM_link 150 = .ok (.iload 4, 2) := by decide +kernel
theorem dM_link_152 : decode cM_link 152 = .ok (.invokevirtual 51, 3) := by decide +kernel
theorem dM_link_155 : decode cM_link 155 = .ok (.istore 4, 2) := by decide +kernel
theorem dM_link_157 : decode cM_link 157 = .ok (.goto (-35), 3) := by decide +kernel
theorem dM_link_160 : decode cM_link 160 = .ok (.aload_n 0, 1) := by decide +kernel
theorem dM_link_161 : decode cM_link 161 = .ok (.getfield 35, 3) := by decide +kernel
theorem dM_link_164 : decode cM_link 164 = .ok (.aload_n 0, 1) := by decide +kernel
theorem dM_link_165 : decode cM_link 165 = .ok (.getfield 77, 3) := by decide +kernel
theorem dM_link_168 : decode cM_link 168 = .ok (.iload_n 1, 1) := by decide +kernel
theorem dM_link_169 : decode cM_link 169 = .ok (.iastore, 1) := by decide +kernel
theorem dM_link_170 : decode cM_link 170 = .ok (.aload_n 0, 1) := by decide +kernel
theorem dM_link_171 : decode cM_link 171 = .ok (.dup, 1) := by decide +kernel
theorem dM_link_172 : decode cM_link 172 = .ok (.getfield 77, 3) := by decide +kernel
theorem dM_link_175 : decode cM_link 175 = .ok (.iconst 1, 1) := by decide +kernel
theorem dM_link_176 : decode cM_link 176 = .ok (.iadd, 1) := by decide +kernel
theorem dM_link_177 : decode cM_link 177 = .ok (.putfield 77, 3) := by decide +kernel
theorem dM_link_180 : decode cM_link 180 = .ok (.iconst 0, 1) := by decide +kernel
theorem dM_link_181 : decode cM_link 181 = .ok (.ireturn, 1) := by decide +kernel
theorem dM_link_182 : decode cM_link 182 = .ok (.aload_n 0, 1) := by decide +kernel
theorem dM_link_183 : decode cM_link 183 = .ok (.getfield 26, 3) := by decide +kernel
theorem dM_link_186 : decode cM_link 186 = .ok (.aload_n 0, 1) := by decide +kernel
theorem dM_link_187 : decode cM_link 187 = .ok (.getfield 48, 3) := by decide +kernel
theorem dM_link_190 : decode cM_link 190 = .ok (.iload_n 1, 1) := by decide +kernel
theorem dM_link_191 : decode cM_link 191 = .ok (.iastore, 1) := by decide +kernel
theorem dM_link_192 : decode cM_link 192 = .ok (.aload_n 0, 1) := by decide +kernel
theorem dM_link_193 : decode cM_link 193 = .ok (.getfield 29, 3) := by decide +kernel
theorem dM_link_196 : decode cM_link 196 = .ok (.aload_n 0, 1) := by decide +kernel
theorem dM_link_197 : decode cM_link 197 = .ok (.getfield 48, 3) := by decide +kernel
theorem dM_link_200 : decode cM_link 200 = .ok (.iload_n 2, 1) := by decide +kernel
theorem dM_link_201 : decode cM_link 201 = .ok (.iastore, 1) := by decide +kernel
theorem dM_link_202 : decode cM_link 202 = .ok (.aload_n 0, 1) := by decide +kernel
theorem dM_link_203 : decode cM_link 203 = .ok (.getfield 32, 3) := by decide +kernel
theorem dM_link_206 : decode cM_link 206 = .ok (.aload_n 0, 1) := by decide +kernel
theorem dM_link_207 : decode cM_link 207 = .ok (.getfield 48, 3) := by decide +kernel
theorem dM_link_210 : decode cM_link 210 = .ok (.iload_n 3, 1) := by decide +kernel
theorem dM_link_211 : decode cM_link 211 = .ok (.iastore, 1) := by decide +kernel
theorem dM_link_212 : decode cM_link 212 = .ok (.aload_n 0, 1) := by decide +kernel
theorem dM_link_213 : decode cM_link 213 = .ok (.dup, 1) := by decide +kernel
theorem dM_link_214 : decode cM_link 214 = .ok (.getfield 48, 3) := by decide +kernel
theorem dM_link_217 : decode cM_link 217 = .ok (.iconst 1, 1) := by decide +kernel
theorem dM_link_218 : decode cM_link 218 = .ok (.iadd, 1) := by decide +kernel
theorem dM_link_219 : decode cM_link 219 = .ok (.putfield 48, 3) := by decide +kernel
theorem dM_link_222 : decode cM_link 222 = .ok (.aload_n 0, 1) := by decide +kernel
theorem dM_link_223 : decode cM_link 223 = .ok (.iload_n 1, 1) := by decide +kernel
theorem dM_link_224 : decode cM_link 224 = .ok (.invokevirtual 80, 3) := by decide +kernel
theorem dM_link_227 : decode cM_link 227 = .ok (.iconst 1, 1) := by decide +kernel
theorem dM_link_228 : decode cM_link 228 = .ok (.ireturn, 1) := by decide +kernel
theorem dM_isLive_0 : decode cM_isLive 0 = .ok (.iload_n 1, 1) := by decide +kernel
theorem dM_isLive_1 : decode cM_isLive 1 = .ok (.ifCond .le 24, 3) := by decide +kernel
theorem dM_isLive_4 : decode cM_isLive 4 = .ok (.iload_n 1, 1) := by decide +kernel
theorem dM_isLive_5 : decode cM_isLive 5 = .ok (.aload_n 0, 1) := by decide +kernel
theorem dM_isLive_6 : decode cM_isLive 6 = .ok (.getfield 42, 3) := by decide +kernel
theorem dM_isLive_9 : decode cM_isLive 9 = .ok (.if_icmp .gt 16, 3) := by decide +kernel
theorem dM_isLive_12 : decode cM_isLive 12 = .ok (.aload_n 0, 1) := by decide +kernel
theorem dM_isLive_13 : decode cM_isLive 13 = .ok (.getfield 7, 3) := by decide +kernel
theorem dM_isLive_16 : decode cM_isLive 16 = .ok (.iload_n 1, 1) := by decide +kernel
theorem dM_isLive_17 : decode cM_isLive 17 = .ok (.baload, 1) := by decide +kernel
theorem dM_isLive_18 : decode cM_isLive 18 = .ok (.ifCond .eq 7, 3) := by decide +kernel
theorem dM_isLive_21 : decode cM_isLive 21 = .ok (.iconst 1, 1) := by decide +kernel
theorem dM_isLive_22 : decode cM_isLive 22 = .ok (.goto 4, 3) := by decide +kernel
theorem dM_isLive_25 : decode cM_isLive 25 = .ok (.iconst 0, 1) := by decide +kernel
theorem dM_isLive_26 : decode cM_isLive 26 = .ok (.ireturn, 1) := by decide +kernel
theorem dM_isHeading_0 : decode cM_isHeading 0 = .ok (.iload_n 0, 1) := by decide +kernel
theorem dM_isHeading_1 : decode cM_isHeading 1 = .ok (.ifCond .le 13, 3) := by decide +kernel
theorem dM_isHeading_4 : decode cM_isHeading 4 = .ok (.iload_n 0, 1) := by decide +kernel
theorem dM_isHeading_5 : decode cM_isHeading 5 = .ok (.bipush 100, 2) := by decide +kernel
theorem dM_isHeading_7 : decode cM_isHeading 7 = .ok (.if_icmp .ge 7, 3) := by decide +kernel
theorem dM_isHeading_10 : decode cM_isHeading 10 = .ok (.iconst 1, 1) := by decide +kernel
theorem dM_isHeading_11 : decode cM_isHeading 11 = .ok (.goto 4, 3) := by decide +kernel
theorem dM_isHeading_14 : decode cM_isHeading 14 = .ok (.iconst 0, 1) := by decide +kernel
theorem dM_isHeading_15 : decode cM_isHeading 15 = .ok (.ireturn, 1) := by decide +kernel
theorem dM_count_0 : decode cM_count 0 = .ok (.iconst 0, 1) := by decide +kernel
theorem dM_count_1 : decode cM_count 1 = .ok (.istore_n 3, 1) := by decide +kernel
theorem dM_count_2 : decode cM_count 2 = .ok (.iconst 0, 1) := by decide +kernel
theorem dM_count_3 : decode cM_count 3 = .ok (.istore 4, 2) := by decide +kernel
theorem dM_count_5 : decode cM_count 5 = .ok (.iload 4, 2) := by decide +kernel
theorem dM_count_7 : decode cM_count 7 = .ok (.aload_n 0, 1) := by decide +kernel
theorem dM_count_8 : decode cM_count 8 = .ok (.getfield 48, 3) := by decide +kernel
theorem dM_count_11 : decode cM_count 11 = .ok (.if_icmp .ge 39, 3) := by decide +kernel
theorem dM_count_14 : decode cM_count 14 = .ok (.iload_n 3, 1) := by decide +kernel
theorem dM_count_15 : decode cM_count 15 = .ok (.aload_n 0, 1) := by decide +kernel
theorem dM_count_16 : decode cM_count 16 = .ok (.getfield 26, 3) := by decide +kernel
theorem dM_count_19 : decode cM_count 19 = .ok (.iload 4, 2) := by decide +kernel
theorem dM_count_21 : decode cM_count 21 = .ok (.iaload, 1) := by decide +kernel
theorem dM_count_22 : decode cM_count 22 = .ok (.iload_n 1, 1) := by decide +kernel
theorem dM_count_23 : decode cM_count 23 = .ok (.if_icmp .ne 18, 3) := by decide +kernel
theorem dM_count_26 : decode cM_count 26 = .ok (.aload_n 0, 1) := by decide +kernel
theorem dM_count_27 : decode cM_count 27 = .ok (.getfield 29, 3) := by decide +kernel
theorem dM_count_30 : decode cM_count 30 = .ok (.iload 4, 2) := by decide +kernel
theorem dM_count_32 : decode cM_count 32 = .ok (.iaload, 1) := by decide +kernel
theorem dM_count_33 : decode cM_count 33 = .ok (.iload_n 2, 1) := by decide +kernel
theorem dM_count_34 : decode cM_count 34 = .ok (.if_icmp .ne 7, 3) := by decide +kernel
theorem dM_count_37 : decode cM_count 37 = .ok (.iconst 1, 1) := by decide +kernel
theorem dM_count_38 : decode cM_count 38 = .ok (.goto 4, 3) := by decide +kernel
theorem dM_count_41 : decode cM_count 41 = .ok (.iconst 0, 1) := by decide +kernel
theorem dM_count_42 : decode cM_count 42 = .ok (.iadd, 1) := by decide +kernel
theorem dM_count_43 : decode cM_count 43 = .ok (.istore_n 3, 1) := by decide +kernel
theorem dM_count_44 : decode cM_count 44 = .ok (.iinc 4 1, 3) := by decide +kernel
theorem dM_count_47 : decode cM_count 47 = .ok (.goto (-42), 3) := by decide +kernel
theorem dM_count_50 : decode cM_count 50 = .ok (.iload_n 3, 1) := by decide +kernel
theorem dM_count_51 : decode cM_count 51 = .ok (.ireturn, 1) := by decide +kernel
theorem dM_most_0 : decode cM_most 0 = .ok (.iload_n 0, 1) := by decide +kernel
theorem dM_most_1 : decode cM_most 1 = .ok (.ifCond .ne 7, 3) := by decide +kernel
theorem dM_most_4 : decode cM_most 4 = .ok (.iconst 1, 1) := by decide +kernel
theorem dM_most_5 : decode cM_most 5 = .ok (.goto 22, 3) := by decide +kernel
theorem dM_most_8 : decode cM_most 8 = .ok (.iload_n 0, 1) := by decide +kernel
theorem dM_most_9 : decode cM_most 9 = .ok (.iconst 1, 1) := by decide +kernel
theorem dM_most_10 : decode cM_most 10 = .ok (.if_icmp .ne 7, 3) := by decide +kernel
theorem dM_most_13 : decode cM_most 13 = .ok (.iconst 2, 1) := by decide +kernel
theorem dM_most_14 : decode cM_most 14 = .ok (.goto 13, 3) := by decide +kernel
theorem dM_most_17 : decode cM_most 17 = .ok (.iload_n 0, 1) := by decide +kernel
theorem dM_most_18 : decode cM_most 18 = .ok (.iconst 4, 1) := by decide +kernel
theorem dM_most_19 : decode cM_most 19 = .ok (.if_icmp .ge 7, 3) := by decide +kernel
theorem dM_most_22 : decode cM_most 22 = .ok (.iconst 5, 1) := by decide +kernel
theorem dM_most_23 : decode cM_most 23 = .ok (.goto 4, 3) := by decide +kernel
theorem dM_most_26 : decode cM_most 26 = .ok (.iconst 3, 1) := by decide +kernel
theorem dM_most_27 : decode cM_most 27 = .ok (.ireturn, 1) := by decide +kernel
theorem dM_find_0 : decode cM_find 0 = .ok (.iconst 0, 1) := by decide +kernel
theorem dM_find_1 : decode cM_find 1 = .ok (.istore 4, 2) := by decide +kernel
theorem dM_find_3 : decode cM_find 3 = .ok (.iload 4, 2) := by decide +kernel
theorem dM_find_5 : decode cM_find 5 = .ok (.aload_n 0, 1) := by decide +kernel
theorem dM_find_6 : decode cM_find 6 = .ok (.getfield 48, 3) := by decide +kernel
theorem dM_find_9 : decode cM_find 9 = .ok (.if_icmp .ge 45, 3) := by decide +kernel
theorem dM_find_12 : decode cM_find 12 = .ok (.aload_n 0, 1) := by decide +kernel
theorem dM_find_13 : decode cM_find 13 = .ok (.getfield 26, 3) := by decide +kernel
theorem dM_find_16 : decode cM_find 16 = .ok (.iload 4, 2) := by decide +kernel
theorem dM_find_18 : decode cM_find 18 = .ok (.iaload, 1) := by decide +kernel
theorem dM_find_19 : decode cM_find 19 = .ok (.iload_n 1, 1) := by decide +kernel
theorem dM_find_20 : decode cM_find 20 = .ok (.if_icmp .ne 28, 3) := by decide +kernel
theorem dM_find_23 : decode cM_find 23 = .ok (.aload_n 0, 1) := by decide +kernel
theorem dM_find_24 : decode cM_find 24 = .ok (.getfield 29, 3) := by decide +kernel
theorem dM_find_27 : decode cM_find 27 = .ok (.iload 4, 2) := by decide +kernel
theorem dM_find_29 : decode cM_find 29 = .ok (.iaload, 1) := by decide +kernel
theorem dM_find_30 : decode cM_find 30 = .ok (.iload_n 2, 1) := by decide +kernel
theorem dM_find_31 : decode cM_find 31 = .ok (.if_icmp .ne 17, 3) := by decide +kernel
theorem dM_find_34 : decode cM_find 34 = .ok (.aload_n 0, 1) := by decide +kernel
theorem dM_find_35 : decode cM_find 35 = .ok (.getfield 32, 3) := by decide +kernel
theorem dM_find_38 : decode cM_find 38 = .ok (.iload 4, 2) := by decide +kernel
theorem dM_find_40 : decode cM_find 40 = .ok (.iaload, 1) := by decide +kernel
theorem dM_find_41 : decode cM_find 41 = .ok (.iload_n 3, 1) := by decide +kernel
theorem dM_find_42 : decode cM_find 42 = .ok (.if_icmp .ne 6, 3) := by decide +kernel
theorem dM_find_45 : decode cM_find 45 = .ok (.iload 4, 2) := by decide +kernel
theorem dM_find_47 : decode cM_find 47 = .ok (.ireturn, 1) := by decide +kernel
theorem dM_find_48 : decode cM_find 48 = .ok (.iinc 4 1, 3) := by decide +kernel
theorem dM_find_51 : decode cM_find 51 = .ok (.goto (-48), 3) := by decide +kernel
theorem dM_find_54 : decode cM_find 54 = .ok (.iconst (-1), 1) := by decide +kernel
theorem dM_find_55 : decode cM_find 55 = .ok (.ireturn, 1) := by decide +kernel
theorem dM_liesIn_0 : decode cM_liesIn 0 = .ok (.iload_n 1, 1) := by decide +kernel
theorem dM_liesIn_1 : decode cM_liesIn 1 = .ok (.istore_n 3, 1) := by decide +kernel
theorem dM_liesIn_2 : decode cM_liesIn 2 = .ok (.iload_n 3, 1) := by decide +kernel
theorem dM_liesIn_3 : decode cM_liesIn 3 = .ok (.ifCond .eq 17, 3) := by decide +kernel
theorem dM_liesIn_6 : decode cM_liesIn 6 = .ok (.iload_n 3, 1) := by decide +kernel
theorem dM_liesIn_7 : decode cM_liesIn 7 = .ok (.iload_n 2, 1) := by decide +kernel
theorem dM_liesIn_8 : decode cM_liesIn 8 = .ok (.if_icmp .eq 12, 3) := by decide +kernel
theorem dM_liesIn_11 : decode cM_liesIn 11 = .ok (.aload_n 0, 1) := by decide +kernel
theorem dM_liesIn_12 : decode cM_liesIn 12 = .ok (.iload_n 3, 1) := by decide +kernel
theorem dM_liesIn_13 : decode cM_liesIn 13 = .ok (.invokevirtual 51, 3) := by decide +kernel
theorem dM_liesIn_16 : decode cM_liesIn 16 = .ok (.istore_n 3, 1) := by decide +kernel
theorem dM_liesIn_17 : decode cM_liesIn 17 = .ok (.goto (-15), 3) := by decide +kernel
theorem dM_liesIn_20 : decode cM_liesIn 20 = .ok (.iload_n 3, 1) := by decide +kernel
theorem dM_liesIn_21 : decode cM_liesIn 21 = .ok (.iload_n 2, 1) := by decide +kernel
theorem dM_liesIn_22 : decode cM_liesIn 22 = .ok (.if_icmp .ne 7, 3) := by decide +kernel
theorem dM_liesIn_25 : decode cM_liesIn 25 = .ok (.iconst 1, 1) := by decide +kernel
theorem dM_liesIn_26 : decode cM_liesIn 26 = .ok (.goto 4, 3) := by decide +kernel
theorem dM_liesIn_29 : decode cM_liesIn 29 = .ok (.iconst 0, 1) := by decide +kernel
theorem dM_liesIn_30 : decode cM_liesIn 30 = .ok (.ireturn, 1) := by decide +kernel
theorem dM_hostOf_0 : decode cM_hostOf 0 = .ok (.iconst 0, 1) := by decide +kernel
theorem dM_hostOf_1 : decode cM_hostOf 1 = .ok (.istore_n 2, 1) := by decide +kernel
theorem dM_hostOf_2 : decode cM_hostOf 2 = .ok (.iload_n 2, 1) := by decide +kernel
theorem dM_hostOf_3 : decode cM_hostOf 3 = .ok (.aload_n 0, 1) := by decide +kernel
theorem dM_hostOf_4 : decode cM_hostOf 4 = .ok (.getfield 48, 3) := by decide +kernel
theorem dM_hostOf_7 : decode cM_hostOf 7 = .ok (.if_icmp .ge 35, 3) := by decide +kernel
theorem dM_hostOf_10 : decode cM_hostOf 10 = .ok (.aload_n 0, 1) := by decide +kernel
theorem dM_hostOf_11 : decode cM_hostOf 11 = .ok (.getfield 26, 3) := by decide +kernel
theorem dM_hostOf_14 : decode cM_hostOf 14 = .ok (.iload_n 2, 1) := by decide +kernel
theorem dM_hostOf_15 : decode cM_hostOf 15 = .ok (.iaload, 1) := by decide +kernel
theorem dM_hostOf_16 : decode cM_hostOf 16 = .ok (.iload_n 1, 1) := by decide +kernel
theorem dM_hostOf_17 : decode cM_hostOf 17 = .ok (.if_icmp .ne 19, 3) := by decide +kernel
theorem dM_hostOf_20 : decode cM_hostOf 20 = .ok (.aload_n 0, 1) := by decide +kernel
theorem dM_hostOf_21 : decode cM_hostOf 21 = .ok (.getfield 29, 3) := by decide +kernel
theorem dM_hostOf_24 : decode cM_hostOf 24 = .ok (.iload_n 2, 1) := by decide +kernel
theorem dM_hostOf_25 : decode cM_hostOf 25 = .ok (.iaload, 1) := by decide +kernel
theorem dM_hostOf_26 : decode cM_hostOf 26 = .ok (.ifCond .ne 10, 3) := by decide +kernel
theorem dM_hostOf_29 : decode cM_hostOf 29 = .ok (.aload_n 0, 1) := by decide +kernel
theorem dM_hostOf_30 : decode cM_hostOf 30 = .ok (.getfield 32, 3) := by decide +kernel
theorem dM_hostOf_33 : decode cM_hostOf 33 = .ok (.iload_n 2, 1) := by decide +kernel
theorem dM_hostOf_34 : decode cM_hostOf 34 = .ok (.iaload, 1) := by decide +kernel
theorem dM_hostOf_35 : decode cM_hostOf 35 = .ok (.ireturn, 1) := by decide +kernel
theorem dM_hostOf_36 : decode cM_hostOf 36 = .ok (.iinc 2 1, 3) := by decide +kernel
theorem dM_hostOf_39 : decode cM_hostOf 39 = .ok (.goto (-37), 3) := by decide +kernel
theorem dM_hostOf_42 : decode cM_hostOf 42 = .ok (.iconst 0, 1) := by decide +kernel
theorem dM_hostOf_43 : decode cM_hostOf 43 = .ok (.ireturn, 1) := by decide +kernel
theorem dM_changed_0 : decode cM_changed 0 = .ok (.aload_n 0, 1) := by decide +kernel
theorem dM_changed_1 : decode cM_changed 1 = .ok (.getfield 23, 3) := by decide +kernel
theorem dM_changed_4 : decode cM_changed 4 = .ok (.iload_n 1, 1) := by decide +kernel
theorem dM_changed_5 : decode cM_changed 5 = .ok (.iaload, 1) := by decide +kernel
theorem dM_changed_6 : decode cM_changed 6 = .ok (.ifCond .le 40, 3) := by decide +kernel
theorem dM_changed_9 : decode cM_changed 9 = .ok (.aload_n 0, 1) := by decide +kernel
theorem dM_changed_10 : decode cM_changed 10 = .ok (.getfield 23, 3) := by decide +kernel
theorem dM_changed_13 : decode cM_changed 13 = .ok (.iload_n 1, 1) := by decide +kernel
theorem dM_changed_14 : decode cM_changed 14 = .ok (.iaload, 1) := by decide +kernel
theorem dM_changed_15 : decode cM_changed 15 = .ok (.bipush 41, 2) := by decide +kernel
theorem dM_changed_17 : decode cM_changed 17 = .ok (.if_icmp .ge 29, 3) := by decide +kernel
theorem dM_changed_20 : decode cM_changed 20 = .ok (.aload_n 0, 1) := by decide +kernel
theorem dM_changed_21 : decode cM_changed 21 = .ok (.getfield 20, 3) := by decide +kernel
theorem dM_changed_24 : decode cM_changed 24 = .ok (.bipush 40, 2) := by decide +kernel
theorem dM_changed_26 : decode cM_changed 26 = .ok (.iload_n 1, 1) := by decide +kernel
theorem dM_changed_27 : decode cM_changed 27 = .ok (.imul, 1) := by decide +kernel
theorem dM_changed_28 : decode cM_changed 28 = .ok (.aload_n 0, 1) := by decide +kernel
theorem dM_changed_29 : decode cM_changed 29 = .ok (.getfield 23, 3) := by decide +kernel
theorem dM_changed_32 : decode cM_changed 32 = .ok (.iload_n 1, 1) := by decide +kernel
theorem dM_changed_33 : decode cM_changed 33 = .ok (.iaload, 1) := by decide +kernel
theorem dM_changed_34 : decode cM_changed 34 = .ok (.iadd, 1) := by decide +kernel
theorem dM_changed_35 : decode cM_changed 35 = .ok (.iconst 1, 1) := by decide +kernel
theorem dM_changed_36 : decode cM_changed 36 = .ok (.isub, 1) := by decide +kernel
theorem dM_changed_37 : decode cM_changed 37 = .ok (.iaload, 1) := by decide +kernel
theorem dM_changed_38 : decode cM_changed 38 = .ok (.aload_n 0, 1) := by decide +kernel
theorem dM_changed_39 : decode cM_changed 39 = .ok (.getfield 45, 3) := by decide +kernel
theorem dM_changed_42 : decode cM_changed 42 = .ok (.if_icmp .ne 4, 3) := by decide +kernel
theorem dM_changed_45 : decode cM_changed 45 = .ok (.return_, 1) := by decide +kernel
theorem dM_changed_46 : decode cM_changed 46 = .ok (.aload_n 0, 1) := by decide +kernel
theorem dM_changed_47 : decode cM_changed 47 = .ok (.getfield 23, 3) := by decide +kernel
theorem dM_changed_50 : decode cM_changed 50 = .ok (.iload_n 1, 1) := by decide +kernel
theorem dM_changed_51 : decode cM_changed 51 = .ok (.iaload, 1) := by decide +kernel
theorem dM_changed_52 : decode cM_changed 52 = .ok (.bipush 40, 2) := by decide +kernel
theorem dM_changed_54 : decode cM_changed 54 = .ok (.if_icmp .ge 33, 3) := by decide +kernel
theorem dM_changed_57 : decode cM_changed 57 = .ok (.aload_n 0, 1) := by decide +kernel
theorem dM_changed_58 : decode cM_changed 58 = .ok (.getfield 20, 3) := by decide +kernel
theorem dM_changed_61 : decode cM_changed 61 = .ok (.bipush 40, 2) := by decide +kernel
theorem dM_changed_63 : decode cM_changed 63 = .ok (.iload_n 1, 1) := by decide +kernel
theorem dM_changed_64 : decode cM_changed 64 = .ok (.imul, 1) := by decide +kernel
theorem dM_changed_65 : decode cM_changed 65 = .ok (.aload_n 0, 1) := by decide +kernel
theorem dM_changed_66 : decode cM_changed 66 = .ok (.getfield 23, 3) := by decide +kernel
theorem dM_changed_69 : decode cM_changed 69 = .ok (.iload_n 1, 1) := by decide +kernel
theorem dM_changed_70 : decode cM_changed 70 = .ok (.iaload, 1) := by decide +kernel
theorem dM_changed_71 : decode cM_changed 71 = .ok (.iadd, 1) := by decide +kernel
theorem dM_changed_72 : decode cM_changed 72 = .ok (.aload_n 0, 1) := by decide +kernel
theorem dM_changed_73 : decode cM_changed 73 = .ok (.getfield 45, 3) := by decide +kernel
theorem dM_changed_76 : decode cM_changed 76 = .ok (.iastore, 1) := by decide +kernel
theorem dM_changed_77 : decode cM_changed 77 = .ok (.aload_n 0, 1) := by decide +kernel
theorem dM_changed_78 : decode cM_changed 78 = .ok (.getfield 23, 3) := by decide +kernel
theorem dM_changed_81 : decode cM_changed 81 = .ok (.iload_n 1, 1) := by decide +kernel
theorem dM_changed_82 : decode cM_changed 82 = .ok (.dup2, 1) := by decide +kernel
theorem dM_changed_83 : decode cM_changed 83 = .ok (.iaload, 1) := by decide +kernel
theorem dM_changed_84 : decode cM_changed 84 = .ok (.iconst 1, 1) := by decide +kernel
theorem dM_changed_85 : decode cM_changed 85 = .ok (.iadd, 1) := by decide +kernel
theorem dM_changed_86 : decode cM_changed 86 = .ok (.iastore, 1) := by decide +kernel
theorem dM_changed_87 : decode cM_changed 87 = .ok (.return_, 1) := by decide +kernel
theorem dM_change_0 : decode cM_change 0 = .ok (.aload_n 0, 1) := by decide +kernel
theorem dM_change_1 : decode cM_change 1 = .ok (.iconst 0, 1) := by decide +kernel
theorem dM_change_2 : decode cM_change 2 = .ok (.putfield 38, 3) := by decide +kernel
theorem dM_change_5 : decode cM_change 5 = .ok (.aload_n 0, 1) := by decide +kernel
theorem dM_change_6 : decode cM_change 6 = .ok (.dup, 1) := by decide +kernel
theorem dM_change_7 : decode cM_change 7 = .ok (.getfield 45, 3) := by decide +kernel
theorem dM_change_10 : decode cM_change 10 = .ok (.iconst 1, 1) := by decide +kernel
theorem dM_change_11 : decode cM_change 11 = .ok (.iadd, 1) := by decide +kernel
theorem dM_change_12 : decode cM_change 12 = .ok (.putfield 45, 3) := by decide +kernel
theorem dM_change_15 : decode cM_change 15 = .ok (.iload_n 1, 1) := by decide +kernel
theorem dM_change_16 : decode cM_change 16 = .ok (.invokestatic 59, 3) := by decide +kernel
theorem dM_change_19 : decode cM_change 19 = .ok (.ifCond .eq 15, 3) := by decide +kernel
theorem dM_change_22 : decode cM_change 22 = .ok (.iload_n 2, 1) := by decide +kernel
theorem dM_change_23 : decode cM_change 23 = .ok (.invokestatic 59, 3) := by decide +kernel
theorem dM_change_26 : decode cM_change 26 = .ok (.ifCond .eq 8, 3) := by decide +kernel
theorem dM_change_29 : decode cM_change 29 = .ok (.iload_n 1, 1) := by decide +kernel
theorem dM_change_30 : decode cM_change 30 = .ok (.iload_n 2, 1) := by decide +kernel
theorem dM_change_31 : decode cM_change 31 = .ok (.if_icmp .ne 5, 3) := by decide +kernel
theorem dM_change_34 : decode cM_change 34 = .ok (.iconst 0, 1) := by decide +kernel
theorem dM_change_35 : decode cM_change 35 = .ok (.ireturn, 1) := by decide +kernel
theorem dM_change_36 : decode cM_change 36 = .ok (.iconst 0, 1) := by decide +kernel
theorem dM_change_37 : decode cM_change 37 = .ok (.istore_n 3, 1) := by decide +kernel
theorem dM_change_38 : decode cM_change 38 = .ok (.iconst 0, 1) := by decide +kernel
theorem dM_change_39 : decode cM_change 39 = .ok (.istore 4, 2) := by decide +kernel
theorem dM_change_41 : decode cM_change 41 = .ok (.iload 4, 2) := by decide +kernel
theorem dM_change_43 : decode cM_change 43 = .ok (.aload_n 0, 1) := by decide +kernel
theorem dM_change_44 : decode cM_change 44 = .ok (.getfield 48, 3) := by decide +kernel
theorem dM_change_47 : decode cM_change 47 = .ok (.if_icmp .ge 131, 3) := by decide +kernel
theorem dM_change_50 : decode cM_change 50 = .ok (.iconst 1, 1) := by decide +kernel
theorem dM_change_51 : decode cM_change 51 = .ok (.istore 5, 2) := by decide +kernel
theorem dM_change_53 : decode cM_change 53 = .ok (.aload_n 0, 1) := by decide +kernel
theorem dM_change_54 : decode cM_change 54 = .ok (.getfield 29, 3) := by decide +kernel
theorem dM_change_57 : decode cM_change 57 = .ok (.iload 4, 2) := by decide +kernel
theorem dM_change_59 : decode cM_change 59 = .ok (.iaload, 1) := by decide +kernel
theorem dM_change_60 : decode cM_change 60 = .ok (.iconst 3, 1) := by decide +kernel
theorem dM_change_61 : decode cM_change 61 = .ok (.if_icmp .le 99, 3) := by decide +kernel
theorem dM_change_64 : decode cM_change 64 = .ok (.aload_n 0, 1) := by decide +kernel
theorem dM_change_65 : decode cM_change 65 = .ok (.getfield 32, 3) := by decide +kernel
theorem dM_change_68 : decode cM_change 68 = .ok (.iload 4, 2) := by decide +kernel
theorem dM_change_70 : decode cM_change 70 = .ok (.iaload, 1) := by decide +kernel
theorem dM_change_71 : decode cM_change 71 = .ok (.iload_n 1, 1) := by decide +kernel
theorem dM_change_72 : decode cM_change 72 = .ok (.if_icmp .ne 88, 3) := by decide +kernel
theorem dM_change_75 : decode cM_change 75 = .ok (.iinc 3 1, 3) := by decide +kernel
theorem dM_change_78 : decode cM_change 78 = .ok (.aload_n 0, 1) := by decide +kernel
theorem dM_change_79 : decode cM_change 79 = .ok (.aload_n 0, 1) := by decide +kernel
theorem dM_change_80 : decode cM_change 80 = .ok (.getfield 26, 3) := by decide +kernel
theorem dM_change_83 : decode cM_change 83 = .ok (.iload 4, 2) := by decide +kernel
theorem dM_change_85 : decode cM_change 85 = .ok (.iaload, 1) := by decide +kernel
theorem dM_change_86 : decode cM_change 86 = .ok (.invokevirtual 80, 3) := by decide +kernel
theorem dM_change_89 : decode cM_change 89 = .ok (.aload_n 0, 1) := by decide +kernel
theorem dM_change_90 : decode cM_change 90 = .ok (.aload_n 0, 1) := by decide +kernel
theorem dM_change_91 : decode cM_change 91 = .ok (.getfield 26, 3) := by decide +kernel
theorem dM_change_94 : decode cM_change 94 = .ok (.iload 4, 2) := by decide +kernel
theorem dM_change_96 : decode cM_change 96 = .ok (.iaload, 1) := by decide +kernel
theorem dM_change_97 : decode cM_change 97 = .ok (.aload_n 0, 1) := by decide +kernel
theorem dM_change_98 : decode cM_change 98 = .ok (.getfield 29, 3) := by decide +kernel
theorem dM_change_101 : decode cM_change 101 = .ok (.iload 4, 2) := by decide +kernel
theorem dM_change_103 : decode cM_change 103 = .ok (.iaload, 1) := by decide +kernel
theorem dM_change_104 : decode cM_change 104 = .ok (.iload_n 2, 1) := by decide +kernel
theorem dM_change_105 : decode cM_change 105 = .ok (.invokevirtual 69, 3) := by decide +kernel
theorem dM_change_108 : decode cM_change 108 = .ok (.istore 6, 2) := by decide +kernel
theorem dM_change_110 : decode cM_change 110 = .ok (.iload 6, 2) := by decide +kernel
theorem dM_change_112 : decode cM_change 112 = .ok (.iconst (-1), 1) := by decide +kernel
theorem dM_change_113 : decode cM_change 113 = .ok (.if_icmp .ne 14, 3) := by decide +kernel
theorem dM_change_116 : decode cM_change 116 = .ok (.aload_n 0, 1) := by decide +kernel
theorem dM_change_117 : decode cM_change 117 = .ok (.getfield 32, 3) := by decide +kernel
theorem dM_change_120 : decode cM_change 120 = .ok (.iload 4, 2) := by decide +kernel
theorem dM_change_122 : decode cM_change 122 = .ok (.iload_n 2, 1) := by decide +kernel
theorem dM_change_123 : decode cM_change 123 = .ok (.iastore, 1) := by decide +kernel
theorem dM_change_124 : decode cM_change 124 = .ok (.goto 36, 3) := by decide +kernel
theorem dM_change_127 : decode cM_change 127 = .ok (.iload 6, 2) := by decide +kernel
theorem dM_change_129 : decode cM_change 129 = .ok (.iload 4, 2) := by decide +kernel
theorem dM_change_131 : decode cM_change 131 = .ok (.if_icmp .ge 15, 3) := by decide +kernel
theorem dM_change_134 : decode cM_change 134 = .ok (.aload_n 0, 1) := by decide +kernel
theorem dM_change_135 : decode cM_change 135 = .ok (.iload 4, 2) := by decide +kernel
theorem dM_change_137 : decode cM_change 137 = .ok (.invokevirtual 84, 3) := by decide +kernel
theorem dM_change_140 : decode cM_change 140 = .ok (.iconst 0, 1) := by decide +kernel
theorem dM_change_141 : decode cM_change 141 = .ok (.istore 5, 2) := by decide +kernel
theorem dM_change_143 : decode cM_change 143 = .ok (.goto 17, 3) := by decide +kernel
theorem dM_change_146 : decode cM_change 146 = .ok (.aload_n 0, 1) := by decide +kernel
theorem dM_change_147 : decode cM_change 147 = .ok (.getfield 32, 3) := by decide +kernel
theorem dM_change_150 : decode cM_change 150 = .ok (.iload 4, 2) := by decide +kernel
theorem dM_change_152 : decode cM_change 152 = .ok (.iload_n 2, 1) := by decide +kernel
theorem dM_change_153 : decode cM_change 153 = .ok (.iastore, 1) := by decide +kernel
theorem dM_change_154 : decode cM_change 154 = .ok (.aload_n 0, 1) := by decide +kernel
theorem dM_change_155 : decode cM_change 155 = .ok (.iload 6, 2) := by decide +kernel
theorem dM_change_157 : decode cM_change 157 = .ok (.invokevirtual 84, 3) := by decide +kernel
theorem dM_change_160 : decode cM_change 160 = .ok (.iload 4, 2) := by decide +kernel
theorem dM_change_162 : decode cM_change 162 = .ok (.iload 5, 2) := by decide +kernel
theorem dM_change_164 : decode cM_change 164 = .ok (.ifCond .eq 7, 3) := by decide +kernel
theorem dM_change_167 : decode cM_change 167 = .ok (.iconst 1, 1) := by decide +kernel
theorem dM_change_168 : decode cM_change 168 = .ok (.goto 4, 3) := by decide +kernel
theorem dM_change_171 : decode cM_change 171 = .ok (.iconst 0, 1) := by decide +kernel
theorem dM_change_172 : decode cM_change 172 = .ok (.iadd, 1) := by decide +kernel
theorem dM_change_173 : decode cM_change 173 = .ok (.istore 4, 2) := by decide +kernel
theorem dM_change_175 : decode cM_change 175 = .ok (.goto (-134), 3) := by decide +kernel
theorem dM_change_178 : decode cM_change 178 = .ok (.iload_n 3, 1) := by decide +kernel
theorem dM_change_179 : decode cM_change 179 = .ok (.ireturn, 1) := by decide +kernel
theorem dM_drop_0 : decode cM_drop 0 = .ok (.aload_n 0, 1) := by decide +kernel
theorem dM_drop_1 : decode cM_drop 1 = .ok (.dup, 1) := by decide +kernel
theorem dM_drop_2 : decode cM_drop 2 = .ok (.getfield 48, 3) := by decide +kernel
theorem dM_drop_5 : decode cM_drop 5 = .ok (.iconst 1, 1) := by decide +kernel
theorem dM_drop_6 : decode cM_drop 6 = .ok (.isub, 1) := by decide +kernel
theorem dM_drop_7 : decode cM_drop 7 = .ok (.putfield 48, 3) := by decide +kernel
theorem dM_drop_10 : decode cM_drop 10 = .ok (.iload_n 1, 1) := by decide +kernel
theorem dM_drop_11 : decode cM_drop 11 = .ok (.istore_n 2, 1) := by decide +kernel
theorem dM_drop_12 : decode cM_drop 12 = .ok (.iload_n 2, 1) := by decide +kernel
theorem dM_drop_13 : decode cM_drop 13 = .ok (.aload_n 0, 1) := by decide +kernel
theorem dM_drop_14 : decode cM_drop 14 = .ok (.getfield 48, 3) := by decide +kernel
theorem dM_drop_17 : decode cM_drop 17 = .ok (.if_icmp .ge 51, 3) := by decide +kernel
theorem dM_drop_20 : decode cM_drop 20 = .ok (.aload_n 0, 1) := by decide +kernel
theorem dM_drop_21 : decode cM_drop 21 = .ok (.getfield 26, 3) := by decide +kernel
theorem dM_drop_24 : decode cM_drop 24 = .ok (.iload_n 2, 1) := by decide +kernel
theorem dM_drop_25 : decode cM_drop 25 = .ok (.aload_n 0, 1) := by decide +kernel
theorem dM_drop_26 : decode cM_drop 26 = .ok (.getfield 26, 3) := by decide +kernel
theorem dM_drop_29 : decode cM_drop 29 = .ok (.iload_n 2, 1) := by decide +kernel
theorem dM_drop_30 : decode cM_drop 30 = .ok (.iconst 1, 1) := by decide +kernel
theorem dM_drop_31 : decode cM_drop 31 = .ok (.iadd, 1) := by decide +kernel
theorem dM_drop_32 : decode cM_drop 32 = .ok (.iaload, 1) := by decide +kernel
theorem dM_drop_33 : decode cM_drop 33 = .ok (.iastore, 1) := by decide +kernel
theorem dM_drop_34 : decode cM_drop 34 = .ok (.aload_n 0, 1) := by decide +kernel
theorem dM_drop_35 : decode cM_drop 35 = .ok (.getfield 29, 3) := by decide +kernel
theorem dM_drop_38 : decode cM_drop 38 = .ok (.iload_n 2, 1) := by decide +kernel
theorem dM_drop_39 : decode cM_drop 39 = .ok (.aload_n 0, 1) := by decide +kernel
theorem dM_drop_40 : decode cM_drop 40 = .ok (.getfield 29, 3) := by decide +kernel
theorem dM_drop_43 : decode cM_drop 43 = .ok (.iload_n 2, 1) := by decide +kernel
theorem dM_drop_44 : decode cM_drop 44 = .ok (.iconst 1, 1) := by decide +kernel
theorem dM_drop_45 : decode cM_drop 45 = .ok (.iadd, 1) := by decide +kernel
theorem dM_drop_46 : decode cM_drop 46 = .ok (.iaload, 1) := by decide +kernel
theorem dM_drop_47 : decode cM_drop 47 = .ok (.iastore, 1) := by decide +kernel
theorem dM_drop_48 : decode cM_drop 48 = .ok (.aload_n 0, 1) := by decide +kernel
theorem dM_drop_49 : decode cM_drop 49 = .ok (.getfield 32, 3) := by decide +kernel
theorem dM_drop_52 : decode cM_drop 52 = .ok (.iload_n 2, 1) := by decide +kernel
theorem dM_drop_53 : decode cM_drop 53 = .ok (.aload_n 0, 1) := by decide +kernel
theorem dM_drop_54 : decode cM_drop 54 = .ok (.getfield 32, 3) := by decide +kernel
theorem dM_drop_57 : decode cM_drop 57 = .ok (.iload_n 2, 1) := by decide +kernel
theorem dM_drop_58 : decode cM_drop 58 = .ok (.iconst 1, 1) := by decide +kernel
theorem dM_drop_59 : decode cM_drop 59 = .ok (.iadd, 1) := by decide +kernel
theorem dM_drop_60 : decode cM_drop 60 = .ok (.iaload, 1) := by decide +kernel
theorem dM_drop_61 : decode cM_drop 61 = .ok (.iastore, 1) := by decide +kernel
theorem dM_drop_62 : decode cM_drop 62 = .ok (.iinc 2 1, 3) := by decide +kernel
theorem dM_drop_65 : decode cM_drop 65 = .ok (.goto (-53), 3) := by decide +kernel
theorem dM_drop_68 : decode cM_drop 68 = .ok (.return_, 1) := by decide +kernel
theorem dM_broken_0 : decode cM_broken 0 = .ok (.aload_n 0, 1) := by decide +kernel
theorem dM_broken_1 : decode cM_broken 1 = .ok (.iconst 0, 1) := by decide +kernel
theorem dM_broken_2 : decode cM_broken 2 = .ok (.putfield 38, 3) := by decide +kernel
theorem dM_broken_5 : decode cM_broken 5 = .ok (.aload_n 0, 1) := by decide +kernel
theorem dM_broken_6 : decode cM_broken 6 = .ok (.iload_n 1, 1) := by decide +kernel
theorem dM_broken_7 : decode cM_broken 7 = .ok (.invokevirtual 90, 3) := by decide +kernel
theorem dM_broken_10 : decode cM_broken 10 = .ok (.istore_n 3, 1) := by decide +kernel
theorem dM_broken_11 : decode cM_broken 11 = .ok (.iload_n 3, 1) := by decide +kernel
theorem dM_broken_12 : decode cM_broken 12 = .ok (.iconst (-1), 1) := by decide +kernel
theorem dM_broken_13 : decode cM_broken 13 = .ok (.if_icmp .ne 7, 3) := by decide +kernel
theorem dM_broken_16 : decode cM_broken 16 = .ok (.iconst (-1), 1) := by decide +kernel
theorem dM_broken_17 : decode cM_broken 17 = .ok (.goto 45, 3) := by decide +kernel
theorem dM_broken_20 : decode cM_broken 20 = .ok (.iload_n 2, 1) := by decide +kernel
theorem dM_broken_21 : decode cM_broken 21 = .ok (.ifCond .ne 12, 3) := by decide +kernel
theorem dM_broken_24 : decode cM_broken 24 = .ok (.aload_n 0, 1) := by decide +kernel
theorem dM_broken_25 : decode cM_broken 25 = .ok (.getfield 26, 3) := by decide +kernel
theorem dM_broken_28 : decode cM_broken 28 = .ok (.iload_n 3, 1) := by decide +kernel
theorem dM_broken_29 : decode cM_broken 29 = .ok (.iaload, 1) := by decide +kernel
theorem dM_broken_30 : decode cM_broken 30 = .ok (.goto 32, 3) := by decide +kernel
theorem dM_broken_33 : decode cM_broken 33 = .ok (.iload_n 2, 1) := by decide +kernel
theorem dM_broken_34 : decode cM_broken 34 = .ok (.iconst 1, 1) := by decide +kernel
theorem dM_broken_35 : decode cM_broken 35 = .ok (.if_icmp .ne 12, 3) := by decide +kernel
theorem dM_broken_38 : decode cM_broken 38 = .ok (.aload_n 0, 1) := by decide +kernel
theorem dM_broken_39 : decode cM_broken 39 = .ok (.getfield 29, 3) := by decide +kernel
theorem dM_broken_42 : decode cM_broken 42 = .ok (.iload_n 3, 1) := by decide +kernel
theorem dM_broken_43 : decode cM_broken 43 = .ok (.iaload, 1) := by decide +kernel
theorem dM_broken_44 : decode cM_broken 44 = .ok (.goto 18, 3) := by decide +kernel
theorem dM_broken_47 : decode cM_broken 47 = .ok (.iload_n 2, 1) := by decide +kernel
theorem dM_broken_48 : decode cM_broken 48 = .ok (.iconst 2, 1) := by decide +kernel
theorem dM_broken_49 : decode cM_broken 49 = .ok (.if_icmp .ne 12, 3) := by decide +kernel
theorem dM_broken_52 : decode cM_broken 52 = .ok (.aload_n 0, 1) := by decide +kernel
theorem dM_broken_53 : decode cM_broken 53 = .ok (.getfield 32, 3) := by decide +kernel
theorem dM_broken_56 : decode cM_broken 56 = .ok (.iload_n 3, 1) := by decide +kernel
theorem dM_broken_57 : decode cM_broken 57 = .ok (.iaload, 1) := by decide +kernel
theorem dM_broken_58 : decode cM_broken 58 = .ok (.goto 4, 3) := by decide +kernel
theorem dM_broken_61 : decode cM_broken 61 = .ok (.iconst (-1), 1) := by decide +kernel
theorem dM_broken_62 : decode cM_broken 62 = .ok (.ireturn, 1) := by decide +kernel
theorem dM_brokenAt_0 : decode cM_brokenAt 0 = .ok (.iconst 0, 1) := by decide +kernel
theorem dM_brokenAt_1 : decode cM_brokenAt 1 = .ok (.istore_n 2, 1) := by decide +kernel
theorem dM_brokenAt_2 : decode cM_brokenAt 2 = .ok (.iconst 0, 1) := by decide +kernel
theorem dM_brokenAt_3 : decode cM_brokenAt 3 = .ok (.istore_n 3, 1) := by decide +kernel
theorem dM_brokenAt_4 : decode cM_brokenAt 4 = .ok (.iload_n 3, 1) := by decide +kernel
theorem dM_brokenAt_5 : decode cM_brokenAt 5 = .ok (.aload_n 0, 1) := by decide +kernel
theorem dM_brokenAt_6 : decode cM_brokenAt 6 = .ok (.getfield 48, 3) := by decide +kernel
theorem dM_brokenAt_9 : decode cM_brokenAt 9 = .ok (.if_icmp .ge 31, 3) := by decide +kernel
theorem dM_brokenAt_12 : decode cM_brokenAt 12 = .ok (.iload_n 1, 1) := by decide +kernel
theorem dM_brokenAt_13 : decode cM_brokenAt 13 = .ok (.ifCond .lt 27, 3) := by decide +kernel
theorem dM_brokenAt_16 : decode cM_brokenAt 16 = .ok (.aload_n 0, 1) := by decide +kernel
theorem dM_brokenAt_17 : decode cM_brokenAt 17 = .ok (.iload_n 3, 1) := by decide +kernel
theorem dM_brokenAt_18 : decode cM_brokenAt 18 = .ok (.invokevirtual 87, 3) := by decide +kernel
theorem dM_brokenAt_21 : decode cM_brokenAt 21 = .ok (.ifCond .eq 13, 3) := by decide +kernel
theorem dM_brokenAt_24 : decode cM_brokenAt 24 = .ok (.iload_n 2, 1) := by decide +kernel
theorem dM_brokenAt_25 : decode cM_brokenAt 25 = .ok (.iload_n 1, 1) := by decide +kernel
theorem dM_brokenAt_26 : decode cM_brokenAt 26 = .ok (.if_icmp .ne 5, 3) := by decide +kernel
theorem dM_brokenAt_29 : decode cM_brokenAt 29 = .ok (.iload_n 3, 1) := by decide +kernel
theorem dM_brokenAt_30 : decode cM_brokenAt 30 = .ok (.ireturn, 1) := by decide +kernel
theorem dM_brokenAt_31 : decode cM_brokenAt 31 = .ok (.iinc 2 1, 3) := by decide +kernel
theorem dM_brokenAt_34 : decode cM_brokenAt 34 = .ok (.iinc 3 1, 3) := by decide +kernel
theorem dM_brokenAt_37 : decode cM_brokenAt 37 = .ok (.goto (-33), 3) := by decide +kernel
theorem dM_brokenAt_40 : decode cM_brokenAt 40 = .ok (.iconst (-1), 1) := by decide +kernel
theorem dM_brokenAt_41 : decode cM_brokenAt 41 = .ok (.ireturn, 1) := by decide +kernel
theorem dM_isBroken_0 : decode cM_isBroken 0 = .ok (.aload_n 0, 1) := by decide +kernel
theorem dM_isBroken_1 : decode cM_isBroken 1 = .ok (.getfield 29, 3) := by decide +kernel
theorem dM_isBroken_4 : decode cM_isBroken 4 = .ok (.iload_n 1, 1) := by decide +kernel
theorem dM_isBroken_5 : decode cM_isBroken 5 = .ok (.iaload, 1) := by decide +kernel
theorem dM_isBroken_6 : decode cM_isBroken 6 = .ok (.iconst 4, 1) := by decide +kernel
theorem dM_isBroken_7 : decode cM_isBroken 7 = .ok (.if_icmp .ge 21, 3) := by decide +kernel
theorem dM_isBroken_10 : decode cM_isBroken 10 = .ok (.aload_n 0, 1) := by decide +kernel
theorem dM_isBroken_11 : decode cM_isBroken 11 = .ok (.getfield 7, 3) := by decide +kernel
theorem dM_isBroken_14 : decode cM_isBroken 14 = .ok (.aload_n 0, 1) := by decide +kernel
theorem dM_isBroken_15 : decode cM_isBroken 15 = .ok (.getfield 32, 3) := by decide +kernel
theorem dM_isBroken_18 : decode cM_isBroken 18 = .ok (.iload_n 1, 1) := by decide +kernel
theorem dM_isBroken_19 : decode cM_isBroken 19 = .ok (.iaload, 1) := by decide +kernel
theorem dM_isBroken_20 : decode cM_isBroken 20 = .ok (.baload, 1) := by decide +kernel
theorem dM_isBroken_21 : decode cM_isBroken 21 = .ok (.ifCond .ne 7, 3) := by decide +kernel
theorem dM_isBroken_24 : decode cM_isBroken 24 = .ok (.iconst 1, 1) := by decide +kernel
theorem dM_isBroken_25 : decode cM_isBroken 25 = .ok (.goto 4, 3) := by decide +kernel
theorem dM_isBroken_28 : decode cM_isBroken 28 = .ok (.iconst 0, 1) := by decide +kernel
theorem dM_isBroken_29 : decode cM_isBroken 29 = .ok (.ireturn, 1) := by decide +kernel
theorem dM_repair_0 : decode cM_repair 0 = .ok (.aload_n 0, 1) := by decide +kernel
theorem dM_repair_1 : decode cM_repair 1 = .ok (.iconst 0, 1) := by decide +kernel
theorem dM_repair_2 : decode cM_repair 2 = .ok (.putfield 38, 3) := by decide +kernel
theorem dM_repair_5 : decode cM_repair 5 = .ok (.aload_n 0, 1) := by decide +kernel
theorem dM_repair_6 : decode cM_repair 6 = .ok (.dup, 1) := by decide +kernel
theorem dM_repair_7 : decode cM_repair 7 = .ok (.getfield 45, 3) := by decide +kernel
theorem dM_repair_10 : decode cM_repair 10 = .ok (.iconst 1, 1) := by decide +kernel
theorem dM_repair_11 : decode cM_repair 11 = .ok (.iadd, 1) := by decide +kernel
theorem dM_repair_12 : decode cM_repair 12 = .ok (.putfield 45, 3) := by decide +kernel
theorem dM_repair_15 : decode cM_repair 15 = .ok (.aload_n 0, 1) := by decide +kernel
theorem dM_repair_16 : decode cM_repair 16 = .ok (.iload_n 1, 1) := by decide +kernel
theorem dM_repair_17 : decode cM_repair 17 = .ok (.invokevirtual 90, 3) := by decide +kernel
theorem dM_repair_20 : decode cM_repair 20 = .ok (.istore_n 2, 1) := by decide +kernel
theorem dM_repair_21 : decode cM_repair 21 = .ok (.iload_n 2, 1) := by decide +kernel
theorem dM_repair_22 : decode cM_repair 22 = .ok (.iconst (-1), 1) := by decide +kernel
theorem dM_repair_23 : decode cM_repair 23 = .ok (.if_icmp .ne 5, 3) := by decide +kernel
theorem dM_repair_26 : decode cM_repair 26 = .ok (.iconst (-1), 1) := by decide +kernel
theorem dM_repair_27 : decode cM_repair 27 = .ok (.ireturn, 1) := by decide +kernel
theorem dM_repair_28 : decode cM_repair 28 = .ok (.aload_n 0, 1) := by decide +kernel
theorem dM_repair_29 : decode cM_repair 29 = .ok (.aload_n 0, 1) := by decide +kernel
theorem dM_repair_30 : decode cM_repair 30 = .ok (.getfield 26, 3) := by decide +kernel
theorem dM_repair_33 : decode cM_repair 33 = .ok (.iload_n 2, 1) := by decide +kernel
theorem dM_repair_34 : decode cM_repair 34 = .ok (.iaload, 1) := by decide +kernel
theorem dM_repair_35 : decode cM_repair 35 = .ok (.invokevirtual 80, 3) := by decide +kernel
theorem dM_repair_38 : decode cM_repair 38 = .ok (.aload_n 0, 1) := by decide +kernel
theorem dM_repair_39 : decode cM_repair 39 = .ok (.getfield 17, 3) := by decide +kernel
theorem dM_repair_42 : decode cM_repair 42 = .ok (.aload_n 0, 1) := by decide +kernel
theorem dM_repair_43 : decode cM_repair 43 = .ok (.getfield 32, 3) := by decide +kernel
theorem dM_repair_46 : decode cM_repair 46 = .ok (.iload_n 2, 1) := by decide +kernel
theorem dM_repair_47 : decode cM_repair 47 = .ok (.iaload, 1) := by decide +kernel
theorem dM_repair_48 : decode cM_repair 48 = .ok (.iaload, 1) := by decide +kernel
theorem dM_repair_49 : decode cM_repair 49 = .ok (.istore_n 3, 1) := by decide +kernel
theorem dM_repair_50 : decode cM_repair 50 = .ok (.aload_n 0, 1) := by decide +kernel
theorem dM_repair_51 : decode cM_repair 51 = .ok (.iload_n 3, 1) := by decide +kernel
theorem dM_repair_52 : decode cM_repair 52 = .ok (.invokevirtual 55, 3) := by decide +kernel
theorem dM_repair_55 : decode cM_repair 55 = .ok (.ifCond .eq 43, 3) := by decide +kernel
theorem dM_repair_58 : decode cM_repair 58 = .ok (.iload_n 3, 1) := by decide +kernel
theorem dM_repair_59 : decode cM_repair 59 = .ok (.aload_n 0, 1) := by decide +kernel
theorem dM_repair_60 : decode cM_repair 60 = .ok (.getfield 26, 3) := by decide +kernel
theorem dM_repair_63 : decode cM_repair 63 = .ok (.iload_n 2, 1) := by decide +kernel
theorem dM_repair_64 : decode cM_repair 64 = .ok (.iaload, 1) := by decide +kernel
theorem dM_repair_65 : decode cM_repair 65 = .ok (.if_icmp .eq 33, 3) := by decide +kernel
theorem dM_repair_68 : decode cM_repair 68 = .ok (.aload_n 0, 1) := by decide +kernel
theorem dM_repair_69 : decode cM_repair 69 = .ok (.aload_n 0, 1) := by decide +kernel
theorem dM_repair_70 : decode cM_repair 70 = .ok (.getfield 26, 3) := by decide +kernel
theorem dM_repair_73 : decode cM_repair 73 = .ok (.iload_n 2, 1) := by decide +kernel
theorem dM_repair_74 : decode cM_repair 74 = .ok (.iaload, 1) := by decide +kernel
theorem dM_repair_75 : decode cM_repair 75 = .ok (.aload_n 0, 1) := by decide +kernel
theorem dM_repair_76 : decode cM_repair 76 = .ok (.getfield 29, 3) := by decide +kernel
theorem dM_repair_79 : decode cM_repair 79 = .ok (.iload_n 2, 1) := by decide +kernel
theorem dM_repair_80 : decode cM_repair 80 = .ok (.iaload, 1) := by decide +kernel
theorem dM_repair_81 : decode cM_repair 81 = .ok (.iload_n 3, 1) := by decide +kernel
theorem dM_repair_82 : decode cM_repair 82 = .ok (.invokevirtual 69, 3) := by decide +kernel
theorem dM_repair_85 : decode cM_repair 85 = .ok (.iconst (-1), 1) := by decide +kernel
theorem dM_repair_86 : decode cM_repair 86 = .ok (.if_icmp .ne 12, 3) := by decide +kernel
theorem dM_repair_89 : decode cM_repair 89 = .ok (.aload_n 0, 1) := by decide +kernel
theorem dM_repair_90 : decode cM_repair 90 = .ok (.getfield 32, 3) := by decide +kernel
theorem dM_repair_93 : decode cM_repair 93 = .ok (.iload_n 2, 1) := by decide +kernel
theorem dM_repair_94 : decode cM_repair 94 = .ok (.iload_n 3, 1) := by decide +kernel
theorem dM_repair_95 : decode cM_repair 95 = .ok (.iastore, 1) := by decide +kernel
theorem dM_repair_96 : decode cM_repair 96 = .ok (.iconst 1, 1) := by decide +kernel
theorem dM_repair_97 : decode cM_repair 97 = .ok (.ireturn, 1) := by decide +kernel
theorem dM_repair_98 : decode cM_repair 98 = .ok (.aload_n 0, 1) := by decide +kernel
theorem dM_repair_99 : decode cM_repair 99 = .ok (.iload_n 2, 1) := by decide +kernel
theorem dM_repair_100 : decode cM_repair 100 = .ok (.invokevirtual 84, 3) := by decide +kernel
theorem dM_repair_103 : decode cM_repair 103 = .ok (.iconst 0, 1) := by decide +kernel
theorem dM_repair_104 : decode cM_repair 104 = .ok (.ireturn, 1) := by decide +kernel
theorem dM_chain_0 : decode cM_chain 0 = .ok (.aload_n 0, 1) := by decide +kernel
theorem dM_chain_1 : decode cM_chain 1 = .ok (.iconst 0, 1) := by decide +kernel
theorem dM_chain_2 : decode cM_chain 2 = .ok (.putfield 38, 3) := by decide +kernel
theorem dM_chain_5 : decode cM_chain 5 = .ok (.aload_n 0, 1) := by decide +kernel
theorem dM_chain_6 : decode cM_chain 6 = .ok (.iload_n 1, 1) := by decide +kernel
theorem dM_chain_7 : decode cM_chain 7 = .ok (.invokevirtual 55, 3) := by decide +kernel
theorem dM_chain_10 : decode cM_chain 10 = .ok (.ifCond .eq 7, 3) := by decide +kernel
theorem dM_chain_13 : decode cM_chain 13 = .ok (.iload_n 2, 1) := by decide +kernel
theorem dM_chain_14 : decode cM_chain 14 = .ok (.ifCond .ge 5, 3) := by decide +kernel
theorem dM_chain_17 : decode cM_chain 17 = .ok (.iconst 0, 1) := by decide +kernel
theorem dM_chain_18 : decode cM_chain 18 = .ok (.ireturn, 1) := by decide +kernel
theorem dM_chain_19 : decode cM_chain 19 = .ok (.aload_n 0, 1) := by decide +kernel
theorem dM_chain_20 : decode cM_chain 20 = .ok (.iload_n 1, 1) := by decide +kernel
theorem dM_chain_21 : decode cM_chain 21 = .ok (.invokevirtual 51, 3) := by decide +kernel
theorem dM_chain_24 : decode cM_chain 24 = .ok (.istore_n 3, 1) := by decide +kernel
theorem dM_chain_25 : decode cM_chain 25 = .ok (.iconst 0, 1) := by decide +kernel
theorem dM_chain_26 : decode cM_chain 26 = .ok (.istore 4, 2) := by decide +kernel
theorem dM_chain_28 : decode cM_chain 28 = .ok (.iload 4, 2) := by decide +kernel
theorem dM_chain_30 : decode cM_chain 30 = .ok (.iload_n 2, 1) := by decide +kernel
theorem dM_chain_31 : decode cM_chain 31 = .ok (.if_icmp .ge 19, 3) := by decide +kernel
theorem dM_chain_34 : decode cM_chain 34 = .ok (.iload_n 3, 1) := by decide +kernel
theorem dM_chain_35 : decode cM_chain 35 = .ok (.ifCond .eq 15, 3) := by decide +kernel
theorem dM_chain_38 : decode cM_chain 38 = .ok (.aload_n 0, 1) := by decide +kernel
theorem dM_chain_39 : decode cM_chain 39 = .ok (.iload_n 3, 1) := by decide +kernel
theorem dM_chain_40 : decode cM_chain 40 = .ok (.invokevirtual 51, 3) := by decide +kernel
theorem dM_chain_43 : decode cM_chain 43 = .ok (.istore_n 3, 1) := by decide +kernel
theorem dM_chain_44 : decode cM_chain 44 = .ok (.iinc 4 1, 3) := by decide +kernel
theorem dM_chain_47 : decode cM_chain 47 = .ok (.goto (-19), 3) := by decide +kernel
theorem dM_chain_50 : decode cM_chain 50 = .ok (.iload_n 3, 1) := by decide +kernel
theorem dM_chain_51 : decode cM_chain 51 = .ok (.ireturn, 1) := by decide +kernel
theorem dM_ring_0 : decode cM_ring 0 = .ok (.aload_n 0, 1) := by decide +kernel
theorem dM_ring_1 : decode cM_ring 1 = .ok (.iconst 0, 1) := by decide +kernel
theorem dM_ring_2 : decode cM_ring 2 = .ok (.putfield 38, 3) := by decide +kernel
theorem dM_ring_5 : decode cM_ring 5 = .ok (.iload_n 1, 1) := by decide +kernel
theorem dM_ring_6 : decode cM_ring 6 = .ok (.ifCond .lt 11, 3) := by decide +kernel
theorem dM_ring_9 : decode cM_ring 9 = .ok (.iload_n 1, 1) := by decide +kernel
theorem dM_ring_10 : decode cM_ring 10 = .ok (.aload_n 0, 1) := by decide +kernel
theorem dM_ring_11 : decode cM_ring 11 = .ok (.getfield 77, 3) := by decide +kernel
theorem dM_ring_14 : decode cM_ring 14 = .ok (.if_icmp .lt 7, 3) := by decide +kernel
theorem dM_ring_17 : decode cM_ring 17 = .ok (.iconst 0, 1) := by decide +kernel
theorem dM_ring_18 : decode cM_ring 18 = .ok (.goto 9, 3) := by decide +kernel
theorem dM_ring_21 : decode cM_ring 21 = .ok (.aload_n 0, 1) := by decide +kernel
theorem dM_ring_22 : decode cM_ring 22 = .ok (.getfield 35, 3) := by decide +kernel
theorem dM_ring_25 : decode cM_ring 25 = .ok (.iload_n 1, 1) := by decide +kernel
theorem dM_ring_26 : decode cM_ring 26 = .ok (.iaload, 1) := by decide +kernel
theorem dM_ring_27 : decode cM_ring 27 = .ok (.ireturn, 1) := by decide +kernel
theorem dM_host_0 : decode cM_host 0 = .ok (.aload_n 0, 1) := by decide +kernel
theorem dM_host_1 : decode cM_host 1 = .ok (.iconst 0, 1) := by decide +kernel
theorem dM_host_2 : decode cM_host 2 = .ok (.putfield 38, 3) := by decide +kernel
theorem dM_host_5 : decode cM_host 5 = .ok (.aload_n 0, 1) := by decide +kernel
theorem dM_host_6 : decode cM_host 6 = .ok (.iload_n 1, 1) := by decide +kernel
theorem dM_host_7 : decode cM_host 7 = .ok (.invokevirtual 55, 3) := by decide +kernel
theorem dM_host_10 : decode cM_host 10 = .ok (.ifCond .eq 11, 3) := by decide +kernel
theorem dM_host_13 : decode cM_host 13 = .ok (.aload_n 0, 1) := by decide +kernel
theorem dM_host_14 : decode cM_host 14 = .ok (.iload_n 1, 1) := by decide +kernel
theorem dM_host_15 : decode cM_host 15 = .ok (.invokevirtual 51, 3) := by decide +kernel
theorem dM_host_18 : decode cM_host 18 = .ok (.goto 4, 3) := by decide +kernel
theorem dM_host_21 : decode cM_host 21 = .ok (.iconst 0, 1) := by decide +kernel
theorem dM_host_22 : decode cM_host 22 = .ok (.ireturn, 1) := by decide +kernel
theorem dM_move_0 : decode cM_move 0 = .ok (.aload_n 0, 1) := by decide +kernel
theorem dM_move_1 : decode cM_move 1 = .ok (.iconst 0, 1) := by decide +kernel
theorem dM_move_2 : decode cM_move 2 = .ok (.putfield 38, 3) := by decide +kernel
theorem dM_move_5 : decode cM_move 5 = .ok (.aload_n 0, 1) := by decide +kernel
theorem dM_move_6 : decode cM_move 6 = .ok (.dup, 1) := by decide +kernel
theorem dM_move_7 : decode cM_move 7 = .ok (.getfield 45, 3) := by decide +kernel
theorem dM_move_10 : decode cM_move 10 = .ok (.iconst 1, 1) := by decide +kernel
theorem dM_move_11 : decode cM_move 11 = .ok (.iadd, 1) := by decide +kernel
theorem dM_move_12 : decode cM_move 12 = .ok (.putfield 45, 3) := by decide +kernel
theorem dM_move_15 : decode cM_move 15 = .ok (.aload_n 0, 1) := by decide +kernel
theorem dM_move_16 : decode cM_move 16 = .ok (.iload_n 1, 1) := by decide +kernel
theorem dM_move_17 : decode cM_move 17 = .ok (.invokevirtual 55, 3) := by decide +kernel
theorem dM_move_20 : decode cM_move 20 = .ok (.ifCond .eq 13, 3) := by decide +kernel
theorem dM_move_23 : decode cM_move 23 = .ok (.iload_n 2, 1) := by decide +kernel
theorem dM_move_24 : decode cM_move 24 = .ok (.ifCond .lt 9, 3) := by decide +kernel
theorem dM_move_27 : decode cM_move 27 = .ok (.iload_n 2, 1) := by decide +kernel
theorem dM_move_28 : decode cM_move 28 = .ok (.bipush 9, 2) := by decide +kernel
theorem dM_move_30 : decode cM_move 30 = .ok (.if_icmp .le 5, 3) := by decide +kernel
theorem dM_move_33 : decode cM_move 33 = .ok (.iconst 0, 1) := by decide +kernel
theorem dM_move_34 : decode cM_move 34 = .ok (.ireturn, 1) := by decide +kernel
theorem dM_move_35 : decode cM_move 35 = .ok (.iconst 0, 1) := by decide +kernel
theorem dM_move_36 : decode cM_move 36 = .ok (.istore_n 3, 1) := by decide +kernel
theorem dM_move_37 : decode cM_move 37 = .ok (.iconst 1, 1) := by decide +kernel
theorem dM_move_38 : decode cM_move 38 = .ok (.istore 4, 2) := by decide +kernel
theorem dM_move_40 : decode cM_move 40 = .ok (.iload 4, 2) := by decide +kernel
theorem dM_move_42 : decode cM_move 42 = .ok (.aload_n 0, 1) := by decide +kernel
theorem dM_move_43 : decode cM_move 43 = .ok (.getfield 42, 3) := by decide +kernel
theorem dM_move_46 : decode cM_move 46 = .ok (.if_icmp .gt 56, 3) := by decide +kernel
theorem dM_move_49 : decode cM_move 49 = .ok (.aload_n 0, 1) := by decide +kernel
theorem dM_move_50 : decode cM_move 50 = .ok (.getfield 7, 3) := by decide +kernel
theorem dM_move_53 : decode cM_move 53 = .ok (.iload 4, 2) := by decide +kernel
theorem dM_move_55 : decode cM_move 55 = .ok (.baload, 1) := by decide +kernel
theorem dM_move_56 : decode cM_move 56 = .ok (.ifCond .eq 40, 3) := by decide +kernel
theorem dM_move_59 : decode cM_move 59 = .ok (.aload_n 0, 1) := by decide +kernel
theorem dM_move_60 : decode cM_move 60 = .ok (.iload 4, 2) := by decide +kernel
theorem dM_move_62 : decode cM_move 62 = .ok (.iload_n 1, 1) := by decide +kernel
theorem dM_move_63 : decode cM_move 63 = .ok (.invokevirtual 73, 3) := by decide +kernel
theorem dM_move_66 : decode cM_move 66 = .ok (.ifCond .eq 30, 3) := by decide +kernel
theorem dM_move_69 : decode cM_move 69 = .ok (.iload_n 3, 1) := by decide +kernel
theorem dM_move_70 : decode cM_move 70 = .ok (.aload_n 0, 1) := by decide +kernel
theorem dM_move_71 : decode cM_move 71 = .ok (.getfield 13, 3) := by decide +kernel
theorem dM_move_74 : decode cM_move 74 = .ok (.iload 4, 2) := by decide +kernel
theorem dM_move_76 : decode cM_move 76 = .ok (.iaload, 1) := by decide +kernel
theorem dM_move_77 : decode cM_move 77 = .ok (.iload_n 2, 1) := by decide +kernel
theorem dM_move_78 : decode cM_move 78 = .ok (.if_icmp .eq 7, 3) := by decide +kernel
theorem dM_move_81 : decode cM_move 81 = .ok (.iconst 1, 1) := by decide +kernel
theorem dM_move_82 : decode cM_move 82 = .ok (.goto 4, 3) := by decide +kernel
theorem dM_move_85 : decode cM_move 85 = .ok (.iconst 0, 1) := by decide +kernel
theorem dM_move_86 : decode cM_move 86 = .ok (.iadd, 1) := by decide +kernel
theorem dM_move_87 : decode cM_move 87 = .ok (.istore_n 3, 1) := by decide +kernel
theorem dM_move_88 : decode cM_move 88 = .ok (.aload_n 0, 1) := by decide +kernel
theorem dM_move_89 : decode cM_move 89 = .ok (.getfield 13, 3) := by decide +kernel
theorem dM_move_92 : decode cM_move 92 = .ok (.iload 4, 2) := by decide +kernel
theorem dM_move_94 : decode cM_move 94 = .ok (.iload_n 2, 1) := by decide +kernel
theorem dM_move_95 : decode cM_move 95 = .ok (.iastore, 1) := by decide +kernel
theorem dM_move_96 : decode cM_move 96 = .ok (.iinc 4 1, 3) := by decide +kernel
theorem dM_move_99 : decode cM_move 99 = .ok (.goto (-59), 3) := by decide +kernel
theorem dM_move_102 : decode cM_move 102 = .ok (.iload_n 3, 1) := by decide +kernel
theorem dM_move_103 : decode cM_move 103 = .ok (.ireturn, 1) := by decide +kernel
theorem dM_delete_0 : decode cM_delete 0 = .ok (.aload_n 0, 1) := by decide +kernel
theorem dM_delete_1 : decode cM_delete 1 = .ok (.iconst 0, 1) := by decide +kernel
theorem dM_delete_2 : decode cM_delete 2 = .ok (.putfield 38, 3) := by decide +kernel
theorem dM_delete_5 : decode cM_delete 5 = .ok (.aload_n 0, 1) := by decide +kernel
theorem dM_delete_6 : decode cM_delete 6 = .ok (.dup, 1) := by decide +kernel
theorem dM_delete_7 : decode cM_delete 7 = .ok (.getfield 45, 3) := by decide +kernel
theorem dM_delete_10 : decode cM_delete 10 = .ok (.iconst 1, 1) := by decide +kernel
theorem dM_delete_11 : decode cM_delete 11 = .ok (.iadd, 1) := by decide +kernel
theorem dM_delete_12 : decode cM_delete 12 = .ok (.putfield 45, 3) := by decide +kernel
theorem dM_delete_15 : decode cM_delete 15 = .ok (.aload_n 0, 1) := by decide +kernel
theorem dM_delete_16 : decode cM_delete 16 = .ok (.iload_n 1, 1) := by decide +kernel
theorem dM_delete_17 : decode cM_delete 17 = .ok (.invokevirtual 55, 3) := by decide +kernel
theorem dM_delete_20 : decode cM_delete 20 = .ok (.ifCond .ne 5, 3) := by decide +kernel
theorem dM_delete_23 : decode cM_delete 23 = .ok (.iconst 0, 1) := by decide +kernel
theorem dM_delete_24 : decode cM_delete 24 = .ok (.ireturn, 1) := by decide +kernel
theorem dM_delete_25 : decode cM_delete 25 = .ok (.iconst 0, 1) := by decide +kernel
theorem dM_delete_26 : decode cM_delete 26 = .ok (.istore_n 2, 1) := by decide +kernel
theorem dM_delete_27 : decode cM_delete 27 = .ok (.iconst 0, 1) := by decide +kernel
theorem dM_delete_28 : decode cM_delete 28 = .ok (.istore_n 3, 1) := by decide +kernel
theorem dM_delete_29 : decode cM_delete 29 = .ok (.iload_n 3, 1) := by decide +kernel
theorem dM_delete_30 : decode cM_delete 30 = .ok (.aload_n 0, 1) := by decide +kernel
theorem dM_delete_31 : decode cM_delete 31 = .ok (.getfield 48, 3) := by decide +kernel
theorem dM_delete_34 : decode cM_delete 34 = .ok (.if_icmp .ge 36, 3) := by decide +kernel
theorem dM_delete_37 : decode cM_delete 37 = .ok (.iload_n 2, 1) := by decide +kernel
theorem dM_delete_38 : decode cM_delete 38 = .ok (.aload_n 0, 1) := by decide +kernel
theorem dM_delete_39 : decode cM_delete 39 = .ok (.getfield 29, 3) := by decide +kernel
theorem dM_delete_42 : decode cM_delete 42 = .ok (.iload_n 3, 1) := by decide +kernel
theorem dM_delete_43 : decode cM_delete 43 = .ok (.iaload, 1) := by decide +kernel
theorem dM_delete_44 : decode cM_delete 44 = .ok (.ifCond .ne 17, 3) := by decide +kernel
theorem dM_delete_47 : decode cM_delete 47 = .ok (.aload_n 0, 1) := by decide +kernel
theorem dM_delete_48 : decode cM_delete 48 = .ok (.getfield 32, 3) := by decide +kernel
theorem dM_delete_51 : decode cM_delete 51 = .ok (.iload_n 3, 1) := by decide +kernel
theorem dM_delete_52 : decode cM_delete 52 = .ok (.iaload, 1) := by decide +kernel
theorem dM_delete_53 : decode cM_delete 53 = .ok (.iload_n 1, 1) := by decide +kernel
theorem dM_delete_54 : decode cM_delete 54 = .ok (.if_icmp .ne 7, 3) := by decide +kernel
theorem dM_delete_57 : decode cM_delete 57 = .ok (.iconst 1, 1) := by decide +kernel
theorem dM_delete_58 : decode cM_delete 58 = .ok (.goto 4, 3) := by decide +kernel
theorem dM_delete_61 : decode cM_delete 61 = .ok (.iconst 0, 1) := by decide +kernel
theorem dM_delete_62 : decode cM_delete 62 = .ok (.iadd, 1) := by decide +kernel
theorem dM_delete_63 : decode cM_delete 63 = .ok (.istore_n 2, 1) := by decide +kernel
theorem dM_delete_64 : decode cM_delete 64 = .ok (.iinc 3 1, 3) := by decide +kernel
theorem dM_delete_67 : decode cM_delete 67 = .ok (.goto (-38), 3) := by decide +kernel
theorem dM_delete_70 : decode cM_delete 70 = .ok (.iload_n 2, 1) := by decide +kernel
theorem dM_delete_71 : decode cM_delete 71 = .ok (.ifCond .le 6, 3) := by decide +kernel
theorem dM_delete_74 : decode cM_delete 74 = .ok (.iload_n 2, 1) := by decide +kernel
theorem dM_delete_75 : decode cM_delete 75 = .ok (.ineg, 1) := by decide +kernel
theorem dM_delete_76 : decode cM_delete 76 = .ok (.ireturn, 1) := by decide +kernel
theorem dM_delete_77 : decode cM_delete 77 = .ok (.aload_n 0, 1) := by decide +kernel
theorem dM_delete_78 : decode cM_delete 78 = .ok (.getfield 17, 3) := by decide +kernel
theorem dM_delete_81 : decode cM_delete 81 = .ok (.iload_n 1, 1) := by decide +kernel
theorem dM_delete_82 : decode cM_delete 82 = .ok (.aload_n 0, 1) := by decide +kernel
theorem dM_delete_83 : decode cM_delete 83 = .ok (.iload_n 1, 1) := by decide +kernel
theorem dM_delete_84 : decode cM_delete 84 = .ok (.invokevirtual 51, 3) := by decide +kernel
theorem dM_delete_87 : decode cM_delete 87 = .ok (.iastore, 1) := by decide +kernel
theorem dM_delete_88 : decode cM_delete 88 = .ok (.aload_n 0, 1) := by decide +kernel
theorem dM_delete_89 : decode cM_delete 89 = .ok (.getfield 7, 3) := by decide +kernel
theorem dM_delete_92 : decode cM_delete 92 = .ok (.iload_n 1, 1) := by decide +kernel
theorem dM_delete_93 : decode cM_delete 93 = .ok (.iconst 0, 1) := by decide +kernel
theorem dM_delete_94 : decode cM_delete 94 = .ok (.bastore, 1) := by decide +kernel
theorem dM_delete_95 : decode cM_delete 95 = .ok (.iconst 0, 1) := by decide +kernel
theorem dM_delete_96 : decode cM_delete 96 = .ok (.istore_n 3, 1) := by decide +kernel
theorem dM_delete_97 : decode cM_delete 97 = .ok (.iload_n 3, 1) := by decide +kernel
theorem dM_delete_98 : decode cM_delete 98 = .ok (.aload_n 0, 1) := by decide +kernel
theorem dM_delete_99 : decode cM_delete 99 = .ok (.getfield 48, 3) := by decide +kernel
theorem dM_delete_102 : decode cM_delete 102 = .ok (.if_icmp .ge 32, 3) := by decide +kernel
theorem dM_delete_105 : decode cM_delete 105 = .ok (.aload_n 0, 1) := by decide +kernel
theorem dM_delete_106 : decode cM_delete 106 = .ok (.getfield 26, 3) := by decide +kernel
theorem dM_delete_109 : decode cM_delete 109 = .ok (.iload_n 3, 1) := by decide +kernel
theorem dM_delete_110 : decode cM_delete 110 = .ok (.iaload, 1) := by decide +kernel
theorem dM_delete_111 : decode cM_delete 111 = .ok (.iload_n 1, 1) := by decide +kernel
theorem dM_delete_112 : decode cM_delete 112 = .ok (.if_icmp .ne 16, 3) := by decide +kernel
theorem dM_delete_115 : decode cM_delete 115 = .ok (.aload_n 0, 1) := by decide +kernel
theorem dM_delete_116 : decode cM_delete 116 = .ok (.iload_n 1, 1) := by decide +kernel
theorem dM_delete_117 : decode cM_delete 117 = .ok (.invokevirtual 80, 3) := by decide +kernel
theorem dM_delete_120 : decode cM_delete 120 = .ok (.aload_n 0, 1) := by decide +kernel
theorem dM_delete_121 : decode cM_delete 121 = .ok (.iload_n 3, 1) := by decide +kernel
theorem dM_delete_122 : decode cM_delete 122 = .ok (.invokevirtual 84, 3) := by decide +kernel
theorem dM_delete_125 : decode cM_delete 125 = .ok (.goto (-28), 3) := by decide +kernel
theorem dM_delete_128 : decode cM_delete 128 = .ok (.iinc 3 1, 3) := by decide +kernel
theorem dM_delete_131 : decode cM_delete 131 = .ok (.goto (-34), 3) := by decide +kernel
theorem dM_delete_134 : decode cM_delete 134 = .ok (.iconst 1, 1) := by decide +kernel
theorem dM_delete_135 : decode cM_delete 135 = .ok (.ireturn, 1) := by decide +kernel
theorem dM_times_0 : decode cM_times 0 = .ok (.aload_n 0, 1) := by decide +kernel
theorem dM_times_1 : decode cM_times 1 = .ok (.iconst 0, 1) := by decide +kernel
theorem dM_times_2 : decode cM_times 2 = .ok (.putfield 38, 3) := by decide +kernel
theorem dM_times_5 : decode cM_times 5 = .ok (.iload_n 1, 1) := by decide +kernel
theorem dM_times_6 : decode cM_times 6 = .ok (.iconst 1, 1) := by decide +kernel
theorem dM_times_7 : decode cM_times 7 = .ok (.if_icmp .lt 25, 3) := by decide +kernel
theorem dM_times_10 : decode cM_times 10 = .ok (.iload_n 1, 1) := by decide +kernel
theorem dM_times_11 : decode cM_times 11 = .ok (.aload_n 0, 1) := by decide +kernel
theorem dM_times_12 : decode cM_times 12 = .ok (.getfield 42, 3) := by decide +kernel
theorem dM_times_15 : decode cM_times 15 = .ok (.if_icmp .gt 17, 3) := by decide +kernel
theorem dM_times_18 : decode cM_times 18 = .ok (.iload_n 2, 1) := by decide +kernel
theorem dM_times_19 : decode cM_times 19 = .ok (.ifCond .lt 13, 3) := by decide +kernel
theorem dM_times_22 : decode cM_times 22 = .ok (.iload_n 2, 1) := by decide +kernel
theorem dM_times_23 : decode cM_times 23 = .ok (.aload_n 0, 1) := by decide +kernel
theorem dM_times_24 : decode cM_times 24 = .ok (.getfield 23, 3) := by decide +kernel
theorem dM_times_27 : decode cM_times 27 = .ok (.iload_n 1, 1) := by decide +kernel
theorem dM_times_28 : decode cM_times 28 = .ok (.iaload, 1) := by decide +kernel
theorem dM_times_29 : decode cM_times 29 = .ok (.if_icmp .lt 7, 3) := by decide +kernel
theorem dM_times_32 : decode cM_times 32 = .ok (.iconst 0, 1) := by decide +kernel
theorem dM_times_33 : decode cM_times 33 = .ok (.goto 14, 3) := by decide +kernel
theorem dM_times_36 : decode cM_times 36 = .ok (.aload_n 0, 1) := by decide +kernel
theorem dM_times_37 : decode cM_times 37 = .ok (.getfield 20, 3) := by decide +kernel
theorem dM_times_40 : decode cM_times 40 = .ok (.bipush 40, 2) := by decide +kernel
theorem dM_times_42 : decode cM_times 42 = .ok (.iload_n 1, 1) := by decide +kernel
theorem dM_times_43 : decode cM_times 43 = .ok (.imul, 1) := by decide +kernel
theorem dM_times_44 : decode cM_times 44 = .ok (.iload_n 2, 1) := by decide +kernel
theorem dM_times_45 : decode cM_times 45 = .ok (.iadd, 1) := by decide +kernel
theorem dM_times_46 : decode cM_times 46 = .ok (.iaload, 1) := by decide +kernel
theorem dM_times_47 : decode cM_times 47 = .ok (.ireturn, 1) := by decide +kernel
theorem dM_orphan_0 : decode cM_orphan 0 = .ok (.aload_n 0, 1) := by decide +kernel
theorem dM_orphan_1 : decode cM_orphan 1 = .ok (.iconst 0, 1) := by decide +kernel
theorem dM_orphan_2 : decode cM_orphan 2 = .ok (.putfield 38, 3) := by decide +kernel
theorem dM_orphan_5 : decode cM_orphan 5 = .ok (.iconst 0, 1) := by decide +kernel
theorem dM_orphan_6 : decode cM_orphan 6 = .ok (.istore_n 2, 1) := by decide +kernel
theorem dM_orphan_7 : decode cM_orphan 7 = .ok (.iconst 1, 1) := by decide +kernel
theorem dM_orphan_8 : decode cM_orphan 8 = .ok (.istore_n 3, 1) := by decide +kernel
theorem dM_orphan_9 : decode cM_orphan 9 = .ok (.iload_n 3, 1) := by decide +kernel
theorem dM_orphan_10 : decode cM_orphan 10 = .ok (.aload_n 0, 1) := by decide +kernel
theorem dM_orphan_11 : decode cM_orphan 11 = .ok (.getfield 42, 3) := by decide +kernel
theorem dM_orphan_14 : decode cM_orphan 14 = .ok (.if_icmp .gt 99, 3) := by decide +kernel
theorem dM_orphan_17 : decode cM_orphan 17 = .ok (.iload_n 1, 1) := by decide +kernel
theorem dM_orphan_18 : decode cM_orphan 18 = .ok (.ifCond .lt 95, 3) := by decide +kernel
theorem dM_orphan_21 : decode cM_orphan 21 = .ok (.aload_n 0, 1) := by decide +kernel
theorem dM_orphan_22 : decode cM_orphan 22 = .ok (.getfield 7, 3) := by decide +kernel
theorem dM_orphan_25 : decode cM_orphan 25 = .ok (.iload_n 3, 1) := by decide +kernel
theorem dM_orphan_26 : decode cM_orphan 26 = .ok (.baload, 1) := by decide +kernel
theorem dM_orphan_27 : decode cM_orphan 27 = .ok (.istore 4, 2) := by decide +kernel
theorem dM_orphan_29 : decode cM_orphan 29 = .ok (.iconst 0, 1) := by decide +kernel
theorem dM_orphan_30 : decode cM_orphan 30 = .ok (.istore 5, 2) := by decide +kernel
theorem dM_orphan_32 : decode cM_orphan 32 = .ok (.iload 5, 2) := by decide +kernel
theorem dM_orphan_34 : decode cM_orphan 34 = .ok (.aload_n 0, 1) := by decide +kernel
theorem dM_orphan_35 : decode cM_orphan 35 = .ok (.getfield 48, 3) := by decide +kernel
theorem dM_orphan_38 : decode cM_orphan 38 = .ok (.if_icmp .ge 54, 3) := by decide +kernel
theorem dM_orphan_41 : decode cM_orphan 41 = .ok (.iload 4, 2) := by decide +kernel
theorem dM_orphan_43 : decode cM_orphan 43 = .ok (.ifCond .eq 40, 3) := by decide +kernel
theorem dM_orphan_46 : decode cM_orphan 46 = .ok (.aload_n 0, 1) := by decide +kernel
theorem dM_orphan_47 : decode cM_orphan 47 = .ok (.getfield 26, 3) := by decide +kernel
theorem dM_orphan_50 : decode cM_orphan 50 = .ok (.iload 5, 2) := by decide +kernel
theorem dM_orphan_52 : decode cM_orphan 52 = .ok (.iaload, 1) := by decide +kernel
theorem dM_orphan_53 : decode cM_orphan 53 = .ok (.iload_n 3, 1) := by decide +kernel
theorem dM_orphan_54 : decode cM_orphan 54 = .ok (.if_icmp .eq 29, 3) := by decide +kernel
theorem dM_orphan_57 : decode cM_orphan 57 = .ok (.aload_n 0, 1) := by decide +kernel
theorem dM_orphan_58 : decode cM_orphan 58 = .ok (.getfield 29, 3) := by decide +kernel
theorem dM_orphan_61 : decode cM_orphan 61 = .ok (.iload 5, 2) := by decide +kernel
theorem dM_orphan_63 : decode cM_orphan 63 = .ok (.iaload, 1) := by decide +kernel
theorem dM_orphan_64 : decode cM_orphan 64 = .ok (.iconst 3, 1) := by decide +kernel
theorem dM_orphan_65 : decode cM_orphan 65 = .ok (.if_icmp .gt 14, 3) := by decide +kernel
theorem dM_orphan_68 : decode cM_orphan 68 = .ok (.aload_n 0, 1) := by decide +kernel
theorem dM_orphan_69 : decode cM_orphan 69 = .ok (.getfield 32, 3) := by decide +kernel
theorem dM_orphan_72 : decode cM_orphan 72 = .ok (.iload 5, 2) := by decide +kernel
theorem dM_orphan_74 : decode cM_orphan 74 = .ok (.iaload, 1) := by decide +kernel
theorem dM_orphan_75 : decode cM_orphan 75 = .ok (.iload_n 3, 1) := by decide +kernel
theorem dM_orphan_76 : decode cM_orphan 76 = .ok (.if_icmp .eq 7, 3) := by decide +kernel
theorem dM_orphan_79 : decode cM_orphan 79 = .ok (.iconst 1, 1) := by decide +kernel
theorem dM_orphan_80 : decode cM_orphan 80 = .ok (.goto 4, 3) := by decide +kernel
theorem dM_orphan_83 : decode cM_orphan 83 = .ok (.iconst 0, 1) := by decide +kernel
theorem dM_orphan_84 : decode cM_orphan 84 = .ok (.istore 4, 2) := by decide +kernel
theorem dM_orphan_86 : decode cM_orphan 86 = .ok (.iinc 5 1, 3) := by decide +kernel
theorem dM_orphan_89 : decode cM_orphan 89 = .ok (.goto (-57), 3) := by decide +kernel
theorem dM_orphan_92 : decode cM_orphan 92 = .ok (.iload 4, 2) := by decide +kernel
theorem dM_orphan_94 : decode cM_orphan 94 = .ok (.ifCond .eq 13, 3) := by decide +kernel
theorem dM_orphan_97 : decode cM_orphan 97 = .ok (.iload_n 2, 1) := by decide +kernel
theorem dM_orphan_98 : decode cM_orphan 98 = .ok (.iload_n 1, 1) := by decide +kernel
theorem dM_orphan_99 : decode cM_orphan 99 = .ok (.if_icmp .ne 5, 3) := by decide +kernel
theorem dM_orphan_102 : decode cM_orphan 102 = .ok (.iload_n 3, 1) := by decide +kernel
theorem dM_orphan_103 : decode cM_orphan 103 = .ok (.ireturn, 1) := by decide +kernel
theorem dM_orphan_104 : decode cM_orphan 104 = .ok (.iinc 2 1, 3) := by decide +kernel
theorem dM_orphan_107 : decode cM_orphan 107 = .ok (.iinc 3 1, 3) := by decide +kernel
theorem dM_orphan_110 : decode cM_orphan 110 = .ok (.goto (-101), 3) := by decide +kernel
theorem dM_orphan_113 : decode cM_orphan 113 = .ok (.iconst 0, 1) := by decide +kernel
theorem dM_orphan_114 : decode cM_orphan 114 = .ok (.ireturn, 1) := by decide +kernel
theorem dM_house_0 : decode cM_house 0 = .ok (.aload_n 0, 1) := by decide +kernel
theorem dM_house_1 : decode cM_house 1 = .ok (.iconst 0, 1) := by decide +kernel
theorem dM_house_2 : decode cM_house 2 = .ok (.putfield 38, 3) := by decide +kernel
theorem dM_house_5 : decode cM_house 5 = .ok (.iload_n 1, 1) := by decide +kernel
theorem dM_house_6 : decode cM_house 6 = .ok (.iconst 1, 1) := by decide +kernel
theorem dM_house_7 : decode cM_house 7 = .ok (.if_icmp .lt 11, 3) := by decide +kernel
theorem dM_house_10 : decode cM_house 10 = .ok (.iload_n 1, 1) := by decide +kernel
theorem dM_house_11 : decode cM_house 11 = .ok (.aload_n 0, 1) := by decide +kernel
theorem dM_house_12 : decode cM_house 12 = .ok (.getfield 42, 3) := by decide +kernel
theorem dM_house_15 : decode cM_house 15 = .ok (.if_icmp .le 7, 3) := by decide +kernel
theorem dM_house_18 : decode cM_house 18 = .ok (.iconst (-1), 1) := by decide +kernel
theorem dM_house_19 : decode cM_house 19 = .ok (.goto 9, 3) := by decide +kernel
theorem dM_house_22 : decode cM_house 22 = .ok (.aload_n 0, 1) := by decide +kernel
theorem dM_house_23 : decode cM_house 23 = .ok (.getfield 13, 3) := by decide +kernel
theorem dM_house_26 : decode cM_house 26 = .ok (.iload_n 1, 1) := by decide +kernel
theorem dM_house_27 : decode cM_house 27 = .ok (.iaload, 1) := by decide +kernel
theorem dM_house_28 : decode cM_house 28 = .ok (.ireturn, 1) := by decide +kernel
theorem dM_goes_0 : decode cM_goes 0 = .ok (.aload_n 0, 1) := by decide +kernel
theorem dM_goes_1 : decode cM_goes 1 = .ok (.iconst 0, 1) := by decide +kernel
theorem dM_goes_2 : decode cM_goes 2 = .ok (.putfield 38, 3) := by decide +kernel
theorem dM_goes_5 : decode cM_goes 5 = .ok (.iconst 0, 1) := by decide +kernel
theorem dM_goes_6 : decode cM_goes 6 = .ok (.istore 4, 2) := by decide +kernel
theorem dM_goes_8 : decode cM_goes 8 = .ok (.iconst 0, 1) := by decide +kernel
theorem dM_goes_9 : decode cM_goes 9 = .ok (.istore 5, 2) := by decide +kernel
theorem dM_goes_11 : decode cM_goes 11 = .ok (.iload 5, 2) := by decide +kernel
theorem dM_goes_13 : decode cM_goes 13 = .ok (.aload_n 0, 1) := by decide +kernel
theorem dM_goes_14 : decode cM_goes 14 = .ok (.getfield 48, 3) := by decide +kernel
theorem dM_goes_17 : decode cM_goes 17 = .ok (.if_icmp .ge 52, 3) := by decide +kernel
theorem dM_goes_20 : decode cM_goes 20 = .ok (.iload_n 3, 1) := by decide +kernel
theorem dM_goes_21 : decode cM_goes 21 = .ok (.ifCond .lt 48, 3) := by decide +kernel
theorem dM_goes_24 : decode cM_goes 24 = .ok (.aload_n 0, 1) := by decide +kernel
theorem dM_goes_25 : decode cM_goes 25 = .ok (.getfield 26, 3) := by decide +kernel
theorem dM_goes_28 : decode cM_goes 28 = .ok (.iload 5, 2) := by decide +kernel
theorem dM_goes_30 : decode cM_goes 30 = .ok (.iaload, 1) := by decide +kernel
theorem dM_goes_31 : decode cM_goes 31 = .ok (.iload_n 1, 1) := by decide +kernel
theorem dM_goes_32 : decode cM_goes 32 = .ok (.if_icmp .ne 31, 3) := by decide +kernel
theorem dM_goes_35 : decode cM_goes 35 = .ok (.aload_n 0, 1) := by decide +kernel
theorem dM_goes_36 : decode cM_goes 36 = .ok (.getfield 29, 3) := by decide +kernel
theorem dM_goes_39 : decode cM_goes 39 = .ok (.iload 5, 2) := by decide +kernel
theorem dM_goes_41 : decode cM_goes 41 = .ok (.iaload, 1) := by decide +kernel
theorem dM_goes_42 : decode cM_goes 42 = .ok (.iload_n 2, 1) := by decide +kernel
theorem dM_goes_43 : decode cM_goes 43 = .ok (.if_icmp .ne 20, 3) := by decide +kernel
theorem dM_goes_46 : decode cM_goes 46 = .ok (.iload 4, 2) := by decide +kernel
theorem dM_goes_48 : decode cM_goes 48 = .ok (.iload_n 3, 1) := by decide +kernel
theorem dM_goes_49 : decode cM_goes 49 = .ok (.if_icmp .ne 11, 3) := by decide +kernel
theorem dM_goes_52 : decode cM_goes 52 = .ok (.aload_n 0, 1) := by decide +kernel
theorem dM_goes_53 : decode cM_goes 53 = .ok (.getfield 32, 3) := by decide +kernel
theorem dM_goes_56 : decode cM_goes 56 = .ok (.iload 5, 2) := by decide +kernel
theorem dM_goes_58 : decode cM_goes 58 = .ok (.iaload, 1) := by decide +kernel
theorem dM_goes_59 : decode cM_goes 59 = .ok (.ireturn, 1) := by decide +kernel
theorem dM_goes_60 : decode cM_goes 60 = .ok (.iinc 4 1, 3) := by decide +kernel
theorem dM_goes_63 : decode cM_goes 63 = .ok (.iinc 5 1, 3) := by decide +kernel
theorem dM_goes_66 : decode cM_goes 66 = .ok (.goto (-55), 3) := by decide +kernel
theorem dM_goes_69 : decode cM_goes 69 = .ok (.iconst 0, 1) := by decide +kernel
theorem dM_goes_70 : decode cM_goes 70 = .ok (.ireturn, 1) := by decide +kernel
