theorem dX_init_0 : decode cX_init 0 = .ok (.aload_n 0, 1) := by decide +kernel
theorem dX_init_1 : decode cX_init 1 = .ok (.invokespecial 1, 3) := by decide +kernel
theorem dX_init_4 : decode cX_init 4 = .ok (.aload_n 0, 1) := by decide +kernel
theorem dX_init_5 : decode cX_init 5 = .ok (.bipush 61, 2) := by decide +kernel
theorem dX_init_7 : decode cX_init 7 = .ok (.newarray .boolean, 2) := by decide +kernel
theorem dX_init_9 : decode cX_init 9 = .ok (.putfield 9, 3) := by decide +kernel
theorem dX_init_12 : decode cX_init 12 = .ok (.aload_n 0, 1) := by decide +kernel
theorem dX_init_13 : decode cX_init 13 = .ok (.bipush 61, 2) := by decide +kernel
theorem dX_init_15 : decode cX_init 15 = .ok (.newarray .int, 2) := by decide +kernel
theorem dX_init_17 : decode cX_init 17 = .ok (.putfield 13, 3) := by decide +kernel
theorem dX_init_20 : decode cX_init 20 = .ok (.aload_n 0, 1) := by decide +kernel
theorem dX_init_21 : decode cX_init 21 = .ok (.bipush 61, 2) := by decide +kernel
theorem dX_init_23 : decode cX_init 23 = .ok (.newarray .int, 2) := by decide +kernel
theorem dX_init_25 : decode cX_init 25 = .ok (.putfield 17, 3) := by decide +kernel
theorem dX_init_28 : decode cX_init 28 = .ok (.aload_n 0, 1) := by decide +kernel
theorem dX_init_29 : decode cX_init 29 = .ok (.bipush 61, 2) := by decide +kernel
theorem dX_init_31 : decode cX_init 31 = .ok (.newarray .int, 2) := by decide +kernel
theorem dX_init_33 : decode cX_init 33 = .ok (.putfield 20, 3) := by decide +kernel
theorem dX_init_36 : decode cX_init 36 = .ok (.aload_n 0, 1) := by decide +kernel
theorem dX_init_37 : decode cX_init 37 = .ok (.sipush 2440, 3) := by decide +kernel
theorem dX_init_40 : decode cX_init 40 = .ok (.newarray .int, 2) := by decide +kernel
theorem dX_init_42 : decode cX_init 42 = .ok (.putfield 23, 3) := by decide +kernel
theorem dX_init_45 : decode cX_init 45 = .ok (.aload_n 0, 1) := by decide +kernel
theorem dX_init_46 : decode cX_init 46 = .ok (.iconst 0, 1) := by decide +kernel
theorem dX_init_47 : decode cX_init 47 = .ok (.putfield 26, 3) := by decide +kernel
theorem dX_init_50 : decode cX_init 50 = .ok (.aload_n 0, 1) := by decide +kernel
theorem dX_init_51 : decode cX_init 51 = .ok (.sipush 200, 3) := by decide +kernel
theorem dX_init_54 : decode cX_init 54 = .ok (.newarray .int, 2) := by decide +kernel
theorem dX_init_56 : decode cX_init 56 = .ok (.putfield 30, 3) := by decide +kernel
theorem dX_init_59 : decode cX_init 59 = .ok (.aload_n 0, 1) := by decide +kernel
theorem dX_init_60 : decode cX_init 60 = .ok (.sipush 200, 3) := by decide +kernel
theorem dX_init_63 : decode cX_init 63 = .ok (.newarray .int, 2) := by decide +kernel
theorem dX_init_65 : decode cX_init 65 = .ok (.putfield 33, 3) := by decide +kernel
theorem dX_init_68 : decode cX_init 68 = .ok (.aload_n 0, 1) := by decide +kernel
theorem dX_init_69 : decode cX_init 69 = .ok (.sipush 200, 3) := by decide +kernel
theorem dX_init_72 : decode cX_init 72 = .ok (.newarray .int, 2) := by decide +kernel
theorem dX_init_74 : decode cX_init 74 = .ok (.putfield 36, 3) := by decide +kernel
theorem dX_init_77 : decode cX_init 77 = .ok (.aload_n 0, 1) := by decide +kernel
theorem dX_init_78 : decode cX_init 78 = .ok (.iconst 0, 1) := by decide +kernel
theorem dX_init_79 : decode cX_init 79 = .ok (.putfield 39, 3) := by decide +kernel
theorem dX_init_82 : decode cX_init 82 = .ok (.aload_n 0, 1) := by decide +kernel
theorem dX_init_83 : decode cX_init 83 = .ok (.bipush 60, 2) := by decide +kernel
theorem dX_init_85 : decode cX_init 85 = .ok (.newarray .int, 2) := by decide +kernel
theorem dX_init_87 : decode cX_init 87 = .ok (.putfield 42, 3) := by decide +kernel
theorem dX_init_90 : decode cX_init 90 = .ok (.aload_n 0, 1) := by decide +kernel
theorem dX_init_91 : decode cX_init 91 = .ok (.iconst 0, 1) := by decide +kernel
theorem dX_init_92 : decode cX_init 92 = .ok (.putfield 45, 3) := by decide +kernel
theorem dX_init_95 : decode cX_init 95 = .ok (.aload_n 0, 1) := by decide +kernel
theorem dX_init_96 : decode cX_init 96 = .ok (.iconst 0, 1) := by decide +kernel
theorem dX_init_97 : decode cX_init 97 = .ok (.putfield 48, 3) := by decide +kernel
theorem dX_init_100 : decode cX_init 100 = .ok (.return_, 1) := by decide +kernel
theorem dX_record_0 : decode cX_record 0 = .ok (.aload_n 0, 1) := by decide +kernel
theorem dX_record_1 : decode cX_record 1 = .ok (.getfield 26, 3) := by decide +kernel
theorem dX_record_4 : decode cX_record 4 = .ok (.bipush 60, 2) := by decide +kernel
theorem dX_record_6 : decode cX_record 6 = .ok (.if_icmp .lt 5, 3) := by decide +kernel
theorem dX_record_9 : decode cX_record 9 = .ok (.iconst 0, 1) := by decide +kernel
theorem dX_record_10 : decode cX_record 10 = .ok (.ireturn, 1) := by decide +kernel
theorem dX_record_11 : decode cX_record 11 = .ok (.aload_n 0, 1) := by decide +kernel
theorem dX_record_12 : decode cX_record 12 = .ok (.dup, 1) := by decide +kernel
theorem dX_record_13 : decode cX_record 13 = .ok (.getfield 26, 3) := by decide +kernel
theorem dX_record_16 : decode cX_record 16 = .ok (.iconst 1, 1) := by decide +kernel
theorem dX_record_17 : decode cX_record 17 = .ok (.iadd, 1) := by decide +kernel
theorem dX_record_18 : decode cX_record 18 = .ok (.putfield 26, 3) := by decide +kernel
theorem dX_record_21 : decode cX_record 21 = .ok (.aload_n 0, 1) := by decide +kernel
theorem dX_record_22 : decode cX_record 22 = .ok (.getfield 9, 3) := by decide +kernel
theorem dX_record_25 : decode cX_record 25 = .ok (.aload_n 0, 1) := by decide +kernel
theorem dX_record_26 : decode cX_record 26 = .ok (.getfield 26, 3) := by decide +kernel
theorem dX_record_29 : decode cX_record 29 = .ok (.iconst 1, 1) := by decide +kernel
theorem dX_record_30 : decode cX_record 30 = .ok (.bastore, 1) := by decide +kernel
theorem dX_record_31 : decode cX_record 31 = .ok (.aload_n 0, 1) := by decide +kernel
theorem dX_record_32 : decode cX_record 32 = .ok (.getfield 26, 3) := by decide +kernel
theorem dX_record_35 : decode cX_record 35 = .ok (.ireturn, 1) := by decide +kernel
theorem dX_link_0 : decode cX_link 0 = .ok (.aload_n 0, 1) := by decide +kernel
theorem dX_link_1 : decode cX_link 1 = .ok (.dup, 1) := by decide +kernel
theorem dX_link_2 : decode cX_link 2 = .ok (.getfield 48, 3) := by decide +kernel
theorem dX_link_5 : decode cX_link 5 = .ok (.iconst 1, 1) := by decide +kernel
theorem dX_link_6 : decode cX_link 6 = .ok (.iadd, 1) := by decide +kernel
theorem dX_link_7 : decode cX_link 7 = .ok (.putfield 48, 3) := by decide +kernel
theorem dX_link_10 : decode cX_link 10 = .ok (.aload_n 0, 1) := by decide +kernel
theorem dX_link_11 : decode cX_link 11 = .ok (.iload_n 1, 1) := by decide +kernel
theorem dX_link_12 : decode cX_link 12 = .ok (.iload_n 2, 1) := by decide +kernel
theorem dX_link_13 : decode cX_link 13 = .ok (.iload_n 3, 1) := by decide +kernel
theorem dX_link_14 : decode cX_link 14 = .ok (.iconst (-1), 1) := by decide +kernel
theorem dX_link_15 : decode cX_link 15 = .ok (.invokevirtual 51, 3) := by decide +kernel
theorem dX_link_18 : decode cX_link 18 = .ok (.ifCond .ne 5, 3) := by decide +kernel
theorem dX_link_21 : decode cX_link 21 = .ok (.iconst 0, 1) := by decide +kernel
theorem dX_link_22 : decode cX_link 22 = .ok (.ireturn, 1) := by decide +kernel
theorem dX_link_23 : decode cX_link 23 = .ok (.iload_n 2, 1) := by decide +kernel
theorem dX_link_24 : decode cX_link 24 = .ok (.ifCond .ne 20, 3) := by decide +kernel
theorem dX_link_27 : decode cX_link 27 = .ok (.aload_n 0, 1) := by decide +kernel
theorem dX_link_28 : decode cX_link 28 = .ok (.iload_n 3, 1) := by decide +kernel
theorem dX_link_29 : decode cX_link 29 = .ok (.iload_n 1, 1) := by decide +kernel
theorem dX_link_30 : decode cX_link 30 = .ok (.invokevirtual 55, 3) := by decide +kernel
theorem dX_link_33 : decode cX_link 33 = .ok (.ifCond .eq 11, 3) := by decide +kernel
theorem dX_link_36 : decode cX_link 36 = .ok (.aload_n 0, 1) := by decide +kernel
theorem dX_link_37 : decode cX_link 37 = .ok (.iload_n 3, 1) := by decide +kernel
theorem dX_link_38 : decode cX_link 38 = .ok (.iload_n 1, 1) := by decide +kernel
theorem dX_link_39 : decode cX_link 39 = .ok (.invokevirtual 59, 3) := by decide +kernel
theorem dX_link_42 : decode cX_link 42 = .ok (.iconst 0, 1) := by decide +kernel
theorem dX_link_43 : decode cX_link 43 = .ok (.ireturn, 1) := by decide +kernel
theorem dX_link_44 : decode cX_link 44 = .ok (.aload_n 0, 1) := by decide +kernel
theorem dX_link_45 : decode cX_link 45 = .ok (.iload_n 1, 1) := by decide +kernel
theorem dX_link_46 : decode cX_link 46 = .ok (.iload_n 2, 1) := by decide +kernel
theorem dX_link_47 : decode cX_link 47 = .ok (.iload_n 3, 1) := by decide +kernel
theorem dX_link_48 : decode cX_link 48 = .ok (.invokevirtual 63, 3) := by decide +kernel
theorem dX_link_51 : decode cX_link 51 = .ok (.aload_n 0, 1) := by decide +kernel
theorem dX_link_52 : decode cX_link 52 = .ok (.iload_n 1, 1) := by decide +kernel
theorem dX_link_53 : decode cX_link 53 = .ok (.invokevirtual 67, 3) := by decide +kernel
theorem dX_link_56 : decode cX_link 56 = .ok (.iconst 1, 1) := by decide +kernel
theorem dX_link_57 : decode cX_link 57 = .ok (.ireturn, 1) := by decide +kernel
theorem dX_hasRoomFor_0 : decode cX_hasRoomFor 0 = .ok (.aload_n 0, 1) := by decide +kernel
theorem dX_hasRoomFor_1 : decode cX_hasRoomFor 1 = .ok (.iload_n 1, 1) := by decide +kernel
theorem dX_hasRoomFor_2 : decode cX_hasRoomFor 2 = .ok (.invokevirtual 85, 3) := by decide +kernel
theorem dX_hasRoomFor_5 : decode cX_hasRoomFor 5 = .ok (.ifCond .eq 23, 3) := by decide +kernel
theorem dX_hasRoomFor_8 : decode cX_hasRoomFor 8 = .ok (.iload_n 2, 1) := by decide +kernel
theorem dX_hasRoomFor_9 : decode cX_hasRoomFor 9 = .ok (.ifCond .lt 19, 3) := by decide +kernel
theorem dX_hasRoomFor_12 : decode cX_hasRoomFor 12 = .ok (.iload_n 2, 1) := by decide +kernel
theorem dX_hasRoomFor_13 : decode cX_hasRoomFor 13 = .ok (.bipush 9, 2) := by decide +kernel
theorem dX_hasRoomFor_15 : decode cX_hasRoomFor 15 = .ok (.if_icmp .gt 13, 3) := by decide +kernel
theorem dX_hasRoomFor_18 : decode cX_hasRoomFor 18 = .ok (.aload_n 0, 1) := by decide +kernel
theorem dX_hasRoomFor_19 : decode cX_hasRoomFor 19 = .ok (.iload_n 1, 1) := by decide +kernel
theorem dX_hasRoomFor_20 : decode cX_hasRoomFor 20 = .ok (.iload_n 2, 1) := by decide +kernel
theorem dX_hasRoomFor_21 : decode cX_hasRoomFor 21 = .ok (.iload_n 3, 1) := by decide +kernel
theorem dX_hasRoomFor_22 : decode cX_hasRoomFor 22 = .ok (.invokevirtual 100, 3) := by decide +kernel
theorem dX_hasRoomFor_25 : decode cX_hasRoomFor 25 = .ok (.ifCond .ne 5, 3) := by decide +kernel
theorem dX_hasRoomFor_28 : decode cX_hasRoomFor 28 = .ok (.iconst 0, 1) := by decide +kernel
theorem dX_hasRoomFor_29 : decode cX_hasRoomFor 29 = .ok (.ireturn, 1) := by decide +kernel
theorem dX_hasRoomFor_30 : decode cX_hasRoomFor 30 = .ok (.iconst 0, 1) := by decide +kernel
theorem dX_hasRoomFor_31 : decode cX_hasRoomFor 31 = .ok (.istore 5, 2) := by decide +kernel
theorem dX_hasRoomFor_33 : decode cX_hasRoomFor 33 = .ok (.iconst 0, 1) := by decide +kernel
theorem dX_hasRoomFor_34 : decode cX_hasRoomFor 34 = .ok (.istore 6, 2) := by decide +kernel
theorem dX_hasRoomFor_36 : decode cX_hasRoomFor 36 = .ok (.iconst 0, 1) := by decide +kernel
theorem dX_hasRoomFor_37 : decode cX_hasRoomFor 37 = .ok (.istore 7, 2) := by decide +kernel
theorem dX_hasRoomFor_39 : decode cX_hasRoomFor 39 = .ok (.iload 7, 2) := by decide +kernel
theorem dX_hasRoomFor_41 : decode cX_hasRoomFor 41 = .ok (.aload_n 0, 1) := by decide +kernel
theorem dX_hasRoomFor_42 : decode cX_hasRoomFor 42 = .ok (.getfield 39, 3) := by decide +kernel
theorem dX_hasRoomFor_45 : decode cX_hasRoomFor 45 = .ok (.if_icmp .ge 60, 3) := by decide +kernel
theorem dX_hasRoomFor_48 : decode cX_hasRoomFor 48 = .ok (.iload 7, 2) := by decide +kernel
theorem dX_hasRoomFor_50 : decode cX_hasRoomFor 50 = .ok (.iload 4, 2) := by decide +kernel
theorem dX_hasRoomFor_52 : decode cX_hasRoomFor 52 = .ok (.if_icmp .ne 6, 3) := by decide +kernel
theorem dX_hasRoomFor_55 : decode cX_hasRoomFor 55 = .ok (.goto 44, 3) := by decide +kernel
theorem dX_hasRoomFor_58 : decode cX_hasRoomFor 58 = .ok (.iinc 6 1, 3) := by decide +kernel
theorem dX_hasRoomFor_61 : decode cX_hasRoomFor 61 = .ok (.aload_n 0, 1) := by decide +kernel
theorem dX_hasRoomFor_62 : decode cX_hasRoomFor 62 = .ok (.getfield 30, 3) := by decide +kernel
theorem dX_hasRoomFor_65 : decode cX_hasRoomFor 65 = .ok (.iload 7, 2) := by decide +kernel
theorem dX_hasRoomFor_67 : decode cX_hasRoomFor 67 = .ok (.iaload, 1) := by decide +kernel
theorem dX_hasRoomFor_68 : decode cX_hasRoomFor 68 = .ok (.iload_n 1, 1) := by decide +kernel
theorem dX_hasRoomFor_69 : decode cX_hasRoomFor 69 = .ok (.if_icmp .ne 30, 3) := by decide +kernel
theorem dX_hasRoomFor_72 : decode cX_hasRoomFor 72 = .ok (.aload_n 0, 1) := by decide +kernel
theorem dX_hasRoomFor_73 : decode cX_hasRoomFor 73 = .ok (.getfield 33, 3) := by decide +kernel
theorem dX_hasRoomFor_76 : decode cX_hasRoomFor 76 = .ok (.iload 7, 2) := by decide +kernel
theorem dX_hasRoomFor_78 : decode cX_hasRoomFor 78 = .ok (.iaload, 1) := by decide +kernel
theorem dX_hasRoomFor_79 : decode cX_hasRoomFor 79 = .ok (.iload_n 2, 1) := by decide +kernel
theorem dX_hasRoomFor_80 : decode cX_hasRoomFor 80 = .ok (.if_icmp .ne 19, 3) := by decide +kernel
theorem dX_hasRoomFor_83 : decode cX_hasRoomFor 83 = .ok (.iinc 5 1, 3) := by decide +kernel
theorem dX_hasRoomFor_86 : decode cX_hasRoomFor 86 = .ok (.aload_n 0, 1) := by decide +kernel
theorem dX_hasRoomFor_87 : decode cX_hasRoomFor 87 = .ok (.getfield 36, 3) := by decide +kernel
theorem dX_hasRoomFor_90 : decode cX_hasRoomFor 90 = .ok (.iload 7, 2) := by decide +kernel
theorem dX_hasRoomFor_92 : decode cX_hasRoomFor 92 = .ok (.iaload, 1) := by decide +kernel
theorem dX_hasRoomFor_93 : decode cX_hasRoomFor 93 = .ok (.iload_n 3, 1) := by decide +kernel
theorem dX_hasRoomFor_94 : decode cX_hasRoomFor 94 = .ok (.if_icmp .ne 5, 3) := by decide +kernel
theorem dX_hasRoomFor_97 : decode cX_hasRoomFor 97 = .ok (.iconst 0, 1) := by decide +kernel
theorem dX_hasRoomFor_98 : decode cX_hasRoomFor 98 = .ok (.ireturn, 1) := by decide +kernel
theorem dX_hasRoomFor_99 : decode cX_hasRoomFor 99 = .ok (.iinc 7 1, 3) := by decide +kernel
theorem dX_hasRoomFor_102 : decode cX_hasRoomFor 102 = .ok (.goto (-63), 3) := by decide +kernel
theorem dX_hasRoomFor_105 : decode cX_hasRoomFor 105 = .ok (.iload 5, 2) := by decide +kernel
theorem dX_hasRoomFor_107 : decode cX_hasRoomFor 107 = .ok (.getstatic 104, 3) := by decide +kernel
theorem dX_hasRoomFor_110 : decode cX_hasRoomFor 110 = .ok (.iload_n 2, 1) := by decide +kernel
theorem dX_hasRoomFor_111 : decode cX_hasRoomFor 111 = .ok (.iaload, 1) := by decide +kernel
theorem dX_hasRoomFor_112 : decode cX_hasRoomFor 112 = .ok (.if_icmp .ge 15, 3) := by decide +kernel
theorem dX_hasRoomFor_115 : decode cX_hasRoomFor 115 = .ok (.iload 6, 2) := by decide +kernel
theorem dX_hasRoomFor_117 : decode cX_hasRoomFor 117 = .ok (.sipush 200, 3) := by decide +kernel
theorem dX_hasRoomFor_120 : decode cX_hasRoomFor 120 = .ok (.if_icmp .ge 7, 3) := by decide +kernel
theorem dX_hasRoomFor_123 : decode cX_hasRoomFor 123 = .ok (.iconst 1, 1) := by decide +kernel
theorem dX_hasRoomFor_124 : decode cX_hasRoomFor 124 = .ok (.goto 4, 3) := by decide +kernel
theorem dX_hasRoomFor_127 : decode cX_hasRoomFor 127 = .ok (.iconst 0, 1) := by decide +kernel
theorem dX_hasRoomFor_128 : decode cX_hasRoomFor 128 = .ok (.ireturn, 1) := by decide +kernel
theorem dX_isLive_0 : decode cX_isLive 0 = .ok (.aload_n 0, 1) := by decide +kernel
theorem dX_isLive_1 : decode cX_isLive 1 = .ok (.iload_n 1, 1) := by decide +kernel
theorem dX_isLive_2 : decode cX_isLive 2 = .ok (.invokevirtual 94, 3) := by decide +kernel
theorem dX_isLive_5 : decode cX_isLive 5 = .ok (.ifCond .eq 16, 3) := by decide +kernel
theorem dX_isLive_8 : decode cX_isLive 8 = .ok (.aload_n 0, 1) := by decide +kernel
theorem dX_isLive_9 : decode cX_isLive 9 = .ok (.getfield 9, 3) := by decide +kernel
theorem dX_isLive_12 : decode cX_isLive 12 = .ok (.iload_n 1, 1) := by decide +kernel
theorem dX_isLive_13 : decode cX_isLive 13 = .ok (.baload, 1) := by decide +kernel
theorem dX_isLive_14 : decode cX_isLive 14 = .ok (.ifCond .eq 7, 3) := by decide +kernel
theorem dX_isLive_17 : decode cX_isLive 17 = .ok (.iconst 1, 1) := by decide +kernel
theorem dX_isLive_18 : decode cX_isLive 18 = .ok (.goto 4, 3) := by decide +kernel
theorem dX_isLive_21 : decode cX_isLive 21 = .ok (.iconst 0, 1) := by decide +kernel
theorem dX_isLive_22 : decode cX_isLive 22 = .ok (.ireturn, 1) := by decide +kernel
theorem dX_isRecord_0 : decode cX_isRecord 0 = .ok (.iload_n 1, 1) := by decide +kernel
theorem dX_isRecord_1 : decode cX_isRecord 1 = .ok (.iconst 1, 1) := by decide +kernel
theorem dX_isRecord_2 : decode cX_isRecord 2 = .ok (.if_icmp .lt 15, 3) := by decide +kernel
theorem dX_isRecord_5 : decode cX_isRecord 5 = .ok (.iload_n 1, 1) := by decide +kernel
theorem dX_isRecord_6 : decode cX_isRecord 6 = .ok (.aload_n 0, 1) := by decide +kernel
theorem dX_isRecord_7 : decode cX_isRecord 7 = .ok (.getfield 26, 3) := by decide +kernel
theorem dX_isRecord_10 : decode cX_isRecord 10 = .ok (.if_icmp .gt 7, 3) := by decide +kernel
theorem dX_isRecord_13 : decode cX_isRecord 13 = .ok (.iconst 1, 1) := by decide +kernel
theorem dX_isRecord_14 : decode cX_isRecord 14 = .ok (.goto 4, 3) := by decide +kernel
theorem dX_isRecord_17 : decode cX_isRecord 17 = .ok (.iconst 0, 1) := by decide +kernel
theorem dX_isRecord_18 : decode cX_isRecord 18 = .ok (.ireturn, 1) := by decide +kernel
theorem dX_mayGoTo_0 : decode cX_mayGoTo 0 = .ok (.iload_n 2, 1) := by decide +kernel
theorem dX_mayGoTo_1 : decode cX_mayGoTo 1 = .ok (.iconst 4, 1) := by decide +kernel
theorem dX_mayGoTo_2 : decode cX_mayGoTo 2 = .ok (.if_icmp .lt 8, 3) := by decide +kernel
theorem dX_mayGoTo_5 : decode cX_mayGoTo 5 = .ok (.iload_n 3, 1) := by decide +kernel
theorem dX_mayGoTo_6 : decode cX_mayGoTo 6 = .ok (.invokestatic 71, 3) := by decide +kernel
theorem dX_mayGoTo_9 : decode cX_mayGoTo 9 = .ok (.ireturn, 1) := by decide +kernel
theorem dX_mayGoTo_10 : decode cX_mayGoTo 10 = .ok (.aload_n 0, 1) := by decide +kernel
theorem dX_mayGoTo_11 : decode cX_mayGoTo 11 = .ok (.iload_n 3, 1) := by decide +kernel
theorem dX_mayGoTo_12 : decode cX_mayGoTo 12 = .ok (.invokevirtual 85, 3) := by decide +kernel
theorem dX_mayGoTo_15 : decode cX_mayGoTo 15 = .ok (.ifCond .eq 12, 3) := by decide +kernel
theorem dX_mayGoTo_18 : decode cX_mayGoTo 18 = .ok (.iload_n 3, 1) := by decide +kernel
theorem dX_mayGoTo_19 : decode cX_mayGoTo 19 = .ok (.iload_n 1, 1) := by decide +kernel
theorem dX_mayGoTo_20 : decode cX_mayGoTo 20 = .ok (.if_icmp .eq 7, 3) := by decide +kernel
theorem dX_mayGoTo_23 : decode cX_mayGoTo 23 = .ok (.iconst 1, 1) := by decide +kernel
theorem dX_mayGoTo_24 : decode cX_mayGoTo 24 = .ok (.goto 4, 3) := by decide +kernel
theorem dX_mayGoTo_27 : decode cX_mayGoTo 27 = .ok (.iconst 0, 1) := by decide +kernel
theorem dX_mayGoTo_28 : decode cX_mayGoTo 28 = .ok (.ireturn, 1) := by decide +kernel
theorem dX_isHeading_0 : decode cX_isHeading 0 = .ok (.iload_n 0, 1) := by decide +kernel
theorem dX_isHeading_1 : decode cX_isHeading 1 = .ok (.iconst 1, 1) := by decide +kernel
theorem dX_isHeading_2 : decode cX_isHeading 2 = .ok (.if_icmp .lt 13, 3) := by decide +kernel
theorem dX_isHeading_5 : decode cX_isHeading 5 = .ok (.iload_n 0, 1) := by decide +kernel
theorem dX_isHeading_6 : decode cX_isHeading 6 = .ok (.bipush 99, 2) := by decide +kernel
theorem dX_isHeading_8 : decode cX_isHeading 8 = .ok (.if_icmp .gt 7, 3) := by decide +kernel
theorem dX_isHeading_11 : decode cX_isHeading 11 = .ok (.iconst 1, 1) := by decide +kernel
theorem dX_isHeading_12 : decode cX_isHeading 12 = .ok (.goto 4, 3) := by decide +kernel
theorem dX_isHeading_15 : decode cX_isHeading 15 = .ok (.iconst 0, 1) := by decide +kernel
theorem dX_isHeading_16 : decode cX_isHeading 16 = .ok (.ireturn, 1) := by decide +kernel
theorem dX_liesIn_0 : decode cX_liesIn 0 = .ok (.aload_n 0, 1) := by decide +kernel
theorem dX_liesIn_1 : decode cX_liesIn 1 = .ok (.getfield 17, 3) := by decide +kernel
theorem dX_liesIn_4 : decode cX_liesIn 4 = .ok (.iload_n 1, 1) := by decide +kernel
theorem dX_liesIn_5 : decode cX_liesIn 5 = .ok (.iaload, 1) := by decide +kernel
theorem dX_liesIn_6 : decode cX_liesIn 6 = .ok (.istore_n 3, 1) := by decide +kernel
theorem dX_liesIn_7 : decode cX_liesIn 7 = .ok (.iconst 0, 1) := by decide +kernel
theorem dX_liesIn_8 : decode cX_liesIn 8 = .ok (.istore 4, 2) := by decide +kernel
theorem dX_liesIn_10 : decode cX_liesIn 10 = .ok (.iload 4, 2) := by decide +kernel
theorem dX_liesIn_12 : decode cX_liesIn 12 = .ok (.bipush 60, 2) := by decide +kernel
theorem dX_liesIn_14 : decode cX_liesIn 14 = .ok (.if_icmp .ge 27, 3) := by decide +kernel
theorem dX_liesIn_17 : decode cX_liesIn 17 = .ok (.iload_n 3, 1) := by decide +kernel
theorem dX_liesIn_18 : decode cX_liesIn 18 = .ok (.ifCond .eq 23, 3) := by decide +kernel
theorem dX_liesIn_21 : decode cX_liesIn 21 = .ok (.iload_n 3, 1) := by decide +kernel
theorem dX_liesIn_22 : decode cX_liesIn 22 = .ok (.iload_n 2, 1) := by decide +kernel
theorem dX_liesIn_23 : decode cX_liesIn 23 = .ok (.if_icmp .ne 5, 3) := by decide +kernel
theorem dX_liesIn_26 : decode cX_liesIn 26 = .ok (.iconst 1, 1) := by decide +kernel
theorem dX_liesIn_27 : decode cX_liesIn 27 = .ok (.ireturn, 1) := by decide +kernel
theorem dX_liesIn_28 : decode cX_liesIn 28 = .ok (.aload_n 0, 1) := by decide +kernel
theorem dX_liesIn_29 : decode cX_liesIn 29 = .ok (.getfield 17, 3) := by decide +kernel
theorem dX_liesIn_32 : decode cX_liesIn 32 = .ok (.iload_n 3, 1) := by decide +kernel
theorem dX_liesIn_33 : decode cX_liesIn 33 = .ok (.iaload, 1) := by decide +kernel
theorem dX_liesIn_34 : decode cX_liesIn 34 = .ok (.istore_n 3, 1) := by decide +kernel
theorem dX_liesIn_35 : decode cX_liesIn 35 = .ok (.iinc 4 1, 3) := by decide +kernel
theorem dX_liesIn_38 : decode cX_liesIn 38 = .ok (.goto (-28), 3) := by decide +kernel
theorem dX_liesIn_41 : decode cX_liesIn 41 = .ok (.iconst 0, 1) := by decide +kernel
theorem dX_liesIn_42 : decode cX_liesIn 42 = .ok (.ireturn, 1) := by decide +kernel
theorem dX_keepRefusedWay_0 : decode cX_keepRefusedWay 0 = .ok (.aload_n 0, 1) := by decide +kernel
theorem dX_keepRefusedWay_1 : decode cX_keepRefusedWay 1 = .ok (.iconst 0, 1) := by decide +kernel
theorem dX_keepRefusedWay_2 : decode cX_keepRefusedWay 2 = .ok (.putfield 45, 3) := by decide +kernel
theorem dX_keepRefusedWay_5 : decode cX_keepRefusedWay 5 = .ok (.iload_n 1, 1) := by decide +kernel
theorem dX_keepRefusedWay_6 : decode cX_keepRefusedWay 6 = .ok (.istore_n 3, 1) := by decide +kernel
theorem dX_keepRefusedWay_7 : decode cX_keepRefusedWay 7 = .ok (.aload_n 0, 1) := by decide +kernel
theorem dX_keepRefusedWay_8 : decode cX_keepRefusedWay 8 = .ok (.getfield 45, 3) := by decide +kernel
theorem dX_keepRefusedWay_11 : decode cX_keepRefusedWay 11 = .ok (.bipush 60, 2) := by decide +kernel
theorem dX_keepRefusedWay_13 : decode cX_keepRefusedWay 13 = .ok (.if_icmp .ge 46, 3) := by decide +kernel
theorem dX_keepRefusedWay_16 : decode cX_keepRefusedWay 16 = .ok (.iload_n 3, 1) := by decide +kernel
theorem dX_keepRefusedWay_17 : decode cX_keepRefusedWay 17 = .ok (.ifCond .eq 42, 3) := by decide +kernel
theorem dX_keepRefusedWay_20 : decode cX_keepRefusedWay 20 = .ok (.aload_n 0, 1) := by decide +kernel
theorem dX_keepRefusedWay_21 : decode cX_keepRefusedWay 21 = .ok (.getfield 42, 3) := by decide +kernel
theorem dX_keepRefusedWay_24 : decode cX_keepRefusedWay 24 = .ok (.aload_n 0, 1) := by decide +kernel
theorem dX_keepRefusedWay_25 : decode cX_keepRefusedWay 25 = .ok (.getfield 45, 3) := by decide +kernel
theorem dX_keepRefusedWay_28 : decode cX_keepRefusedWay 28 = .ok (.iload_n 3, 1) := by decide +kernel
theorem dX_keepRefusedWay_29 : decode cX_keepRefusedWay 29 = .ok (.iastore, 1) := by decide +kernel
theorem dX_keepRefusedWay_30 : decode cX_keepRefusedWay 30 = .ok (.aload_n 0, 1) := by decide +kernel
theorem dX_keepRefusedWay_31 : decode cX_keepRefusedWay 31 = .ok (.dup, 1) := by decide +kernel
theorem dX_keepRefusedWay_32 : decode cX_keepRefusedWay 32 = .ok (.getfield 45, 3) := by decide +kernel
theorem dX_keepRefusedWay_35 : decode cX_keepRefusedWay 35 = .ok (.iconst 1, 1) := by decide +kernel
theorem dX_keepRefusedWay_36 : decode cX_keepRefusedWay 36 = .ok (.iadd, 1) := by decide +kernel
theorem dX_keepRefusedWay_37 : decode cX_keepRefusedWay 37 = .ok (.putfield 45, 3) := by decide +kernel
theorem dX_keepRefusedWay_40 : decode cX_keepRefusedWay 40 = .ok (.iload_n 3, 1) := by decide +kernel
theorem dX_keepRefusedWay_41 : decode cX_keepRefusedWay 41 = .ok (.iload_n 2, 1) := by decide +kernel
theorem dX_keepRefusedWay_42 : decode cX_keepRefusedWay 42 = .ok (.if_icmp .ne 7, 3) := by decide +kernel
theorem dX_keepRefusedWay_45 : decode cX_keepRefusedWay 45 = .ok (.iconst 0, 1) := by decide +kernel
theorem dX_keepRefusedWay_46 : decode cX_keepRefusedWay 46 = .ok (.goto 9, 3) := by decide +kernel
theorem dX_keepRefusedWay_49 : decode cX_keepRefusedWay 49 = .ok (.aload_n 0, 1) := by decide +kernel
theorem dX_keepRefusedWay_50 : decode cX_keepRefusedWay 50 = .ok (.getfield 17, 3) := by decide +kernel
theorem dX_keepRefusedWay_53 : decode cX_keepRefusedWay 53 = .ok (.iload_n 3, 1) := by decide +kernel
theorem dX_keepRefusedWay_54 : decode cX_keepRefusedWay 54 = .ok (.iaload, 1) := by decide +kernel
theorem dX_keepRefusedWay_55 : decode cX_keepRefusedWay 55 = .ok (.istore_n 3, 1) := by decide +kernel
theorem dX_keepRefusedWay_56 : decode cX_keepRefusedWay 56 = .ok (.goto (-49), 3) := by decide +kernel
theorem dX_keepRefusedWay_59 : decode cX_keepRefusedWay 59 = .ok (.return_, 1) := by decide +kernel
theorem dX_addLink_0 : decode cX_addLink 0 = .ok (.aload_n 0, 1) := by decide +kernel
theorem dX_addLink_1 : decode cX_addLink 1 = .ok (.getfield 30, 3) := by decide +kernel
theorem dX_addLink_4 : decode cX_addLink 4 = .ok (.aload_n 0, 1) := by decide +kernel
theorem dX_addLink_5 : decode cX_addLink 5 = .ok (.getfield 39, 3) := by decide +kernel
theorem dX_addLink_8 : decode cX_addLink 8 = .ok (.iload_n 1, 1) := by decide +kernel
theorem dX_addLink_9 : decode cX_addLink 9 = .ok (.iastore, 1) := by decide +kernel
theorem dX_addLink_10 : decode cX_addLink 10 = .ok (.aload_n 0, 1) := by decide +kernel
theorem dX_addLink_11 : decode cX_addLink 11 = .ok (.getfield 33, 3) := by decide +kernel
theorem dX_addLink_14 : decode cX_addLink 14 = .ok (.aload_n 0, 1) := by decide +kernel
theorem dX_addLink_15 : decode cX_addLink 15 = .ok (.getfield 39, 3) := by decide +kernel
theorem dX_addLink_18 : decode cX_addLink 18 = .ok (.iload_n 2, 1) := by decide +kernel
theorem dX_addLink_19 : decode cX_addLink 19 = .ok (.iastore, 1) := by decide +kernel
theorem dX_addLink_20 : decode cX_addLink 20 = .ok (.aload_n 0, 1) := by decide +kernel
theorem dX_addLink_21 : decode cX_addLink 21 = .ok (.getfield 36, 3) := by decide +kernel
theorem dX_addLink_24 : decode cX_addLink 24 = .ok (.aload_n 0, 1) := by decide +kernel
theorem dX_addLink_25 : decode cX_addLink 25 = .ok (.getfield 39, 3) := by decide +kernel
theorem dX_addLink_28 : decode cX_addLink 28 = .ok (.iload_n 3, 1) := by decide +kernel
theorem dX_addLink_29 : decode cX_addLink 29 = .ok (.iastore, 1) := by decide +kernel
theorem dX_addLink_30 : decode cX_addLink 30 = .ok (.aload_n 0, 1) := by decide +kernel
theorem dX_addLink_31 : decode cX_addLink 31 = .ok (.dup, 1) := by decide +kernel
theorem dX_addLink_32 : decode cX_addLink 32 = .ok (.getfield 39, 3) := by decide +kernel
theorem dX_addLink_35 : decode cX_addLink 35 = .ok (.iconst 1, 1) := by decide +kernel
theorem dX_addLink_36 : decode cX_addLink 36 = .ok (.iadd, 1) := by decide +kernel
theorem dX_addLink_37 : decode cX_addLink 37 = .ok (.putfield 39, 3) := by decide +kernel
theorem dX_addLink_40 : decode cX_addLink 40 = .ok (.iload_n 2, 1) := by decide +kernel
theorem dX_addLink_41 : decode cX_addLink 41 = .ok (.ifCond .ne 10, 3) := by decide +kernel
theorem dX_addLink_44 : decode cX_addLink 44 = .ok (.aload_n 0, 1) := by decide +kernel
theorem dX_addLink_45 : decode cX_addLink 45 = .ok (.getfield 17, 3) := by decide +kernel
theorem dX_addLink_48 : decode cX_addLink 48 = .ok (.iload_n 1, 1) := by decide +kernel
theorem dX_addLink_49 : decode cX_addLink 49 = .ok (.iload_n 3, 1) := by decide +kernel
theorem dX_addLink_50 : decode cX_addLink 50 = .ok (.iastore, 1) := by decide +kernel
theorem dX_addLink_51 : decode cX_addLink 51 = .ok (.return_, 1) := by decide +kernel
theorem dX_noteChange_0 : decode cX_noteChange 0 = .ok (.aload_n 0, 1) := by decide +kernel
theorem dX_noteChange_1 : decode cX_noteChange 1 = .ok (.getfield 20, 3) := by decide +kernel
theorem dX_noteChange_4 : decode cX_noteChange 4 = .ok (.iload_n 1, 1) := by decide +kernel
theorem dX_noteChange_5 : decode cX_noteChange 5 = .ok (.iaload, 1) := by decide +kernel
theorem dX_noteChange_6 : decode cX_noteChange 6 = .ok (.istore_n 2, 1) := by decide +kernel
theorem dX_noteChange_7 : decode cX_noteChange 7 = .ok (.iload_n 2, 1) := by decide +kernel
theorem dX_noteChange_8 : decode cX_noteChange 8 = .ok (.bipush 40, 2) := by decide +kernel
theorem dX_noteChange_10 : decode cX_noteChange 10 = .ok (.if_icmp .lt 4, 3) := by decide +kernel
theorem dX_noteChange_13 : decode cX_noteChange 13 = .ok (.return_, 1) := by decide +kernel
theorem dX_noteChange_14 : decode cX_noteChange 14 = .ok (.iload_n 1, 1) := by decide +kernel
theorem dX_noteChange_15 : decode cX_noteChange 15 = .ok (.bipush 40, 2) := by decide +kernel
theorem dX_noteChange_17 : decode cX_noteChange 17 = .ok (.imul, 1) := by decide +kernel
theorem dX_noteChange_18 : decode cX_noteChange 18 = .ok (.iload_n 2, 1) := by decide +kernel
theorem dX_noteChange_19 : decode cX_noteChange 19 = .ok (.iadd, 1) := by decide +kernel
theorem dX_noteChange_20 : decode cX_noteChange 20 = .ok (.istore_n 3, 1) := by decide +kernel
theorem dX_noteChange_21 : decode cX_noteChange 21 = .ok (.iload_n 2, 1) := by decide +kernel
theorem dX_noteChange_22 : decode cX_noteChange 22 = .ok (.ifCond .le 19, 3) := by decide +kernel
theorem dX_noteChange_25 : decode cX_noteChange 25 = .ok (.aload_n 0, 1) := by decide +kernel
theorem dX_noteChange_26 : decode cX_noteChange 26 = .ok (.getfield 23, 3) := by decide +kernel
theorem dX_noteChange_29 : decode cX_noteChange 29 = .ok (.iload_n 3, 1) := by decide +kernel
theorem dX_noteChange_30 : decode cX_noteChange 30 = .ok (.iconst 1, 1) := by decide +kernel
theorem dX_noteChange_31 : decode cX_noteChange 31 = .ok (.isub, 1) := by decide +kernel
theorem dX_noteChange_32 : decode cX_noteChange 32 = .ok (.iaload, 1) := by decide +kernel
theorem dX_noteChange_33 : decode cX_noteChange 33 = .ok (.aload_n 0, 1) := by decide +kernel
theorem dX_noteChange_34 : decode cX_noteChange 34 = .ok (.getfield 48, 3) := by decide +kernel
theorem dX_noteChange_37 : decode cX_noteChange 37 = .ok (.if_icmp .ne 4, 3) := by decide +kernel
theorem dX_noteChange_40 : decode cX_noteChange 40 = .ok (.return_, 1) := by decide +kernel
theorem dX_noteChange_41 : decode cX_noteChange 41 = .ok (.aload_n 0, 1) := by decide +kernel
theorem dX_noteChange_42 : decode cX_noteChange 42 = .ok (.getfield 23, 3) := by decide +kernel
theorem dX_noteChange_45 : decode cX_noteChange 45 = .ok (.iload_n 3, 1) := by decide +kernel
theorem dX_noteChange_46 : decode cX_noteChange 46 = .ok (.aload_n 0, 1) := by decide +kernel
theorem dX_noteChange_47 : decode cX_noteChange 47 = .ok (.getfield 48, 3) := by decide +kernel
theorem dX_noteChange_50 : decode cX_noteChange 50 = .ok (.iastore, 1) := by decide +kernel
theorem dX_noteChange_51 : decode cX_noteChange 51 = .ok (.aload_n 0, 1) := by decide +kernel
theorem dX_noteChange_52 : decode cX_noteChange 52 = .ok (.getfield 20, 3) := by decide +kernel
theorem dX_noteChange_55 : decode cX_noteChange 55 = .ok (.iload_n 1, 1) := by decide +kernel
theorem dX_noteChange_56 : decode cX_noteChange 56 = .ok (.iload_n 2, 1) := by decide +kernel
theorem dX_noteChange_57 : decode cX_noteChange 57 = .ok (.iconst 1, 1) := by decide +kernel
theorem dX_noteChange_58 : decode cX_noteChange 58 = .ok (.iadd, 1) := by decide +kernel
theorem dX_noteChange_59 : decode cX_noteChange 59 = .ok (.iastore, 1) := by decide +kernel
theorem dX_noteChange_60 : decode cX_noteChange 60 = .ok (.return_, 1) := by decide +kernel
theorem dX_change_0 : decode cX_change 0 = .ok (.aload_n 0, 1) := by decide +kernel
theorem dX_change_1 : decode cX_change 1 = .ok (.dup, 1) := by decide +kernel
theorem dX_change_2 : decode cX_change 2 = .ok (.getfield 48, 3) := by decide +kernel
theorem dX_change_5 : decode cX_change 5 = .ok (.iconst 1, 1) := by decide +kernel
theorem dX_change_6 : decode cX_change 6 = .ok (.iadd, 1) := by decide +kernel
theorem dX_change_7 : decode cX_change 7 = .ok (.putfield 48, 3) := by decide +kernel
theorem dX_change_10 : decode cX_change 10 = .ok (.iload_n 1, 1) := by decide +kernel
theorem dX_change_11 : decode cX_change 11 = .ok (.invokestatic 71, 3) := by decide +kernel
theorem dX_change_14 : decode cX_change 14 = .ok (.ifCond .eq 15, 3) := by decide +kernel
theorem dX_change_17 : decode cX_change 17 = .ok (.iload_n 2, 1) := by decide +kernel
theorem dX_change_18 : decode cX_change 18 = .ok (.invokestatic 71, 3) := by decide +kernel
theorem dX_change_21 : decode cX_change 21 = .ok (.ifCond .eq 8, 3) := by decide +kernel
theorem dX_change_24 : decode cX_change 24 = .ok (.iload_n 1, 1) := by decide +kernel
theorem dX_change_25 : decode cX_change 25 = .ok (.iload_n 2, 1) := by decide +kernel
theorem dX_change_26 : decode cX_change 26 = .ok (.if_icmp .ne 5, 3) := by decide +kernel
theorem dX_change_29 : decode cX_change 29 = .ok (.iconst 0, 1) := by decide +kernel
theorem dX_change_30 : decode cX_change 30 = .ok (.ireturn, 1) := by decide +kernel
theorem dX_change_31 : decode cX_change 31 = .ok (.iconst 0, 1) := by decide +kernel
theorem dX_change_32 : decode cX_change 32 = .ok (.istore_n 3, 1) := by decide +kernel
theorem dX_change_33 : decode cX_change 33 = .ok (.aload_n 0, 1) := by decide +kernel
theorem dX_change_34 : decode cX_change 34 = .ok (.getfield 39, 3) := by decide +kernel
theorem dX_change_37 : decode cX_change 37 = .ok (.iconst 1, 1) := by decide +kernel
theorem dX_change_38 : decode cX_change 38 = .ok (.isub, 1) := by decide +kernel
theorem dX_change_39 : decode cX_change 39 = .ok (.istore 4, 2) := by decide +kernel
theorem dX_change_41 : decode cX_change 41 = .ok (.iload 4, 2) := by decide +kernel
theorem dX_change_43 : decode cX_change 43 = .ok (.ifCond .lt 52, 3) := by decide +kernel
theorem dX_change_46 : decode cX_change 46 = .ok (.aload_n 0, 1) := by decide +kernel
theorem dX_change_47 : decode cX_change 47 = .ok (.getfield 33, 3) := by decide +kernel
theorem dX_change_50 : decode cX_change 50 = .ok (.iload 4, 2) := by decide +kernel
theorem dX_change_52 : decode cX_change 52 = .ok (.iaload, 1) := by decide +kernel
theorem dX_change_53 : decode cX_change 53 = .ok (.iconst 4, 1) := by decide +kernel
theorem dX_change_54 : decode cX_change 54 = .ok (.if_icmp .lt 35, 3) := by decide +kernel
theorem dX_change_57 : decode cX_change 57 = .ok (.aload_n 0, 1) := by decide +kernel
theorem dX_change_58 : decode cX_change 58 = .ok (.getfield 36, 3) := by decide +kernel
theorem dX_change_61 : decode cX_change 61 = .ok (.iload 4, 2) := by decide +kernel
theorem dX_change_63 : decode cX_change 63 = .ok (.iaload, 1) := by decide +kernel
theorem dX_change_64 : decode cX_change 64 = .ok (.iload_n 1, 1) := by decide +kernel
theorem dX_change_65 : decode cX_change 65 = .ok (.if_icmp .ne 24, 3) := by decide +kernel
theorem dX_change_68 : decode cX_change 68 = .ok (.iinc 3 1, 3) := by decide +kernel
theorem dX_change_71 : decode cX_change 71 = .ok (.aload_n 0, 1) := by decide +kernel
theorem dX_change_72 : decode cX_change 72 = .ok (.aload_n 0, 1) := by decide +kernel
theorem dX_change_73 : decode cX_change 73 = .ok (.getfield 30, 3) := by decide +kernel
theorem dX_change_76 : decode cX_change 76 = .ok (.iload 4, 2) := by decide +kernel
theorem dX_change_78 : decode cX_change 78 = .ok (.iaload, 1) := by decide +kernel
theorem dX_change_79 : decode cX_change 79 = .ok (.invokevirtual 67, 3) := by decide +kernel
theorem dX_change_82 : decode cX_change 82 = .ok (.aload_n 0, 1) := by decide +kernel
theorem dX_change_83 : decode cX_change 83 = .ok (.iload 4, 2) := by decide +kernel
theorem dX_change_85 : decode cX_change 85 = .ok (.iload_n 2, 1) := by decide +kernel
theorem dX_change_86 : decode cX_change 86 = .ok (.invokevirtual 75, 3) := by decide +kernel
theorem dX_change_89 : decode cX_change 89 = .ok (.iinc 4 (-1), 3) := by decide +kernel
theorem dX_change_92 : decode cX_change 92 = .ok (.goto (-51), 3) := by decide +kernel
theorem dX_change_95 : decode cX_change 95 = .ok (.iload_n 3, 1) := by decide +kernel
theorem dX_change_96 : decode cX_change 96 = .ok (.ireturn, 1) := by decide +kernel
theorem dX_sendToHeading_0 : decode cX_sendToHeading 0 = .ok (.aload_n 0, 1) := by decide +kernel
theorem dX_sendToHeading_1 : decode cX_sendToHeading 1 = .ok (.aload_n 0, 1) := by decide +kernel
theorem dX_sendToHeading_2 : decode cX_sendToHeading 2 = .ok (.getfield 30, 3) := by decide +kernel
theorem dX_sendToHeading_5 : decode cX_sendToHeading 5 = .ok (.iload_n 1, 1) := by decide +kernel
theorem dX_sendToHeading_6 : decode cX_sendToHeading 6 = .ok (.iaload, 1) := by decide +kernel
theorem dX_sendToHeading_7 : decode cX_sendToHeading 7 = .ok (.aload_n 0, 1) := by decide +kernel
theorem dX_sendToHeading_8 : decode cX_sendToHeading 8 = .ok (.getfield 33, 3) := by decide +kernel
theorem dX_sendToHeading_11 : decode cX_sendToHeading 11 = .ok (.iload_n 1, 1) := by decide +kernel
theorem dX_sendToHeading_12 : decode cX_sendToHeading 12 = .ok (.iaload, 1) := by decide +kernel
theorem dX_sendToHeading_13 : decode cX_sendToHeading 13 = .ok (.iload_n 2, 1) := by decide +kernel
theorem dX_sendToHeading_14 : decode cX_sendToHeading 14 = .ok (.invokevirtual 113, 3) := by decide +kernel
theorem dX_sendToHeading_17 : decode cX_sendToHeading 17 = .ok (.istore_n 3, 1) := by decide +kernel
theorem dX_sendToHeading_18 : decode cX_sendToHeading 18 = .ok (.aload_n 0, 1) := by decide +kernel
theorem dX_sendToHeading_19 : decode cX_sendToHeading 19 = .ok (.getfield 36, 3) := by decide +kernel
theorem dX_sendToHeading_22 : decode cX_sendToHeading 22 = .ok (.iload_n 1, 1) := by decide +kernel
theorem dX_sendToHeading_23 : decode cX_sendToHeading 23 = .ok (.iload_n 2, 1) := by decide +kernel
theorem dX_sendToHeading_24 : decode cX_sendToHeading 24 = .ok (.iastore, 1) := by decide +kernel
theorem dX_sendToHeading_25 : decode cX_sendToHeading 25 = .ok (.iload_n 3, 1) := by decide +kernel
theorem dX_sendToHeading_26 : decode cX_sendToHeading 26 = .ok (.iconst (-1), 1) := by decide +kernel
theorem dX_sendToHeading_27 : decode cX_sendToHeading 27 = .ok (.if_icmp .eq 12, 3) := by decide +kernel
theorem dX_sendToHeading_30 : decode cX_sendToHeading 30 = .ok (.aload_n 0, 1) := by decide +kernel
theorem dX_sendToHeading_31 : decode cX_sendToHeading 31 = .ok (.iload_n 1, 1) := by decide +kernel
theorem dX_sendToHeading_32 : decode cX_sendToHeading 32 = .ok (.iload_n 3, 1) := by decide +kernel
theorem dX_sendToHeading_33 : decode cX_sendToHeading 33 = .ok (.invokestatic 117, 3) := by decide +kernel
theorem dX_sendToHeading_36 : decode cX_sendToHeading 36 = .ok (.invokevirtual 82, 3) := by decide +kernel
theorem dX_sendToHeading_39 : decode cX_sendToHeading 39 = .ok (.return_, 1) := by decide +kernel
theorem dX_findLink_0 : decode cX_findLink 0 = .ok (.iconst 0, 1) := by decide +kernel
theorem dX_findLink_1 : decode cX_findLink 1 = .ok (.istore 4, 2) := by decide +kernel
theorem dX_findLink_3 : decode cX_findLink 3 = .ok (.iload 4, 2) := by decide +kernel
theorem dX_findLink_5 : decode cX_findLink 5 = .ok (.aload_n 0, 1) := by decide +kernel
theorem dX_findLink_6 : decode cX_findLink 6 = .ok (.getfield 39, 3) := by decide +kernel
theorem dX_findLink_9 : decode cX_findLink 9 = .ok (.if_icmp .ge 45, 3) := by decide +kernel
theorem dX_findLink_12 : decode cX_findLink 12 = .ok (.aload_n 0, 1) := by decide +kernel
theorem dX_findLink_13 : decode cX_findLink 13 = .ok (.getfield 30, 3) := by decide +kernel
theorem dX_findLink_16 : decode cX_findLink 16 = .ok (.iload 4, 2) := by decide +kernel
theorem dX_findLink_18 : decode cX_findLink 18 = .ok (.iaload, 1) := by decide +kernel
theorem dX_findLink_19 : decode cX_findLink 19 = .ok (.iload_n 1, 1) := by decide +kernel
theorem dX_findLink_20 : decode cX_findLink 20 = .ok (.if_icmp .ne 28, 3) := by decide +kernel
theorem dX_findLink_23 : decode cX_findLink 23 = .ok (.aload_n 0, 1) := by decide +kernel
theorem dX_findLink_24 : decode cX_findLink 24 = .ok (.getfield 33, 3) := by decide +kernel
theorem dX_findLink_27 : decode cX_findLink 27 = .ok (.iload 4, 2) := by decide +kernel
theorem dX_findLink_29 : decode cX_findLink 29 = .ok (.iaload, 1) := by decide +kernel
theorem dX_findLink_30 : decode cX_findLink 30 = .ok (.iload_n 2, 1) := by decide +kernel
theorem dX_findLink_31 : decode cX_findLink 31 = .ok (.if_icmp .ne 17, 3) := by decide +kernel
theorem dX_findLink_34 : decode cX_findLink 34 = .ok (.aload_n 0, 1) := by decide +kernel
theorem dX_findLink_35 : decode cX_findLink 35 = .ok (.getfield 36, 3) := by decide +kernel
theorem dX_findLink_38 : decode cX_findLink 38 = .ok (.iload 4, 2) := by decide +kernel
theorem dX_findLink_40 : decode cX_findLink 40 = .ok (.iaload, 1) := by decide +kernel
theorem dX_findLink_41 : decode cX_findLink 41 = .ok (.iload_n 3, 1) := by decide +kernel
theorem dX_findLink_42 : decode cX_findLink 42 = .ok (.if_icmp .ne 6, 3) := by decide +kernel
theorem dX_findLink_45 : decode cX_findLink 45 = .ok (.iload 4, 2) := by decide +kernel
theorem dX_findLink_47 : decode cX_findLink 47 = .ok (.ireturn, 1) := by decide +kernel
theorem dX_findLink_48 : decode cX_findLink 48 = .ok (.iinc 4 1, 3) := by decide +kernel
theorem dX_findLink_51 : decode cX_findLink 51 = .ok (.goto (-48), 3) := by decide +kernel
theorem dX_findLink_54 : decode cX_findLink 54 = .ok (.iconst (-1), 1) := by decide +kernel
theorem dX_findLink_55 : decode cX_findLink 55 = .ok (.ireturn, 1) := by decide +kernel
theorem dX_removeLink_0 : decode cX_removeLink 0 = .ok (.aload_n 0, 1) := by decide +kernel
theorem dX_removeLink_1 : decode cX_removeLink 1 = .ok (.getfield 39, 3) := by decide +kernel
theorem dX_removeLink_4 : decode cX_removeLink 4 = .ok (.iload_n 1, 1) := by decide +kernel
theorem dX_removeLink_5 : decode cX_removeLink 5 = .ok (.isub, 1) := by decide +kernel
theorem dX_removeLink_6 : decode cX_removeLink 6 = .ok (.iconst 1, 1) := by decide +kernel
theorem dX_removeLink_7 : decode cX_removeLink 7 = .ok (.isub, 1) := by decide +kernel
theorem dX_removeLink_8 : decode cX_removeLink 8 = .ok (.istore_n 2, 1) := by decide +kernel
theorem dX_removeLink_9 : decode cX_removeLink 9 = .ok (.aload_n 0, 1) := by decide +kernel
theorem dX_removeLink_10 : decode cX_removeLink 10 = .ok (.getfield 30, 3) := by decide +kernel
theorem dX_removeLink_13 : decode cX_removeLink 13 = .ok (.iload_n 1, 1) := by decide +kernel
theorem dX_removeLink_14 : decode cX_removeLink 14 = .ok (.iconst 1, 1) := by decide +kernel
theorem dX_removeLink_15 : decode cX_removeLink 15 = .ok (.iadd, 1) := by decide +kernel
theorem dX_removeLink_16 : decode cX_removeLink 16 = .ok (.aload_n 0, 1) := by decide +kernel
theorem dX_removeLink_17 : decode cX_removeLink 17 = .ok (.getfield 30, 3) := by decide +kernel
theorem dX_removeLink_20 : decode cX_removeLink 20 = .ok (.iload_n 1, 1) := by decide +kernel
theorem dX_removeLink_21 : decode cX_removeLink 21 = .ok (.iload_n 2, 1) := by decide +kernel
theorem dX_removeLink_22 : decode cX_removeLink 22 = .ok (.invokestatic 107, 3) := by decide +kernel
theorem dX_removeLink_25 : decode cX_removeLink 25 = .ok (.aload_n 0, 1) := by decide +kernel
theorem dX_removeLink_26 : decode cX_removeLink 26 = .ok (.getfield 33, 3) := by decide +kernel
theorem dX_removeLink_29 : decode cX_removeLink 29 = .ok (.iload_n 1, 1) := by decide +kernel
theorem dX_removeLink_30 : decode cX_removeLink 30 = .ok (.iconst 1, 1) := by decide +kernel
theorem dX_removeLink_31 : decode cX_removeLink 31 = .ok (.iadd, 1) := by decide +kernel
theorem dX_removeLink_32 : decode cX_removeLink 32 = .ok (.aload_n 0, 1) := by decide +kernel
theorem dX_removeLink_33 : decode cX_removeLink 33 = .ok (.getfield 33, 3) := by decide +kernel
theorem dX_removeLink_36 : decode cX_removeLink 36 = .ok (.iload_n 1, 1) := by decide +kernel
theorem dX_removeLink_37 : decode cX_removeLink 37 = .ok (.iload_n 2, 1) := by decide +kernel
theorem dX_removeLink_38 : decode cX_removeLink 38 = .ok (.invokestatic 107, 3) := by decide +kernel
theorem dX_removeLink_41 : decode cX_removeLink 41 = .ok (.aload_n 0, 1) := by decide +kernel
theorem dX_removeLink_42 : decode cX_removeLink 42 = .ok (.getfield 36, 3) := by decide +kernel
theorem dX_removeLink_45 : decode cX_removeLink 45 = .ok (.iload_n 1, 1) := by decide +kernel
theorem dX_removeLink_46 : decode cX_removeLink 46 = .ok (.iconst 1, 1) := by decide +kernel
theorem dX_removeLink_47 : decode cX_removeLink 47 = .ok (.iadd, 1) := by decide +kernel
theorem dX_removeLink_48 : decode cX_removeLink 48 = .ok (.aload_n 0, 1) := by decide +kernel
theorem dX_removeLink_49 : decode cX_removeLink 49 = .ok (.getfield 36, 3) := by decide +kernel
theorem dX_removeLink_52 : decode cX_removeLink 52 = .ok (.iload_n 1, 1) := by decide +kernel
theorem dX_removeLink_53 : decode cX_removeLink 53 = .ok (.iload_n 2, 1) := by decide +kernel
theorem dX_removeLink_54 : decode cX_removeLink 54 = .ok (.invokestatic 107, 3) := by decide +kernel
theorem dX_removeLink_57 : decode cX_removeLink 57 = .ok (.aload_n 0, 1) := by decide +kernel
theorem dX_removeLink_58 : decode cX_removeLink 58 = .ok (.dup, 1) := by decide +kernel
theorem dX_removeLink_59 : decode cX_removeLink 59 = .ok (.getfield 39, 3) := by decide +kernel
theorem dX_removeLink_62 : decode cX_removeLink 62 = .ok (.iconst 1, 1) := by decide +kernel
theorem dX_removeLink_63 : decode cX_removeLink 63 = .ok (.isub, 1) := by decide +kernel
theorem dX_removeLink_64 : decode cX_removeLink 64 = .ok (.putfield 39, 3) := by decide +kernel
theorem dX_removeLink_67 : decode cX_removeLink 67 = .ok (.return_, 1) := by decide +kernel
theorem dX_broken_0 : decode cX_broken 0 = .ok (.aload_n 0, 1) := by decide +kernel
theorem dX_broken_1 : decode cX_broken 1 = .ok (.iload_n 1, 1) := by decide +kernel
theorem dX_broken_2 : decode cX_broken 2 = .ok (.invokevirtual 78, 3) := by decide +kernel
theorem dX_broken_5 : decode cX_broken 5 = .ok (.istore_n 3, 1) := by decide +kernel
theorem dX_broken_6 : decode cX_broken 6 = .ok (.iload_n 3, 1) := by decide +kernel
theorem dX_broken_7 : decode cX_broken 7 = .ok (.iconst (-1), 1) := by decide +kernel
theorem dX_broken_8 : decode cX_broken 8 = .ok (.if_icmp .ne 5, 3) := by decide +kernel
theorem dX_broken_11 : decode cX_broken 11 = .ok (.iconst (-1), 1) := by decide +kernel
theorem dX_broken_12 : decode cX_broken 12 = .ok (.ireturn, 1) := by decide +kernel
theorem dX_broken_13 : decode cX_broken 13 = .ok (.iload_n 2, 1) := by decide +kernel
theorem dX_broken_14 : decode cX_broken 14 = .ok (.tableswitch 47 0 2 #[26, 33, 40], 26) := by decide +kernel
theorem dX_broken_40 : decode cX_broken 40 = .ok (.aload_n 0, 1) := by decide +kernel
theorem dX_broken_41 : decode cX_broken 41 = .ok (.getfield 30, 3) := by decide +kernel
theorem dX_broken_44 : decode cX_broken 44 = .ok (.iload_n 3, 1) := by decide +kernel
theorem dX_broken_45 : decode cX_broken 45 = .ok (.iaload, 1) := by decide +kernel
theorem dX_broken_46 : decode cX_broken 46 = .ok (.ireturn, 1) := by decide +kernel
theorem dX_broken_47 : decode cX_broken 47 = .ok (.aload_n 0, 1) := by decide +kernel
theorem dX_broken_48 : decode cX_broken 48 = .ok (.getfield 33, 3) := by decide +kernel
theorem dX_broken_51 : decode cX_broken 51 = .ok (.iload_n 3, 1) := by decide +kernel
theorem dX_broken_52 : decode cX_broken 52 = .ok (.iaload, 1) := by decide +kernel
theorem dX_broken_53 : decode cX_broken 53 = .ok (.ireturn, 1) := by decide +kernel
theorem dX_broken_54 : decode cX_broken 54 = .ok (.aload_n 0, 1) := by decide +kernel
theorem dX_broken_55 : decode cX_broken 55 = .ok (.getfield 36, 3) := by decide +kernel
theorem dX_broken_58 : decode cX_broken 58 = .ok (.iload_n 3, 1) := by decide +kernel
theorem dX_broken_59 : decode cX_broken 59 = .ok (.iaload, 1) := by decide +kernel
theorem dX_broken_60 : decode cX_broken 60 = .ok (.ireturn, 1) := by decide +kernel
theorem dX_broken_61 : decode cX_broken 61 = .ok (.iconst (-1), 1) := by decide +kernel
theorem dX_broken_62 : decode cX_broken 62 = .ok (.ireturn, 1) := by decide +kernel
theorem dX_findBroken_0 : decode cX_findBroken 0 = .ok (.iload_n 1, 1) := by decide +kernel
theorem dX_findBroken_1 : decode cX_findBroken 1 = .ok (.ifCond .ge 5, 3) := by decide +kernel
theorem dX_findBroken_4 : decode cX_findBroken 4 = .ok (.iconst (-1), 1) := by decide +kernel
theorem dX_findBroken_5 : decode cX_findBroken 5 = .ok (.ireturn, 1) := by decide +kernel
theorem dX_findBroken_6 : decode cX_findBroken 6 = .ok (.iconst 0, 1) := by decide +kernel
theorem dX_findBroken_7 : decode cX_findBroken 7 = .ok (.istore_n 2, 1) := by decide +kernel
theorem dX_findBroken_8 : decode cX_findBroken 8 = .ok (.iconst 0, 1) := by decide +kernel
theorem dX_findBroken_9 : decode cX_findBroken 9 = .ok (.istore_n 3, 1) := by decide +kernel
theorem dX_findBroken_10 : decode cX_findBroken 10 = .ok (.iload_n 3, 1) := by decide +kernel
theorem dX_findBroken_11 : decode cX_findBroken 11 = .ok (.aload_n 0, 1) := by decide +kernel
theorem dX_findBroken_12 : decode cX_findBroken 12 = .ok (.getfield 39, 3) := by decide +kernel
theorem dX_findBroken_15 : decode cX_findBroken 15 = .ok (.if_icmp .ge 43, 3) := by decide +kernel
theorem dX_findBroken_18 : decode cX_findBroken 18 = .ok (.aload_n 0, 1) := by decide +kernel
theorem dX_findBroken_19 : decode cX_findBroken 19 = .ok (.getfield 33, 3) := by decide +kernel
theorem dX_findBroken_22 : decode cX_findBroken 22 = .ok (.iload_n 3, 1) := by decide +kernel
theorem dX_findBroken_23 : decode cX_findBroken 23 = .ok (.iaload, 1) := by decide +kernel
theorem dX_findBroken_24 : decode cX_findBroken 24 = .ok (.iconst 4, 1) := by decide +kernel
theorem dX_findBroken_25 : decode cX_findBroken 25 = .ok (.if_icmp .ge 27, 3) := by decide +kernel
theorem dX_findBroken_28 : decode cX_findBroken 28 = .ok (.aload_n 0, 1) := by decide +kernel
theorem dX_findBroken_29 : decode cX_findBroken 29 = .ok (.getfield 9, 3) := by decide +kernel
theorem dX_findBroken_32 : decode cX_findBroken 32 = .ok (.aload_n 0, 1) := by decide +kernel
theorem dX_findBroken_33 : decode cX_findBroken 33 = .ok (.getfield 36, 3) := by decide +kernel
theorem dX_findBroken_36 : decode cX_findBroken 36 = .ok (.iload_n 3, 1) := by decide +kernel
theorem dX_findBroken_37 : decode cX_findBroken 37 = .ok (.iaload, 1) := by decide +kernel
theorem dX_findBroken_38 : decode cX_findBroken 38 = .ok (.baload, 1) := by decide +kernel
theorem dX_findBroken_39 : decode cX_findBroken 39 = .ok (.ifCond .ne 13, 3) := by decide +kernel
theorem dX_findBroken_42 : decode cX_findBroken 42 = .ok (.iload_n 2, 1) := by decide +kernel
theorem dX_findBroken_43 : decode cX_findBroken 43 = .ok (.iload_n 1, 1) := by decide +kernel
theorem dX_findBroken_44 : decode cX_findBroken 44 = .ok (.if_icmp .ne 5, 3) := by decide +kernel
theorem dX_findBroken_47 : decode cX_findBroken 47 = .ok (.iload_n 3, 1) := by decide +kernel
theorem dX_findBroken_48 : decode cX_findBroken 48 = .ok (.ireturn, 1) := by decide +kernel
theorem dX_findBroken_49 : decode cX_findBroken 49 = .ok (.iinc 2 1, 3) := by decide +kernel
theorem dX_findBroken_52 : decode cX_findBroken 52 = .ok (.iinc 3 1, 3) := by decide +kernel
theorem dX_findBroken_55 : decode cX_findBroken 55 = .ok (.goto (-45), 3) := by decide +kernel
theorem dX_findBroken_58 : decode cX_findBroken 58 = .ok (.iconst (-1), 1) := by decide +kernel
theorem dX_findBroken_59 : decode cX_findBroken 59 = .ok (.ireturn, 1) := by decide +kernel
theorem dX_repair_0 : decode cX_repair 0 = .ok (.aload_n 0, 1) := by decide +kernel
theorem dX_repair_1 : decode cX_repair 1 = .ok (.dup, 1) := by decide +kernel
theorem dX_repair_2 : decode cX_repair 2 = .ok (.getfield 48, 3) := by decide +kernel
theorem dX_repair_5 : decode cX_repair 5 = .ok (.iconst 1, 1) := by decide +kernel
theorem dX_repair_6 : decode cX_repair 6 = .ok (.iadd, 1) := by decide +kernel
theorem dX_repair_7 : decode cX_repair 7 = .ok (.putfield 48, 3) := by decide +kernel
theorem dX_repair_10 : decode cX_repair 10 = .ok (.aload_n 0, 1) := by decide +kernel
theorem dX_repair_11 : decode cX_repair 11 = .ok (.iload_n 1, 1) := by decide +kernel
theorem dX_repair_12 : decode cX_repair 12 = .ok (.invokevirtual 78, 3) := by decide +kernel
theorem dX_repair_15 : decode cX_repair 15 = .ok (.istore_n 2, 1) := by decide +kernel
theorem dX_repair_16 : decode cX_repair 16 = .ok (.iload_n 2, 1) := by decide +kernel
theorem dX_repair_17 : decode cX_repair 17 = .ok (.iconst (-1), 1) := by decide +kernel
theorem dX_repair_18 : decode cX_repair 18 = .ok (.if_icmp .ne 5, 3) := by decide +kernel
theorem dX_repair_21 : decode cX_repair 21 = .ok (.iconst (-1), 1) := by decide +kernel
theorem dX_repair_22 : decode cX_repair 22 = .ok (.ireturn, 1) := by decide +kernel
theorem dX_repair_23 : decode cX_repair 23 = .ok (.aload_n 0, 1) := by decide +kernel
theorem dX_repair_24 : decode cX_repair 24 = .ok (.aload_n 0, 1) := by decide +kernel
theorem dX_repair_25 : decode cX_repair 25 = .ok (.getfield 30, 3) := by decide +kernel
theorem dX_repair_28 : decode cX_repair 28 = .ok (.iload_n 2, 1) := by decide +kernel
theorem dX_repair_29 : decode cX_repair 29 = .ok (.iaload, 1) := by decide +kernel
theorem dX_repair_30 : decode cX_repair 30 = .ok (.invokevirtual 67, 3) := by decide +kernel
theorem dX_repair_33 : decode cX_repair 33 = .ok (.aload_n 0, 1) := by decide +kernel
theorem dX_repair_34 : decode cX_repair 34 = .ok (.getfield 17, 3) := by decide +kernel
theorem dX_repair_37 : decode cX_repair 37 = .ok (.aload_n 0, 1) := by decide +kernel
theorem dX_repair_38 : decode cX_repair 38 = .ok (.getfield 36, 3) := by decide +kernel
theorem dX_repair_41 : decode cX_repair 41 = .ok (.iload_n 2, 1) := by decide +kernel
theorem dX_repair_42 : decode cX_repair 42 = .ok (.iaload, 1) := by decide +kernel
theorem dX_repair_43 : decode cX_repair 43 = .ok (.iaload, 1) := by decide +kernel
theorem dX_repair_44 : decode cX_repair 44 = .ok (.istore_n 3, 1) := by decide +kernel
theorem dX_repair_45 : decode cX_repair 45 = .ok (.aload_n 0, 1) := by decide +kernel
theorem dX_repair_46 : decode cX_repair 46 = .ok (.aload_n 0, 1) := by decide +kernel
theorem dX_repair_47 : decode cX_repair 47 = .ok (.getfield 30, 3) := by decide +kernel
theorem dX_repair_50 : decode cX_repair 50 = .ok (.iload_n 2, 1) := by decide +kernel
theorem dX_repair_51 : decode cX_repair 51 = .ok (.iaload, 1) := by decide +kernel
theorem dX_repair_52 : decode cX_repair 52 = .ok (.aload_n 0, 1) := by decide +kernel
theorem dX_repair_53 : decode cX_repair 53 = .ok (.getfield 33, 3) := by decide +kernel
theorem dX_repair_56 : decode cX_repair 56 = .ok (.iload_n 2, 1) := by decide +kernel
theorem dX_repair_57 : decode cX_repair 57 = .ok (.iaload, 1) := by decide +kernel
theorem dX_repair_58 : decode cX_repair 58 = .ok (.iload_n 3, 1) := by decide +kernel
theorem dX_repair_59 : decode cX_repair 59 = .ok (.iload_n 2, 1) := by decide +kernel
theorem dX_repair_60 : decode cX_repair 60 = .ok (.invokevirtual 51, 3) := by decide +kernel
theorem dX_repair_63 : decode cX_repair 63 = .ok (.ifCond .eq 12, 3) := by decide +kernel
theorem dX_repair_66 : decode cX_repair 66 = .ok (.aload_n 0, 1) := by decide +kernel
theorem dX_repair_67 : decode cX_repair 67 = .ok (.getfield 36, 3) := by decide +kernel
theorem dX_repair_70 : decode cX_repair 70 = .ok (.iload_n 2, 1) := by decide +kernel
theorem dX_repair_71 : decode cX_repair 71 = .ok (.iload_n 3, 1) := by decide +kernel
theorem dX_repair_72 : decode cX_repair 72 = .ok (.iastore, 1) := by decide +kernel
theorem dX_repair_73 : decode cX_repair 73 = .ok (.iconst 1, 1) := by decide +kernel
theorem dX_repair_74 : decode cX_repair 74 = .ok (.ireturn, 1) := by decide +kernel
theorem dX_repair_75 : decode cX_repair 75 = .ok (.aload_n 0, 1) := by decide +kernel
theorem dX_repair_76 : decode cX_repair 76 = .ok (.iload_n 2, 1) := by decide +kernel
theorem dX_repair_77 : decode cX_repair 77 = .ok (.invokevirtual 82, 3) := by decide +kernel
theorem dX_repair_80 : decode cX_repair 80 = .ok (.iconst 0, 1) := by decide +kernel
theorem dX_repair_81 : decode cX_repair 81 = .ok (.ireturn, 1) := by decide +kernel
theorem dX_chain_0 : decode cX_chain 0 = .ok (.aload_n 0, 1) := by decide +kernel
theorem dX_chain_1 : decode cX_chain 1 = .ok (.iload_n 1, 1) := by decide +kernel
theorem dX_chain_2 : decode cX_chain 2 = .ok (.invokevirtual 85, 3) := by decide +kernel
theorem dX_chain_5 : decode cX_chain 5 = .ok (.ifCond .eq 13, 3) := by decide +kernel
theorem dX_chain_8 : decode cX_chain 8 = .ok (.iload_n 2, 1) := by decide +kernel
theorem dX_chain_9 : decode cX_chain 9 = .ok (.ifCond .lt 9, 3) := by decide +kernel
theorem dX_chain_12 : decode cX_chain 12 = .ok (.iload_n 2, 1) := by decide +kernel
theorem dX_chain_13 : decode cX_chain 13 = .ok (.bipush 60, 2) := by decide +kernel
theorem dX_chain_15 : decode cX_chain 15 = .ok (.if_icmp .lt 5, 3) := by decide +kernel
theorem dX_chain_18 : decode cX_chain 18 = .ok (.iconst 0, 1) := by decide +kernel
theorem dX_chain_19 : decode cX_chain 19 = .ok (.ireturn, 1) := by decide +kernel
theorem dX_chain_20 : decode cX_chain 20 = .ok (.aload_n 0, 1) := by decide +kernel
theorem dX_chain_21 : decode cX_chain 21 = .ok (.getfield 17, 3) := by decide +kernel
theorem dX_chain_24 : decode cX_chain 24 = .ok (.iload_n 1, 1) := by decide +kernel
theorem dX_chain_25 : decode cX_chain 25 = .ok (.iaload, 1) := by decide +kernel
theorem dX_chain_26 : decode cX_chain 26 = .ok (.istore_n 3, 1) := by decide +kernel
theorem dX_chain_27 : decode cX_chain 27 = .ok (.iconst 0, 1) := by decide +kernel
theorem dX_chain_28 : decode cX_chain 28 = .ok (.istore 4, 2) := by decide +kernel
theorem dX_chain_30 : decode cX_chain 30 = .ok (.iload 4, 2) := by decide +kernel
theorem dX_chain_32 : decode cX_chain 32 = .ok (.iload_n 2, 1) := by decide +kernel
theorem dX_chain_33 : decode cX_chain 33 = .ok (.if_icmp .ge 16, 3) := by decide +kernel
theorem dX_chain_36 : decode cX_chain 36 = .ok (.aload_n 0, 1) := by decide +kernel
theorem dX_chain_37 : decode cX_chain 37 = .ok (.getfield 17, 3) := by decide +kernel
theorem dX_chain_40 : decode cX_chain 40 = .ok (.iload_n 3, 1) := by decide +kernel
theorem dX_chain_41 : decode cX_chain 41 = .ok (.iaload, 1) := by decide +kernel
theorem dX_chain_42 : decode cX_chain 42 = .ok (.istore_n 3, 1) := by decide +kernel
theorem dX_chain_43 : decode cX_chain 43 = .ok (.iinc 4 1, 3) := by decide +kernel
theorem dX_chain_46 : decode cX_chain 46 = .ok (.goto (-16), 3) := by decide +kernel
theorem dX_chain_49 : decode cX_chain 49 = .ok (.iload_n 3, 1) := by decide +kernel
theorem dX_chain_50 : decode cX_chain 50 = .ok (.ireturn, 1) := by decide +kernel
theorem dX_ring_0 : decode cX_ring 0 = .ok (.iload_n 1, 1) := by decide +kernel
theorem dX_ring_1 : decode cX_ring 1 = .ok (.ifCond .lt 20, 3) := by decide +kernel
theorem dX_ring_4 : decode cX_ring 4 = .ok (.iload_n 1, 1) := by decide +kernel
theorem dX_ring_5 : decode cX_ring 5 = .ok (.aload_n 0, 1) := by decide +kernel
theorem dX_ring_6 : decode cX_ring 6 = .ok (.getfield 45, 3) := by decide +kernel
theorem dX_ring_9 : decode cX_ring 9 = .ok (.if_icmp .ge 12, 3) := by decide +kernel
theorem dX_ring_12 : decode cX_ring 12 = .ok (.aload_n 0, 1) := by decide +kernel
theorem dX_ring_13 : decode cX_ring 13 = .ok (.getfield 42, 3) := by decide +kernel
theorem dX_ring_16 : decode cX_ring 16 = .ok (.iload_n 1, 1) := by decide +kernel
theorem dX_ring_17 : decode cX_ring 17 = .ok (.iaload, 1) := by decide +kernel
theorem dX_ring_18 : decode cX_ring 18 = .ok (.goto 4, 3) := by decide +kernel
theorem dX_ring_21 : decode cX_ring 21 = .ok (.iconst 0, 1) := by decide +kernel
theorem dX_ring_22 : decode cX_ring 22 = .ok (.ireturn, 1) := by decide +kernel
theorem dX_host_0 : decode cX_host 0 = .ok (.aload_n 0, 1) := by decide +kernel
theorem dX_host_1 : decode cX_host 1 = .ok (.iload_n 1, 1) := by decide +kernel
theorem dX_host_2 : decode cX_host 2 = .ok (.invokevirtual 85, 3) := by decide +kernel
theorem dX_host_5 : decode cX_host 5 = .ok (.ifCond .eq 12, 3) := by decide +kernel
theorem dX_host_8 : decode cX_host 8 = .ok (.aload_n 0, 1) := by decide +kernel
theorem dX_host_9 : decode cX_host 9 = .ok (.getfield 17, 3) := by decide +kernel
theorem dX_host_12 : decode cX_host 12 = .ok (.iload_n 1, 1) := by decide +kernel
theorem dX_host_13 : decode cX_host 13 = .ok (.iaload, 1) := by decide +kernel
theorem dX_host_14 : decode cX_host 14 = .ok (.goto 4, 3) := by decide +kernel
theorem dX_host_17 : decode cX_host 17 = .ok (.iconst 0, 1) := by decide +kernel
theorem dX_host_18 : decode cX_host 18 = .ok (.ireturn, 1) := by decide +kernel
theorem dX_move_0 : decode cX_move 0 = .ok (.aload_n 0, 1) := by decide +kernel
theorem dX_move_1 : decode cX_move 1 = .ok (.dup, 1) := by decide +kernel
theorem dX_move_2 : decode cX_move 2 = .ok (.getfield 48, 3) := by decide +kernel
theorem dX_move_5 : decode cX_move 5 = .ok (.iconst 1, 1) := by decide +kernel
theorem dX_move_6 : decode cX_move 6 = .ok (.iadd, 1) := by decide +kernel
theorem dX_move_7 : decode cX_move 7 = .ok (.putfield 48, 3) := by decide +kernel
theorem dX_move_10 : decode cX_move 10 = .ok (.aload_n 0, 1) := by decide +kernel
theorem dX_move_11 : decode cX_move 11 = .ok (.iload_n 1, 1) := by decide +kernel
theorem dX_move_12 : decode cX_move 12 = .ok (.invokevirtual 85, 3) := by decide +kernel
theorem dX_move_15 : decode cX_move 15 = .ok (.ifCond .eq 13, 3) := by decide +kernel
theorem dX_move_18 : decode cX_move 18 = .ok (.iload_n 2, 1) := by decide +kernel
theorem dX_move_19 : decode cX_move 19 = .ok (.ifCond .lt 9, 3) := by decide +kernel
theorem dX_move_22 : decode cX_move 22 = .ok (.iload_n 2, 1) := by decide +kernel
theorem dX_move_23 : decode cX_move 23 = .ok (.bipush 9, 2) := by decide +kernel
theorem dX_move_25 : decode cX_move 25 = .ok (.if_icmp .le 5, 3) := by decide +kernel
theorem dX_move_28 : decode cX_move 28 = .ok (.iconst 0, 1) := by decide +kernel
theorem dX_move_29 : decode cX_move 29 = .ok (.ireturn, 1) := by decide +kernel
theorem dX_move_30 : decode cX_move 30 = .ok (.iconst 0, 1) := by decide +kernel
theorem dX_move_31 : decode cX_move 31 = .ok (.istore_n 3, 1) := by decide +kernel
theorem dX_move_32 : decode cX_move 32 = .ok (.iconst 1, 1) := by decide +kernel
theorem dX_move_33 : decode cX_move 33 = .ok (.istore 4, 2) := by decide +kernel
theorem dX_move_35 : decode cX_move 35 = .ok (.iload 4, 2) := by decide +kernel
theorem dX_move_37 : decode cX_move 37 = .ok (.aload_n 0, 1) := by decide +kernel
theorem dX_move_38 : decode cX_move 38 = .ok (.getfield 26, 3) := by decide +kernel
theorem dX_move_41 : decode cX_move 41 = .ok (.if_icmp .gt 69, 3) := by decide +kernel
theorem dX_move_44 : decode cX_move 44 = .ok (.iload 4, 2) := by decide +kernel
theorem dX_move_46 : decode cX_move 46 = .ok (.iload_n 1, 1) := by decide +kernel
theorem dX_move_47 : decode cX_move 47 = .ok (.if_icmp .eq 23, 3) := by decide +kernel
theorem dX_move_50 : decode cX_move 50 = .ok (.aload_n 0, 1) := by decide +kernel
theorem dX_move_51 : decode cX_move 51 = .ok (.getfield 9, 3) := by decide +kernel
theorem dX_move_54 : decode cX_move 54 = .ok (.iload 4, 2) := by decide +kernel
theorem dX_move_56 : decode cX_move 56 = .ok (.baload, 1) := by decide +kernel
theorem dX_move_57 : decode cX_move 57 = .ok (.ifCond .eq 17, 3) := by decide +kernel
theorem dX_move_60 : decode cX_move 60 = .ok (.aload_n 0, 1) := by decide +kernel
theorem dX_move_61 : decode cX_move 61 = .ok (.iload 4, 2) := by decide +kernel
theorem dX_move_63 : decode cX_move 63 = .ok (.iload_n 1, 1) := by decide +kernel
theorem dX_move_64 : decode cX_move 64 = .ok (.invokevirtual 55, 3) := by decide +kernel
theorem dX_move_67 : decode cX_move 67 = .ok (.ifCond .eq 7, 3) := by decide +kernel
theorem dX_move_70 : decode cX_move 70 = .ok (.iconst 1, 1) := by decide +kernel
theorem dX_move_71 : decode cX_move 71 = .ok (.goto 4, 3) := by decide +kernel
theorem dX_move_74 : decode cX_move 74 = .ok (.iconst 0, 1) := by decide +kernel
theorem dX_move_75 : decode cX_move 75 = .ok (.istore 5, 2) := by decide +kernel
theorem dX_move_77 : decode cX_move 77 = .ok (.iload 5, 2) := by decide +kernel
theorem dX_move_79 : decode cX_move 79 = .ok (.ifCond .eq 25, 3) := by decide +kernel
theorem dX_move_82 : decode cX_move 82 = .ok (.aload_n 0, 1) := by decide +kernel
theorem dX_move_83 : decode cX_move 83 = .ok (.getfield 13, 3) := by decide +kernel
theorem dX_move_86 : decode cX_move 86 = .ok (.iload 4, 2) := by decide +kernel
theorem dX_move_88 : decode cX_move 88 = .ok (.iaload, 1) := by decide +kernel
theorem dX_move_89 : decode cX_move 89 = .ok (.iload_n 2, 1) := by decide +kernel
theorem dX_move_90 : decode cX_move 90 = .ok (.if_icmp .eq 14, 3) := by decide +kernel
theorem dX_move_93 : decode cX_move 93 = .ok (.aload_n 0, 1) := by decide +kernel
theorem dX_move_94 : decode cX_move 94 = .ok (.getfield 13, 3) := by decide +kernel
theorem dX_move_97 : decode cX_move 97 = .ok (.iload 4, 2) := by decide +kernel
theorem dX_move_99 : decode cX_move 99 = .ok (.iload_n 2, 1) := by decide +kernel
theorem dX_move_100 : decode cX_move 100 = .ok (.iastore, 1) := by decide +kernel
theorem dX_move_101 : decode cX_move 101 = .ok (.iinc 3 1, 3) := by decide +kernel
theorem dX_move_104 : decode cX_move 104 = .ok (.iinc 4 1, 3) := by decide +kernel
theorem dX_move_107 : decode cX_move 107 = .ok (.goto (-72), 3) := by decide +kernel
theorem dX_move_110 : decode cX_move 110 = .ok (.iload_n 3, 1) := by decide +kernel
theorem dX_move_111 : decode cX_move 111 = .ok (.ireturn, 1) := by decide +kernel
theorem dX_delete_0 : decode cX_delete 0 = .ok (.aload_n 0, 1) := by decide +kernel
theorem dX_delete_1 : decode cX_delete 1 = .ok (.dup, 1) := by decide +kernel
theorem dX_delete_2 : decode cX_delete 2 = .ok (.getfield 48, 3) := by decide +kernel
theorem dX_delete_5 : decode cX_delete 5 = .ok (.iconst 1, 1) := by decide +kernel
theorem dX_delete_6 : decode cX_delete 6 = .ok (.iadd, 1) := by decide +kernel
theorem dX_delete_7 : decode cX_delete 7 = .ok (.putfield 48, 3) := by decide +kernel
theorem dX_delete_10 : decode cX_delete 10 = .ok (.aload_n 0, 1) := by decide +kernel
theorem dX_delete_11 : decode cX_delete 11 = .ok (.iload_n 1, 1) := by decide +kernel
theorem dX_delete_12 : decode cX_delete 12 = .ok (.invokevirtual 85, 3) := by decide +kernel
theorem dX_delete_15 : decode cX_delete 15 = .ok (.ifCond .ne 5, 3) := by decide +kernel
theorem dX_delete_18 : decode cX_delete 18 = .ok (.iconst 0, 1) := by decide +kernel
theorem dX_delete_19 : decode cX_delete 19 = .ok (.ireturn, 1) := by decide +kernel
theorem dX_delete_20 : decode cX_delete 20 = .ok (.aload_n 0, 1) := by decide +kernel
theorem dX_delete_21 : decode cX_delete 21 = .ok (.iload_n 1, 1) := by decide +kernel
theorem dX_delete_22 : decode cX_delete 22 = .ok (.invokevirtual 88, 3) := by decide +kernel
theorem dX_delete_25 : decode cX_delete 25 = .ok (.istore_n 2, 1) := by decide +kernel
theorem dX_delete_26 : decode cX_delete 26 = .ok (.iload_n 2, 1) := by decide +kernel
theorem dX_delete_27 : decode cX_delete 27 = .ok (.ifCond .le 6, 3) := by decide +kernel
theorem dX_delete_30 : decode cX_delete 30 = .ok (.iload_n 2, 1) := by decide +kernel
theorem dX_delete_31 : decode cX_delete 31 = .ok (.ineg, 1) := by decide +kernel
theorem dX_delete_32 : decode cX_delete 32 = .ok (.ireturn, 1) := by decide +kernel
theorem dX_delete_33 : decode cX_delete 33 = .ok (.aload_n 0, 1) := by decide +kernel
theorem dX_delete_34 : decode cX_delete 34 = .ok (.getfield 9, 3) := by decide +kernel
theorem dX_delete_37 : decode cX_delete 37 = .ok (.iload_n 1, 1) := by decide +kernel
theorem dX_delete_38 : decode cX_delete 38 = .ok (.iconst 0, 1) := by decide +kernel
theorem dX_delete_39 : decode cX_delete 39 = .ok (.bastore, 1) := by decide +kernel
theorem dX_delete_40 : decode cX_delete 40 = .ok (.aload_n 0, 1) := by decide +kernel
theorem dX_delete_41 : decode cX_delete 41 = .ok (.iload_n 1, 1) := by decide +kernel
theorem dX_delete_42 : decode cX_delete 42 = .ok (.invokevirtual 91, 3) := by decide +kernel
theorem dX_delete_45 : decode cX_delete 45 = .ok (.iconst 1, 1) := by decide +kernel
theorem dX_delete_46 : decode cX_delete 46 = .ok (.ireturn, 1) := by decide +kernel
theorem dX_countHostedBy_0 : decode cX_countHostedBy 0 = .ok (.iconst 0, 1) := by decide +kernel
theorem dX_countHostedBy_1 : decode cX_countHostedBy 1 = .ok (.istore_n 2, 1) := by decide +kernel
theorem dX_countHostedBy_2 : decode cX_countHostedBy 2 = .ok (.iconst 1, 1) := by decide +kernel
theorem dX_countHostedBy_3 : decode cX_countHostedBy 3 = .ok (.istore_n 3, 1) := by decide +kernel
theorem dX_countHostedBy_4 : decode cX_countHostedBy 4 = .ok (.iload_n 3, 1) := by decide +kernel
theorem dX_countHostedBy_5 : decode cX_countHostedBy 5 = .ok (.aload_n 0, 1) := by decide +kernel
theorem dX_countHostedBy_6 : decode cX_countHostedBy 6 = .ok (.getfield 26, 3) := by decide +kernel
theorem dX_countHostedBy_9 : decode cX_countHostedBy 9 = .ok (.if_icmp .gt 31, 3) := by decide +kernel
theorem dX_countHostedBy_12 : decode cX_countHostedBy 12 = .ok (.aload_n 0, 1) := by decide +kernel
theorem dX_countHostedBy_13 : decode cX_countHostedBy 13 = .ok (.getfield 9, 3) := by decide +kernel
theorem dX_countHostedBy_16 : decode cX_countHostedBy 16 = .ok (.iload_n 3, 1) := by decide +kernel
theorem dX_countHostedBy_17 : decode cX_countHostedBy 17 = .ok (.baload, 1) := by decide +kernel
theorem dX_countHostedBy_18 : decode cX_countHostedBy 18 = .ok (.ifCond .eq 16, 3) := by decide +kernel
theorem dX_countHostedBy_21 : decode cX_countHostedBy 21 = .ok (.aload_n 0, 1) := by decide +kernel
theorem dX_countHostedBy_22 : decode cX_countHostedBy 22 = .ok (.getfield 17, 3) := by decide +kernel
theorem dX_countHostedBy_25 : decode cX_countHostedBy 25 = .ok (.iload_n 3, 1) := by decide +kernel
theorem dX_countHostedBy_26 : decode cX_countHostedBy 26 = .ok (.iaload, 1) := by decide +kernel
theorem dX_countHostedBy_27 : decode cX_countHostedBy 27 = .ok (.iload_n 1, 1) := by decide +kernel
theorem dX_countHostedBy_28 : decode cX_countHostedBy 28 = .ok (.if_icmp .ne 6, 3) := by decide +kernel
theorem dX_countHostedBy_31 : decode cX_countHostedBy 31 = .ok (.iinc 2 1, 3) := by decide +kernel
theorem dX_countHostedBy_34 : decode cX_countHostedBy 34 = .ok (.iinc 3 1, 3) := by decide +kernel
theorem dX_countHostedBy_37 : decode cX_countHostedBy 37 = .ok (.goto (-33), 3) := by decide +kernel
theorem dX_countHostedBy_40 : decode cX_countHostedBy 40 = .ok (.iload_n 2, 1) := by decide +kernel
theorem dX_countHostedBy_41 : decode cX_countHostedBy 41 = .ok (.ireturn, 1) := by decide +kernel
theorem dX_removeLinksOf_0 : decode cX_removeLinksOf 0 = .ok (.aload_n 0, 1) := by decide +kernel
theorem dX_removeLinksOf_1 : decode cX_removeLinksOf 1 = .ok (.getfield 39, 3) := by decide +kernel
theorem dX_removeLinksOf_4 : decode cX_removeLinksOf 4 = .ok (.iconst 1, 1) := by decide +kernel
theorem dX_removeLinksOf_5 : decode cX_removeLinksOf 5 = .ok (.isub, 1) := by decide +kernel
theorem dX_removeLinksOf_6 : decode cX_removeLinksOf 6 = .ok (.istore_n 2, 1) := by decide +kernel
theorem dX_removeLinksOf_7 : decode cX_removeLinksOf 7 = .ok (.iload_n 2, 1) := by decide +kernel
theorem dX_removeLinksOf_8 : decode cX_removeLinksOf 8 = .ok (.ifCond .lt 29, 3) := by decide +kernel
theorem dX_removeLinksOf_11 : decode cX_removeLinksOf 11 = .ok (.aload_n 0, 1) := by decide +kernel
theorem dX_removeLinksOf_12 : decode cX_removeLinksOf 12 = .ok (.getfield 30, 3) := by decide +kernel
theorem dX_removeLinksOf_15 : decode cX_removeLinksOf 15 = .ok (.iload_n 2, 1) := by decide +kernel
theorem dX_removeLinksOf_16 : decode cX_removeLinksOf 16 = .ok (.iaload, 1) := by decide +kernel
theorem dX_removeLinksOf_17 : decode cX_removeLinksOf 17 = .ok (.iload_n 1, 1) := by decide +kernel
theorem dX_removeLinksOf_18 : decode cX_removeLinksOf 18 = .ok (.if_icmp .ne 13, 3) := by decide +kernel
theorem dX_removeLinksOf_21 : decode cX_removeLinksOf 21 = .ok (.aload_n 0, 1) := by decide +kernel
theorem dX_removeLinksOf_22 : decode cX_removeLinksOf 22 = .ok (.iload_n 1, 1) := by decide +kernel
theorem dX_removeLinksOf_23 : decode cX_removeLinksOf 23 = .ok (.invokevirtual 67, 3) := by decide +kernel
theorem dX_removeLinksOf_26 : decode cX_removeLinksOf 26 = .ok (.aload_n 0, 1) := by decide +kernel
theorem dX_removeLinksOf_27 : decode cX_removeLinksOf 27 = .ok (.iload_n 2, 1) := by decide +kernel
theorem dX_removeLinksOf_28 : decode cX_removeLinksOf 28 = .ok (.invokevirtual 82, 3) := by decide +kernel
theorem dX_removeLinksOf_31 : decode cX_removeLinksOf 31 = .ok (.iinc 2 (-1), 3) := by decide +kernel
theorem dX_removeLinksOf_34 : decode cX_removeLinksOf 34 = .ok (.goto (-27), 3) := by decide +kernel
theorem dX_removeLinksOf_37 : decode cX_removeLinksOf 37 = .ok (.return_, 1) := by decide +kernel
theorem dX_times_0 : decode cX_times 0 = .ok (.aload_n 0, 1) := by decide +kernel
theorem dX_times_1 : decode cX_times 1 = .ok (.iload_n 1, 1) := by decide +kernel
theorem dX_times_2 : decode cX_times 2 = .ok (.invokevirtual 94, 3) := by decide +kernel
theorem dX_times_5 : decode cX_times 5 = .ok (.ifCond .eq 17, 3) := by decide +kernel
theorem dX_times_8 : decode cX_times 8 = .ok (.iload_n 2, 1) := by decide +kernel
theorem dX_times_9 : decode cX_times 9 = .ok (.ifCond .lt 13, 3) := by decide +kernel
theorem dX_times_12 : decode cX_times 12 = .ok (.iload_n 2, 1) := by decide +kernel
theorem dX_times_13 : decode cX_times 13 = .ok (.aload_n 0, 1) := by decide +kernel
theorem dX_times_14 : decode cX_times 14 = .ok (.getfield 20, 3) := by decide +kernel
theorem dX_times_17 : decode cX_times 17 = .ok (.iload_n 1, 1) := by decide +kernel
theorem dX_times_18 : decode cX_times 18 = .ok (.iaload, 1) := by decide +kernel
theorem dX_times_19 : decode cX_times 19 = .ok (.if_icmp .lt 5, 3) := by decide +kernel
theorem dX_times_22 : decode cX_times 22 = .ok (.iconst 0, 1) := by decide +kernel
theorem dX_times_23 : decode cX_times 23 = .ok (.ireturn, 1) := by decide +kernel
theorem dX_times_24 : decode cX_times 24 = .ok (.aload_n 0, 1) := by decide +kernel
theorem dX_times_25 : decode cX_times 25 = .ok (.getfield 23, 3) := by decide +kernel
theorem dX_times_28 : decode cX_times 28 = .ok (.iload_n 1, 1) := by decide +kernel
theorem dX_times_29 : decode cX_times 29 = .ok (.bipush 40, 2) := by decide +kernel
theorem dX_times_31 : decode cX_times 31 = .ok (.imul, 1) := by decide +kernel
theorem dX_times_32 : decode cX_times 32 = .ok (.iload_n 2, 1) := by decide +kernel
theorem dX_times_33 : decode cX_times 33 = .ok (.iadd, 1) := by decide +kernel
theorem dX_times_34 : decode cX_times 34 = .ok (.iaload, 1) := by decide +kernel
theorem dX_times_35 : decode cX_times 35 = .ok (.ireturn, 1) := by decide +kernel
theorem dX_orphan_0 : decode cX_orphan 0 = .ok (.iload_n 1, 1) := by decide +kernel
theorem dX_orphan_1 : decode cX_orphan 1 = .ok (.ifCond .ge 5, 3) := by decide +kernel
theorem dX_orphan_4 : decode cX_orphan 4 = .ok (.iconst 0, 1) := by decide +kernel
theorem dX_orphan_5 : decode cX_orphan 5 = .ok (.ireturn, 1) := by decide +kernel
theorem dX_orphan_6 : decode cX_orphan 6 = .ok (.iconst 0, 1) := by decide +kernel
theorem dX_orphan_7 : decode cX_orphan 7 = .ok (.istore_n 2, 1) := by decide +kernel
theorem dX_orphan_8 : decode cX_orphan 8 = .ok (.iconst 1, 1) := by decide +kernel
theorem dX_orphan_9 : decode cX_orphan 9 = .ok (.istore_n 3, 1) := by decide +kernel
theorem dX_orphan_10 : decode cX_orphan 10 = .ok (.iload_n 3, 1) := by decide +kernel
theorem dX_orphan_11 : decode cX_orphan 11 = .ok (.aload_n 0, 1) := by decide +kernel
theorem dX_orphan_12 : decode cX_orphan 12 = .ok (.getfield 26, 3) := by decide +kernel
theorem dX_orphan_15 : decode cX_orphan 15 = .ok (.if_icmp .gt 36, 3) := by decide +kernel
theorem dX_orphan_18 : decode cX_orphan 18 = .ok (.aload_n 0, 1) := by decide +kernel
theorem dX_orphan_19 : decode cX_orphan 19 = .ok (.getfield 9, 3) := by decide +kernel
theorem dX_orphan_22 : decode cX_orphan 22 = .ok (.iload_n 3, 1) := by decide +kernel
theorem dX_orphan_23 : decode cX_orphan 23 = .ok (.baload, 1) := by decide +kernel
theorem dX_orphan_24 : decode cX_orphan 24 = .ok (.ifCond .eq 21, 3) := by decide +kernel
theorem dX_orphan_27 : decode cX_orphan 27 = .ok (.aload_n 0, 1) := by decide +kernel
theorem dX_orphan_28 : decode cX_orphan 28 = .ok (.iload_n 3, 1) := by decide +kernel
theorem dX_orphan_29 : decode cX_orphan 29 = .ok (.invokevirtual 97, 3) := by decide +kernel
theorem dX_orphan_32 : decode cX_orphan 32 = .ok (.ifCond .ne 13, 3) := by decide +kernel
theorem dX_orphan_35 : decode cX_orphan 35 = .ok (.iload_n 2, 1) := by decide +kernel
theorem dX_orphan_36 : decode cX_orphan 36 = .ok (.iload_n 1, 1) := by decide +kernel
theorem dX_orphan_37 : decode cX_orphan 37 = .ok (.if_icmp .ne 5, 3) := by decide +kernel
theorem dX_orphan_40 : decode cX_orphan 40 = .ok (.iload_n 3, 1) := by decide +kernel
theorem dX_orphan_41 : decode cX_orphan 41 = .ok (.ireturn, 1) := by decide +kernel
theorem dX_orphan_42 : decode cX_orphan 42 = .ok (.iinc 2 1, 3) := by decide +kernel
theorem dX_orphan_45 : decode cX_orphan 45 = .ok (.iinc 3 1, 3) := by decide +kernel
theorem dX_orphan_48 : decode cX_orphan 48 = .ok (.goto (-38), 3) := by decide +kernel
theorem dX_orphan_51 : decode cX_orphan 51 = .ok (.iconst 0, 1) := by decide +kernel
theorem dX_orphan_52 : decode cX_orphan 52 = .ok (.ireturn, 1) := by decide +kernel
theorem dX_isLinked_0 : decode cX_isLinked 0 = .ok (.iconst 0, 1) := by decide +kernel
theorem dX_isLinked_1 : decode cX_isLinked 1 = .ok (.istore_n 2, 1) := by decide +kernel
theorem dX_isLinked_2 : decode cX_isLinked 2 = .ok (.iload_n 2, 1) := by decide +kernel
theorem dX_isLinked_3 : decode cX_isLinked 3 = .ok (.aload_n 0, 1) := by decide +kernel
theorem dX_isLinked_4 : decode cX_isLinked 4 = .ok (.getfield 39, 3) := by decide +kernel
theorem dX_isLinked_7 : decode cX_isLinked 7 = .ok (.if_icmp .ge 51, 3) := by decide +kernel
theorem dX_isLinked_10 : decode cX_isLinked 10 = .ok (.aload_n 0, 1) := by decide +kernel
theorem dX_isLinked_11 : decode cX_isLinked 11 = .ok (.getfield 33, 3) := by decide +kernel
theorem dX_isLinked_14 : decode cX_isLinked 14 = .ok (.iload_n 2, 1) := by decide +kernel
theorem dX_isLinked_15 : decode cX_isLinked 15 = .ok (.iaload, 1) := by decide +kernel
theorem dX_isLinked_16 : decode cX_isLinked 16 = .ok (.iconst 4, 1) := by decide +kernel
theorem dX_isLinked_17 : decode cX_isLinked 17 = .ok (.if_icmp .ge 17, 3) := by decide +kernel
theorem dX_isLinked_20 : decode cX_isLinked 20 = .ok (.aload_n 0, 1) := by decide +kernel
theorem dX_isLinked_21 : decode cX_isLinked 21 = .ok (.getfield 36, 3) := by decide +kernel
theorem dX_isLinked_24 : decode cX_isLinked 24 = .ok (.iload_n 2, 1) := by decide +kernel
theorem dX_isLinked_25 : decode cX_isLinked 25 = .ok (.iaload, 1) := by decide +kernel
theorem dX_isLinked_26 : decode cX_isLinked 26 = .ok (.iload_n 1, 1) := by decide +kernel
theorem dX_isLinked_27 : decode cX_isLinked 27 = .ok (.if_icmp .ne 7, 3) := by decide +kernel
theorem dX_isLinked_30 : decode cX_isLinked 30 = .ok (.iconst 1, 1) := by decide +kernel
theorem dX_isLinked_31 : decode cX_isLinked 31 = .ok (.goto 4, 3) := by decide +kernel
theorem dX_isLinked_34 : decode cX_isLinked 34 = .ok (.iconst 0, 1) := by decide +kernel
theorem dX_isLinked_35 : decode cX_isLinked 35 = .ok (.istore_n 3, 1) := by decide +kernel
theorem dX_isLinked_36 : decode cX_isLinked 36 = .ok (.iload_n 3, 1) := by decide +kernel
theorem dX_isLinked_37 : decode cX_isLinked 37 = .ok (.ifCond .ne 13, 3) := by decide +kernel
theorem dX_isLinked_40 : decode cX_isLinked 40 = .ok (.aload_n 0, 1) := by decide +kernel
theorem dX_isLinked_41 : decode cX_isLinked 41 = .ok (.getfield 30, 3) := by decide +kernel
theorem dX_isLinked_44 : decode cX_isLinked 44 = .ok (.iload_n 2, 1) := by decide +kernel
theorem dX_isLinked_45 : decode cX_isLinked 45 = .ok (.iaload, 1) := by decide +kernel
theorem dX_isLinked_46 : decode cX_isLinked 46 = .ok (.iload_n 1, 1) := by decide +kernel
theorem dX_isLinked_47 : decode cX_isLinked 47 = .ok (.if_icmp .ne 5, 3) := by decide +kernel
theorem dX_isLinked_50 : decode cX_isLinked 50 = .ok (.iconst 1, 1) := by decide +kernel
theorem dX_isLinked_51 : decode cX_isLinked 51 = .ok (.ireturn, 1) := by decide +kernel
theorem dX_isLinked_52 : decode cX_isLinked 52 = .ok (.iinc 2 1, 3) := by decide +kernel
theorem dX_isLinked_55 : decode cX_isLinked 55 = .ok (.goto (-53), 3) := by decide +kernel
theorem dX_isLinked_58 : decode cX_isLinked 58 = .ok (.iconst 0, 1) := by decide +kernel
theorem dX_isLinked_59 : decode cX_isLinked 59 = .ok (.ireturn, 1) := by decide +kernel
theorem dX_house_0 : decode cX_house 0 = .ok (.aload_n 0, 1) := by decide +kernel
theorem dX_house_1 : decode cX_house 1 = .ok (.iload_n 1, 1) := by decide +kernel
theorem dX_house_2 : decode cX_house 2 = .ok (.invokevirtual 94, 3) := by decide +kernel
theorem dX_house_5 : decode cX_house 5 = .ok (.ifCond .eq 12, 3) := by decide +kernel
theorem dX_house_8 : decode cX_house 8 = .ok (.aload_n 0, 1) := by decide +kernel
theorem dX_house_9 : decode cX_house 9 = .ok (.getfield 13, 3) := by decide +kernel
theorem dX_house_12 : decode cX_house 12 = .ok (.iload_n 1, 1) := by decide +kernel
theorem dX_house_13 : decode cX_house 13 = .ok (.iaload, 1) := by decide +kernel
theorem dX_house_14 : decode cX_house 14 = .ok (.goto 4, 3) := by decide +kernel
theorem dX_house_17 : decode cX_house 17 = .ok (.iconst (-1), 1) := by decide +kernel
theorem dX_house_18 : decode cX_house 18 = .ok (.ireturn, 1) := by decide +kernel
theorem dX_goes_0 : decode cX_goes 0 = .ok (.iload_n 3, 1) := by decide +kernel
theorem dX_goes_1 : decode cX_goes 1 = .ok (.ifCond .ge 5, 3) := by decide +kernel
theorem dX_goes_4 : decode cX_goes 4 = .ok (.iconst 0, 1) := by decide +kernel
theorem dX_goes_5 : decode cX_goes 5 = .ok (.ireturn, 1) := by decide +kernel
theorem dX_goes_6 : decode cX_goes 6 = .ok (.iconst 0, 1) := by decide +kernel
theorem dX_goes_7 : decode cX_goes 7 = .ok (.istore 4, 2) := by decide +kernel
theorem dX_goes_9 : decode cX_goes 9 = .ok (.iconst 0, 1) := by decide +kernel
theorem dX_goes_10 : decode cX_goes 10 = .ok (.istore 5, 2) := by decide +kernel
theorem dX_goes_12 : decode cX_goes 12 = .ok (.iload 5, 2) := by decide +kernel
theorem dX_goes_14 : decode cX_goes 14 = .ok (.aload_n 0, 1) := by decide +kernel
theorem dX_goes_15 : decode cX_goes 15 = .ok (.getfield 39, 3) := by decide +kernel
theorem dX_goes_18 : decode cX_goes 18 = .ok (.if_icmp .ge 48, 3) := by decide +kernel
theorem dX_goes_21 : decode cX_goes 21 = .ok (.aload_n 0, 1) := by decide +kernel
theorem dX_goes_22 : decode cX_goes 22 = .ok (.getfield 30, 3) := by decide +kernel
theorem dX_goes_25 : decode cX_goes 25 = .ok (.iload 5, 2) := by decide +kernel
theorem dX_goes_27 : decode cX_goes 27 = .ok (.iaload, 1) := by decide +kernel
theorem dX_goes_28 : decode cX_goes 28 = .ok (.iload_n 1, 1) := by decide +kernel
theorem dX_goes_29 : decode cX_goes 29 = .ok (.if_icmp .ne 31, 3) := by decide +kernel
theorem dX_goes_32 : decode cX_goes 32 = .ok (.aload_n 0, 1) := by decide +kernel
theorem dX_goes_33 : decode cX_goes 33 = .ok (.getfield 33, 3) := by decide +kernel
theorem dX_goes_36 : decode cX_goes 36 = .ok (.iload 5, 2) := by decide +kernel
theorem dX_goes_38 : decode cX_goes 38 = .ok (.iaload, 1) := by decide +kernel
theorem dX_goes_39 : decode cX_goes 39 = .ok (.iload_n 2, 1) := by decide +kernel
theorem dX_goes_40 : decode cX_goes 40 = .ok (.if_icmp .ne 20, 3) := by decide +kernel
theorem dX_goes_43 : decode cX_goes 43 = .ok (.iload 4, 2) := by decide +kernel
theorem dX_goes_45 : decode cX_goes 45 = .ok (.iload_n 3, 1) := by decide +kernel
theorem dX_goes_46 : decode cX_goes 46 = .ok (.if_icmp .ne 11, 3) := by decide +kernel
theorem dX_goes_49 : decode cX_goes 49 = .ok (.aload_n 0, 1) := by decide +kernel
theorem dX_goes_50 : decode cX_goes 50 = .ok (.getfield 36, 3) := by decide +kernel
theorem dX_goes_53 : decode cX_goes 53 = .ok (.iload 5, 2) := by decide +kernel
theorem dX_goes_55 : decode cX_goes 55 = .ok (.iaload, 1) := by decide +kernel
theorem dX_goes_56 : decode cX_goes 56 = .ok (.ireturn, 1) := by decide +kernel
theorem dX_goes_57 : decode cX_goes 57 = .ok (.iinc 4 1, 3) := by decide +kernel
theorem dX_goes_60 : decode cX_goes 60 = .ok (.iinc 5 1, 3) := by decide +kernel
theorem dX_goes_63 : decode cX_goes 63 = .ok (.goto (-51), 3) := by decide +kernel
theorem dX_goes_66 : decode cX_goes 66 = .ok (.iconst 0, 1) := by decide +kernel
theorem dX_goes_67 : decode cX_goes 67 = .ok (.ireturn, 1) := by decide +kernel
