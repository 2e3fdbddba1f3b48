theorem dX6_count_0 : decode cX6_count 0 = .ok (.iload_n 1, 1) := by decide +kernel
theorem dX6_count_1 : decode cX6_count 1 = .ok (.tableswitch 104 0 8 #[51, 59, 67, 75, 83, 91, 104, 104, 99], 51) := by decide +kernel
theorem dX6_count_52 : decode cX6_count 52 = .ok (.aload_n 0, 1) := by decide +kernel
theorem dX6_count_53 : decode cX6_count 53 = .ok (.getfield 19, 3) := by decide +kernel
theorem dX6_count_56 : decode cX6_count 56 = .ok (.getfield 80, 3) := by decide +kernel
theorem dX6_count_59 : decode cX6_count 59 = .ok (.ireturn, 1) := by decide +kernel
theorem dX6_count_60 : decode cX6_count 60 = .ok (.aload_n 0, 1) := by decide +kernel
theorem dX6_count_61 : decode cX6_count 61 = .ok (.getfield 19, 3) := by decide +kernel
theorem dX6_count_64 : decode cX6_count 64 = .ok (.getfield 126, 3) := by decide +kernel
theorem dX6_count_67 : decode cX6_count 67 = .ok (.ireturn, 1) := by decide +kernel
theorem dX6_count_68 : decode cX6_count 68 = .ok (.aload_n 0, 1) := by decide +kernel
theorem dX6_count_69 : decode cX6_count 69 = .ok (.getfield 26, 3) := by decide +kernel
theorem dX6_count_72 : decode cX6_count 72 = .ok (.getfield 140, 3) := by decide +kernel
theorem dX6_count_75 : decode cX6_count 75 = .ok (.ireturn, 1) := by decide +kernel
theorem dX6_count_76 : decode cX6_count 76 = .ok (.aload_n 0, 1) := by decide +kernel
theorem dX6_count_77 : decode cX6_count 77 = .ok (.getfield 30, 3) := by decide +kernel
theorem dX6_count_80 : decode cX6_count 80 = .ok (.getfield 140, 3) := by decide +kernel
theorem dX6_count_83 : decode cX6_count 83 = .ok (.ireturn, 1) := by decide +kernel
theorem dX6_count_84 : decode cX6_count 84 = .ok (.aload_n 0, 1) := by decide +kernel
theorem dX6_count_85 : decode cX6_count 85 = .ok (.getfield 10, 3) := by decide +kernel
theorem dX6_count_88 : decode cX6_count 88 = .ok (.invokevirtual 277, 3) := by decide +kernel
theorem dX6_count_91 : decode cX6_count 91 = .ok (.ireturn, 1) := by decide +kernel
theorem dX6_count_92 : decode cX6_count 92 = .ok (.aload_n 0, 1) := by decide +kernel
theorem dX6_count_93 : decode cX6_count 93 = .ok (.getfield 19, 3) := by decide +kernel
theorem dX6_count_96 : decode cX6_count 96 = .ok (.getfield 129, 3) := by decide +kernel
theorem dX6_count_99 : decode cX6_count 99 = .ok (.ireturn, 1) := by decide +kernel
theorem dX6_count_100 : decode cX6_count 100 = .ok (.aload_n 0, 1) := by decide +kernel
theorem dX6_count_101 : decode cX6_count 101 = .ok (.getfield 55, 3) := by decide +kernel
theorem dX6_count_104 : decode cX6_count 104 = .ok (.ireturn, 1) := by decide +kernel
theorem dX6_count_105 : decode cX6_count 105 = .ok (.bipush (-2), 2) := by decide +kernel
theorem dX6_count_107 : decode cX6_count 107 = .ok (.ireturn, 1) := by decide +kernel
theorem dX6_digest_0 : decode cX6_digest 0 = .ok (.ldc2_w 280, 3) := by decide +kernel
theorem dX6_digest_3 : decode cX6_digest 3 = .ok (.lstore_n 1, 1) := by decide +kernel
theorem dX6_digest_4 : decode cX6_digest 4 = .ok (.iconst 0, 1) := by decide +kernel
theorem dX6_digest_5 : decode cX6_digest 5 = .ok (.istore_n 3, 1) := by decide +kernel
theorem dX6_digest_6 : decode cX6_digest 6 = .ok (.iload_n 3, 1) := by decide +kernel
theorem dX6_digest_7 : decode cX6_digest 7 = .ok (.iconst 5, 1) := by decide +kernel
theorem dX6_digest_8 : decode cX6_digest 8 = .ok (.if_icmp .gt 22, 3) := by decide +kernel
theorem dX6_digest_11 : decode cX6_digest 11 = .ok (.ldc2_w 282, 3) := by decide +kernel
theorem dX6_digest_14 : decode cX6_digest 14 = .ok (.lload_n 1, 1) := by decide +kernel
theorem dX6_digest_15 : decode cX6_digest 15 = .ok (.lmul, 1) := by decide +kernel
theorem dX6_digest_16 : decode cX6_digest 16 = .ok (.aload_n 0, 1) := by decide +kernel
theorem dX6_digest_17 : decode cX6_digest 17 = .ok (.iload_n 3, 1) := by decide +kernel
theorem dX6_digest_18 : decode cX6_digest 18 = .ok (.invokevirtual 284, 3) := by decide +kernel
theorem dX6_digest_21 : decode cX6_digest 21 = .ok (.i2l, 1) := by decide +kernel
theorem dX6_digest_22 : decode cX6_digest 22 = .ok (.ladd, 1) := by decide +kernel
theorem dX6_digest_23 : decode cX6_digest 23 = .ok (.lstore_n 1, 1) := by decide +kernel
theorem dX6_digest_24 : decode cX6_digest 24 = .ok (.iinc 3 1, 3) := by decide +kernel
theorem dX6_digest_27 : decode cX6_digest 27 = .ok (.goto (-21), 3) := by decide +kernel
theorem dX6_digest_30 : decode cX6_digest 30 = .ok (.iconst 0, 1) := by decide +kernel
theorem dX6_digest_31 : decode cX6_digest 31 = .ok (.istore_n 3, 1) := by decide +kernel
theorem dX6_digest_32 : decode cX6_digest 32 = .ok (.iload_n 3, 1) := by decide +kernel
theorem dX6_digest_33 : decode cX6_digest 33 = .ok (.aload_n 0, 1) := by decide +kernel
theorem dX6_digest_34 : decode cX6_digest 34 = .ok (.getfield 19, 3) := by decide +kernel
theorem dX6_digest_37 : decode cX6_digest 37 = .ok (.getfield 80, 3) := by decide +kernel
theorem dX6_digest_40 : decode cX6_digest 40 = .ok (.if_icmp .ge 40, 3) := by decide +kernel
theorem dX6_digest_43 : decode cX6_digest 43 = .ok (.iconst 0, 1) := by decide +kernel
theorem dX6_digest_44 : decode cX6_digest 44 = .ok (.istore 4, 2) := by decide +kernel
theorem dX6_digest_46 : decode cX6_digest 46 = .ok (.iload 4, 2) := by decide +kernel
theorem dX6_digest_48 : decode cX6_digest 48 = .ok (.bipush 6, 2) := by decide +kernel
theorem dX6_digest_50 : decode cX6_digest 50 = .ok (.if_icmp .gt 24, 3) := by decide +kernel
theorem dX6_digest_53 : decode cX6_digest 53 = .ok (.ldc2_w 282, 3) := by decide +kernel
theorem dX6_digest_56 : decode cX6_digest 56 = .ok (.lload_n 1, 1) := by decide +kernel
theorem dX6_digest_57 : decode cX6_digest 57 = .ok (.lmul, 1) := by decide +kernel
theorem dX6_digest_58 : decode cX6_digest 58 = .ok (.aload_n 0, 1) := by decide +kernel
theorem dX6_digest_59 : decode cX6_digest 59 = .ok (.iload_n 3, 1) := by decide +kernel
theorem dX6_digest_60 : decode cX6_digest 60 = .ok (.iload 4, 2) := by decide +kernel
theorem dX6_digest_62 : decode cX6_digest 62 = .ok (.invokevirtual 287, 3) := by decide +kernel
theorem dX6_digest_65 : decode cX6_digest 65 = .ok (.i2l, 1) := by decide +kernel
theorem dX6_digest_66 : decode cX6_digest 66 = .ok (.ladd, 1) := by decide +kernel
theorem dX6_digest_67 : decode cX6_digest 67 = .ok (.lstore_n 1, 1) := by decide +kernel
theorem dX6_digest_68 : decode cX6_digest 68 = .ok (.iinc 4 1, 3) := by decide +kernel
theorem dX6_digest_71 : decode cX6_digest 71 = .ok (.goto (-25), 3) := by decide +kernel
theorem dX6_digest_74 : decode cX6_digest 74 = .ok (.iinc 3 1, 3) := by decide +kernel
theorem dX6_digest_77 : decode cX6_digest 77 = .ok (.goto (-45), 3) := by decide +kernel
theorem dX6_digest_80 : decode cX6_digest 80 = .ok (.aload_n 0, 1) := by decide +kernel
theorem dX6_digest_81 : decode cX6_digest 81 = .ok (.lload_n 1, 1) := by decide +kernel
theorem dX6_digest_82 : decode cX6_digest 82 = .ok (.iconst 0, 1) := by decide +kernel
theorem dX6_digest_83 : decode cX6_digest 83 = .ok (.invokevirtual 290, 3) := by decide +kernel
theorem dX6_digest_86 : decode cX6_digest 86 = .ok (.lstore_n 1, 1) := by decide +kernel
theorem dX6_digest_87 : decode cX6_digest 87 = .ok (.aload_n 0, 1) := by decide +kernel
theorem dX6_digest_88 : decode cX6_digest 88 = .ok (.lload_n 1, 1) := by decide +kernel
theorem dX6_digest_89 : decode cX6_digest 89 = .ok (.iconst 1, 1) := by decide +kernel
theorem dX6_digest_90 : decode cX6_digest 90 = .ok (.invokevirtual 290, 3) := by decide +kernel
theorem dX6_digest_93 : decode cX6_digest 93 = .ok (.lstore_n 1, 1) := by decide +kernel
theorem dX6_digest_94 : decode cX6_digest 94 = .ok (.ldc2_w 282, 3) := by decide +kernel
theorem dX6_digest_97 : decode cX6_digest 97 = .ok (.lload_n 1, 1) := by decide +kernel
theorem dX6_digest_98 : decode cX6_digest 98 = .ok (.lmul, 1) := by decide +kernel
theorem dX6_digest_99 : decode cX6_digest 99 = .ok (.aload_n 0, 1) := by decide +kernel
theorem dX6_digest_100 : decode cX6_digest 100 = .ok (.invokevirtual 294, 3) := by decide +kernel
theorem dX6_digest_103 : decode cX6_digest 103 = .ok (.i2l, 1) := by decide +kernel
theorem dX6_digest_104 : decode cX6_digest 104 = .ok (.ladd, 1) := by decide +kernel
theorem dX6_digest_105 : decode cX6_digest 105 = .ok (.lstore_n 1, 1) := by decide +kernel
theorem dX6_digest_106 : decode cX6_digest 106 = .ok (.ldc2_w 282, 3) := by decide +kernel
theorem dX6_digest_109 : decode cX6_digest 109 = .ok (.lload_n 1, 1) := by decide +kernel
theorem dX6_digest_110 : decode cX6_digest 110 = .ok (.lmul, 1) := by decide +kernel
theorem dX6_digest_111 : decode cX6_digest 111 = .ok (.aload_n 0, 1) := by decide +kernel
theorem dX6_digest_112 : decode cX6_digest 112 = .ok (.invokevirtual 297, 3) := by decide +kernel
theorem dX6_digest_115 : decode cX6_digest 115 = .ok (.i2l, 1) := by decide +kernel
theorem dX6_digest_116 : decode cX6_digest 116 = .ok (.ladd, 1) := by decide +kernel
theorem dX6_digest_117 : decode cX6_digest 117 = .ok (.lreturn, 1) := by decide +kernel
theorem dX6_digestOfLaw_0 : decode cX6_digestOfLaw 0 = .ok (.ldc2_w 282, 3) := by decide +kernel
theorem dX6_digestOfLaw_3 : decode cX6_digestOfLaw 3 = .ok (.lload_n 1, 1) := by decide +kernel
theorem dX6_digestOfLaw_4 : decode cX6_digestOfLaw 4 = .ok (.lmul, 1) := by decide +kernel
theorem dX6_digestOfLaw_5 : decode cX6_digestOfLaw 5 = .ok (.aload_n 0, 1) := by decide +kernel
theorem dX6_digestOfLaw_6 : decode cX6_digestOfLaw 6 = .ok (.iload_n 3, 1) := by decide +kernel
theorem dX6_digestOfLaw_7 : decode cX6_digestOfLaw 7 = .ok (.invokevirtual 300, 3) := by decide +kernel
theorem dX6_digestOfLaw_10 : decode cX6_digestOfLaw 10 = .ok (.i2l, 1) := by decide +kernel
theorem dX6_digestOfLaw_11 : decode cX6_digestOfLaw 11 = .ok (.ladd, 1) := by decide +kernel
theorem dX6_digestOfLaw_12 : decode cX6_digestOfLaw 12 = .ok (.lstore 4, 2) := by decide +kernel
theorem dX6_digestOfLaw_14 : decode cX6_digestOfLaw 14 = .ok (.iconst 0, 1) := by decide +kernel
theorem dX6_digestOfLaw_15 : decode cX6_digestOfLaw 15 = .ok (.istore 6, 2) := by decide +kernel
theorem dX6_digestOfLaw_17 : decode cX6_digestOfLaw 17 = .ok (.iload 6, 2) := by decide +kernel
theorem dX6_digestOfLaw_19 : decode cX6_digestOfLaw 19 = .ok (.iconst 3, 1) := by decide +kernel
theorem dX6_digestOfLaw_20 : decode cX6_digestOfLaw 20 = .ok (.if_icmp .gt 26, 3) := by decide +kernel
theorem dX6_digestOfLaw_23 : decode cX6_digestOfLaw 23 = .ok (.ldc2_w 282, 3) := by decide +kernel
theorem dX6_digestOfLaw_26 : decode cX6_digestOfLaw 26 = .ok (.lload 4, 2) := by decide +kernel
theorem dX6_digestOfLaw_28 : decode cX6_digestOfLaw 28 = .ok (.lmul, 1) := by decide +kernel
theorem dX6_digestOfLaw_29 : decode cX6_digestOfLaw 29 = .ok (.aload_n 0, 1) := by decide +kernel
theorem dX6_digestOfLaw_30 : decode cX6_digestOfLaw 30 = .ok (.iload_n 3, 1) := by decide +kernel
theorem dX6_digestOfLaw_31 : decode cX6_digestOfLaw 31 = .ok (.iload 6, 2) := by decide +kernel
theorem dX6_digestOfLaw_33 : decode cX6_digestOfLaw 33 = .ok (.invokevirtual 303, 3) := by decide +kernel
theorem dX6_digestOfLaw_36 : decode cX6_digestOfLaw 36 = .ok (.i2l, 1) := by decide +kernel
theorem dX6_digestOfLaw_37 : decode cX6_digestOfLaw 37 = .ok (.ladd, 1) := by decide +kernel
theorem dX6_digestOfLaw_38 : decode cX6_digestOfLaw 38 = .ok (.lstore 4, 2) := by decide +kernel
theorem dX6_digestOfLaw_40 : decode cX6_digestOfLaw 40 = .ok (.iinc 6 1, 3) := by decide +kernel
theorem dX6_digestOfLaw_43 : decode cX6_digestOfLaw 43 = .ok (.goto (-26), 3) := by decide +kernel
theorem dX6_digestOfLaw_46 : decode cX6_digestOfLaw 46 = .ok (.iconst 0, 1) := by decide +kernel
theorem dX6_digestOfLaw_47 : decode cX6_digestOfLaw 47 = .ok (.istore 6, 2) := by decide +kernel
theorem dX6_digestOfLaw_49 : decode cX6_digestOfLaw 49 = .ok (.iload 6, 2) := by decide +kernel
theorem dX6_digestOfLaw_51 : decode cX6_digestOfLaw 51 = .ok (.iconst 2, 1) := by decide +kernel
theorem dX6_digestOfLaw_52 : decode cX6_digestOfLaw 52 = .ok (.if_icmp .gt 26, 3) := by decide +kernel
theorem dX6_digestOfLaw_55 : decode cX6_digestOfLaw 55 = .ok (.ldc2_w 282, 3) := by decide +kernel
theorem dX6_digestOfLaw_58 : decode cX6_digestOfLaw 58 = .ok (.lload 4, 2) := by decide +kernel
theorem dX6_digestOfLaw_60 : decode cX6_digestOfLaw 60 = .ok (.lmul, 1) := by decide +kernel
theorem dX6_digestOfLaw_61 : decode cX6_digestOfLaw 61 = .ok (.aload_n 0, 1) := by decide +kernel
theorem dX6_digestOfLaw_62 : decode cX6_digestOfLaw 62 = .ok (.iload_n 3, 1) := by decide +kernel
theorem dX6_digestOfLaw_63 : decode cX6_digestOfLaw 63 = .ok (.iload 6, 2) := by decide +kernel
theorem dX6_digestOfLaw_65 : decode cX6_digestOfLaw 65 = .ok (.invokevirtual 306, 3) := by decide +kernel
theorem dX6_digestOfLaw_68 : decode cX6_digestOfLaw 68 = .ok (.i2l, 1) := by decide +kernel
theorem dX6_digestOfLaw_69 : decode cX6_digestOfLaw 69 = .ok (.ladd, 1) := by decide +kernel
theorem dX6_digestOfLaw_70 : decode cX6_digestOfLaw 70 = .ok (.lstore 4, 2) := by decide +kernel
theorem dX6_digestOfLaw_72 : decode cX6_digestOfLaw 72 = .ok (.iinc 6 1, 3) := by decide +kernel
theorem dX6_digestOfLaw_75 : decode cX6_digestOfLaw 75 = .ok (.goto (-26), 3) := by decide +kernel
theorem dX6_digestOfLaw_78 : decode cX6_digestOfLaw 78 = .ok (.ldc2_w 282, 3) := by decide +kernel
theorem dX6_digestOfLaw_81 : decode cX6_digestOfLaw 81 = .ok (.lload 4, 2) := by decide +kernel
theorem dX6_digestOfLaw_83 : decode cX6_digestOfLaw 83 = .ok (.lmul, 1) := by decide +kernel
theorem dX6_digestOfLaw_84 : decode cX6_digestOfLaw 84 = .ok (.aload_n 0, 1) := by decide +kernel
theorem dX6_digestOfLaw_85 : decode cX6_digestOfLaw 85 = .ok (.iload_n 3, 1) := by decide +kernel
theorem dX6_digestOfLaw_86 : decode cX6_digestOfLaw 86 = .ok (.invokevirtual 309, 3) := by decide +kernel
theorem dX6_digestOfLaw_89 : decode cX6_digestOfLaw 89 = .ok (.i2l, 1) := by decide +kernel
theorem dX6_digestOfLaw_90 : decode cX6_digestOfLaw 90 = .ok (.ladd, 1) := by decide +kernel
theorem dX6_digestOfLaw_91 : decode cX6_digestOfLaw 91 = .ok (.lstore 4, 2) := by decide +kernel
theorem dX6_digestOfLaw_93 : decode cX6_digestOfLaw 93 = .ok (.ldc2_w 282, 3) := by decide +kernel
theorem dX6_digestOfLaw_96 : decode cX6_digestOfLaw 96 = .ok (.lload 4, 2) := by decide +kernel
theorem dX6_digestOfLaw_98 : decode cX6_digestOfLaw 98 = .ok (.lmul, 1) := by decide +kernel
theorem dX6_digestOfLaw_99 : decode cX6_digestOfLaw 99 = .ok (.aload_n 0, 1) := by decide +kernel
theorem dX6_digestOfLaw_100 : decode cX6_digestOfLaw 100 = .ok (.iload_n 3, 1) := by decide +kernel
theorem dX6_digestOfLaw_101 : decode cX6_digestOfLaw 101 = .ok (.iconst (-1), 1) := by decide +kernel
theorem dX6_digestOfLaw_102 : decode cX6_digestOfLaw 102 = .ok (.invokevirtual 312, 3) := by decide +kernel
theorem dX6_digestOfLaw_105 : decode cX6_digestOfLaw 105 = .ok (.i2l, 1) := by decide +kernel
theorem dX6_digestOfLaw_106 : decode cX6_digestOfLaw 106 = .ok (.ladd, 1) := by decide +kernel
theorem dX6_digestOfLaw_107 : decode cX6_digestOfLaw 107 = .ok (.lreturn, 1) := by decide +kernel
theorem dX6_sheetOf_0 : decode cX6_sheetOf 0 = .ok (.iload_n 1, 1) := by decide +kernel
theorem dX6_sheetOf_1 : decode cX6_sheetOf 1 = .ok (.ifCond .lt 17, 3) := by decide +kernel
theorem dX6_sheetOf_4 : decode cX6_sheetOf 4 = .ok (.iload_n 1, 1) := by decide +kernel
theorem dX6_sheetOf_5 : decode cX6_sheetOf 5 = .ok (.iconst 4, 1) := by decide +kernel
theorem dX6_sheetOf_6 : decode cX6_sheetOf 6 = .ok (.if_icmp .ge 12, 3) := by decide +kernel
theorem dX6_sheetOf_9 : decode cX6_sheetOf 9 = .ok (.aload_n 0, 1) := by decide +kernel
theorem dX6_sheetOf_10 : decode cX6_sheetOf 10 = .ok (.getfield 35, 3) := by decide +kernel
theorem dX6_sheetOf_13 : decode cX6_sheetOf 13 = .ok (.iload_n 1, 1) := by decide +kernel
theorem dX6_sheetOf_14 : decode cX6_sheetOf 14 = .ok (.aaload, 1) := by decide +kernel
theorem dX6_sheetOf_15 : decode cX6_sheetOf 15 = .ok (.goto 4, 3) := by decide +kernel
theorem dX6_sheetOf_18 : decode cX6_sheetOf 18 = .ok (.aconst_null, 1) := by decide +kernel
theorem dX6_sheetOf_19 : decode cX6_sheetOf 19 = .ok (.areturn, 1) := by decide +kernel
theorem dX6_isForm_0 : decode cX6_isForm 0 = .ok (.iload_n 0, 1) := by decide +kernel
theorem dX6_isForm_1 : decode cX6_isForm 1 = .ok (.ifCond .lt 12, 3) := by decide +kernel
theorem dX6_isForm_4 : decode cX6_isForm 4 = .ok (.iload_n 0, 1) := by decide +kernel
theorem dX6_isForm_5 : decode cX6_isForm 5 = .ok (.iconst 3, 1) := by decide +kernel
theorem dX6_isForm_6 : decode cX6_isForm 6 = .ok (.if_icmp .ge 7, 3) := by decide +kernel
theorem dX6_isForm_9 : decode cX6_isForm 9 = .ok (.iconst 1, 1) := by decide +kernel
theorem dX6_isForm_10 : decode cX6_isForm 10 = .ok (.goto 4, 3) := by decide +kernel
theorem dX6_isForm_13 : decode cX6_isForm 13 = .ok (.iconst 0, 1) := by decide +kernel
theorem dX6_isForm_14 : decode cX6_isForm 14 = .ok (.ireturn, 1) := by decide +kernel
theorem dX6_find_0 : decode cX6_find 0 = .ok (.aload_n 0, 1) := by decide +kernel
theorem dX6_find_1 : decode cX6_find 1 = .ok (.iload_n 1, 1) := by decide +kernel
theorem dX6_find_2 : decode cX6_find 2 = .ok (.putfield 55, 3) := by decide +kernel
theorem dX6_find_5 : decode cX6_find 5 = .ok (.bipush (-10), 2) := by decide +kernel
theorem dX6_find_7 : decode cX6_find 7 = .ok (.iload_n 1, 1) := by decide +kernel
theorem dX6_find_8 : decode cX6_find 8 = .ok (.isub, 1) := by decide +kernel
theorem dX6_find_9 : decode cX6_find 9 = .ok (.ireturn, 1) := by decide +kernel
theorem dX7_init_0 : decode cX7_init 0 = .ok (.aload_n 0, 1) := by decide +kernel
theorem dX7_init_1 : decode cX7_init 1 = .ok (.invokespecial 1, 3) := by decide +kernel
theorem dX7_init_4 : decode cX7_init 4 = .ok (.aload_n 0, 1) := by decide +kernel
theorem dX7_init_5 : decode cX7_init 5 = .ok (.bipush 36, 2) := by decide +kernel
theorem dX7_init_7 : decode cX7_init 7 = .ok (.newarray .int, 2) := by decide +kernel
theorem dX7_init_9 : decode cX7_init 9 = .ok (.putfield 7, 3) := by decide +kernel
theorem dX7_init_12 : decode cX7_init 12 = .ok (.aload_n 0, 1) := by decide +kernel
theorem dX7_init_13 : decode cX7_init 13 = .ok (.bipush 36, 2) := by decide +kernel
theorem dX7_init_15 : decode cX7_init 15 = .ok (.newarray .int, 2) := by decide +kernel
theorem dX7_init_17 : decode cX7_init 17 = .ok (.putfield 13, 3) := by decide +kernel
theorem dX7_init_20 : decode cX7_init 20 = .ok (.aload_n 0, 1) := by decide +kernel
theorem dX7_init_21 : decode cX7_init 21 = .ok (.bipush 10, 2) := by decide +kernel
theorem dX7_init_23 : decode cX7_init 23 = .ok (.newarray .int, 2) := by decide +kernel
theorem dX7_init_25 : decode cX7_init 25 = .ok (.putfield 16, 3) := by decide +kernel
theorem dX7_init_28 : decode cX7_init 28 = .ok (.aload_n 0, 1) := by decide +kernel
theorem dX7_init_29 : decode cX7_init 29 = .ok (.bipush 10, 2) := by decide +kernel
theorem dX7_init_31 : decode cX7_init 31 = .ok (.newarray .int, 2) := by decide +kernel
theorem dX7_init_33 : decode cX7_init 33 = .ok (.putfield 19, 3) := by decide +kernel
theorem dX7_init_36 : decode cX7_init 36 = .ok (.aload_n 0, 1) := by decide +kernel
theorem dX7_init_37 : decode cX7_init 37 = .ok (.bipush 10, 2) := by decide +kernel
theorem dX7_init_39 : decode cX7_init 39 = .ok (.newarray .int, 2) := by decide +kernel
theorem dX7_init_41 : decode cX7_init 41 = .ok (.putfield 22, 3) := by decide +kernel
theorem dX7_init_44 : decode cX7_init 44 = .ok (.aload_n 0, 1) := by decide +kernel
theorem dX7_init_45 : decode cX7_init 45 = .ok (.bipush 10, 2) := by decide +kernel
theorem dX7_init_47 : decode cX7_init 47 = .ok (.newarray .int, 2) := by decide +kernel
theorem dX7_init_49 : decode cX7_init 49 = .ok (.putfield 25, 3) := by decide +kernel
theorem dX7_init_52 : decode cX7_init 52 = .ok (.aload_n 0, 1) := by decide +kernel
theorem dX7_init_53 : decode cX7_init 53 = .ok (.bipush 10, 2) := by decide +kernel
theorem dX7_init_55 : decode cX7_init 55 = .ok (.newarray .int, 2) := by decide +kernel
theorem dX7_init_57 : decode cX7_init 57 = .ok (.putfield 28, 3) := by decide +kernel
theorem dX7_init_60 : decode cX7_init 60 = .ok (.aload_n 0, 1) := by decide +kernel
theorem dX7_init_61 : decode cX7_init 61 = .ok (.iconst 2, 1) := by decide +kernel
theorem dX7_init_62 : decode cX7_init 62 = .ok (.newarray .int, 2) := by decide +kernel
theorem dX7_init_64 : decode cX7_init 64 = .ok (.putfield 31, 3) := by decide +kernel
theorem dX7_init_67 : decode cX7_init 67 = .ok (.aload_n 0, 1) := by decide +kernel
theorem dX7_init_68 : decode cX7_init 68 = .ok (.bipush 80, 2) := by decide +kernel
theorem dX7_init_70 : decode cX7_init 70 = .ok (.newarray .int, 2) := by decide +kernel
theorem dX7_init_72 : decode cX7_init 72 = .ok (.putfield 34, 3) := by decide +kernel
theorem dX7_init_75 : decode cX7_init 75 = .ok (.aload_n 0, 1) := by decide +kernel
theorem dX7_init_76 : decode cX7_init 76 = .ok (.iconst 2, 1) := by decide +kernel
theorem dX7_init_77 : decode cX7_init 77 = .ok (.newarray .int, 2) := by decide +kernel
theorem dX7_init_79 : decode cX7_init 79 = .ok (.putfield 37, 3) := by decide +kernel
theorem dX7_init_82 : decode cX7_init 82 = .ok (.aload_n 0, 1) := by decide +kernel
theorem dX7_init_83 : decode cX7_init 83 = .ok (.bipush 8, 2) := by decide +kernel
theorem dX7_init_85 : decode cX7_init 85 = .ok (.newarray .int, 2) := by decide +kernel
theorem dX7_init_87 : decode cX7_init 87 = .ok (.putfield 40, 3) := by decide +kernel
theorem dX7_init_90 : decode cX7_init 90 = .ok (.aload_n 0, 1) := by decide +kernel
theorem dX7_init_91 : decode cX7_init 91 = .ok (.bipush 10, 2) := by decide +kernel
theorem dX7_init_93 : decode cX7_init 93 = .ok (.newarray .int, 2) := by decide +kernel
theorem dX7_init_95 : decode cX7_init 95 = .ok (.putfield 43, 3) := by decide +kernel
theorem dX7_init_98 : decode cX7_init 98 = .ok (.aload_n 0, 1) := by decide +kernel
theorem dX7_init_99 : decode cX7_init 99 = .ok (.bipush 10, 2) := by decide +kernel
theorem dX7_init_101 : decode cX7_init 101 = .ok (.newarray .int, 2) := by decide +kernel
theorem dX7_init_103 : decode cX7_init 103 = .ok (.putfield 46, 3) := by decide +kernel
theorem dX7_init_106 : decode cX7_init 106 = .ok (.aload_n 0, 1) := by decide +kernel
theorem dX7_init_107 : decode cX7_init 107 = .ok (.sipush 1024, 3) := by decide +kernel
theorem dX7_init_110 : decode cX7_init 110 = .ok (.newarray .boolean, 2) := by decide +kernel
theorem dX7_init_112 : decode cX7_init 112 = .ok (.putfield 49, 3) := by decide +kernel
theorem dX7_init_115 : decode cX7_init 115 = .ok (.aload_n 0, 1) := by decide +kernel
theorem dX7_init_116 : decode cX7_init 116 = .ok (.bipush 10, 2) := by decide +kernel
theorem dX7_init_118 : decode cX7_init 118 = .ok (.newarray .int, 2) := by decide +kernel
theorem dX7_init_120 : decode cX7_init 120 = .ok (.putfield 53, 3) := by decide +kernel
theorem dX7_init_123 : decode cX7_init 123 = .ok (.aload_n 0, 1) := by decide +kernel
theorem dX7_init_124 : decode cX7_init 124 = .ok (.iconst 4, 1) := by decide +kernel
theorem dX7_init_125 : decode cX7_init 125 = .ok (.newarray .boolean, 2) := by decide +kernel
theorem dX7_init_127 : decode cX7_init 127 = .ok (.putfield 56, 3) := by decide +kernel
theorem dX7_init_130 : decode cX7_init 130 = .ok (.aload_n 0, 1) := by decide +kernel
theorem dX7_init_131 : decode cX7_init 131 = .ok (.iconst 4, 1) := by decide +kernel
theorem dX7_init_132 : decode cX7_init 132 = .ok (.newarray .int, 2) := by decide +kernel
theorem dX7_init_134 : decode cX7_init 134 = .ok (.putfield 59, 3) := by decide +kernel
theorem dX7_init_137 : decode cX7_init 137 = .ok (.aload_n 0, 1) := by decide +kernel
theorem dX7_init_138 : decode cX7_init 138 = .ok (.iconst 4, 1) := by decide +kernel
theorem dX7_init_139 : decode cX7_init 139 = .ok (.newarray .int, 2) := by decide +kernel
theorem dX7_init_141 : decode cX7_init 141 = .ok (.putfield 62, 3) := by decide +kernel
theorem dX7_init_144 : decode cX7_init 144 = .ok (.aload_n 0, 1) := by decide +kernel
theorem dX7_init_145 : decode cX7_init 145 = .ok (.sipush 160, 3) := by decide +kernel
theorem dX7_init_148 : decode cX7_init 148 = .ok (.newarray .int, 2) := by decide +kernel
theorem dX7_init_150 : decode cX7_init 150 = .ok (.putfield 65, 3) := by decide +kernel
theorem dX7_init_153 : decode cX7_init 153 = .ok (.aload_n 0, 1) := by decide +kernel
theorem dX7_init_154 : decode cX7_init 154 = .ok (.bipush 40, 2) := by decide +kernel
theorem dX7_init_156 : decode cX7_init 156 = .ok (.newarray .int, 2) := by decide +kernel
theorem dX7_init_158 : decode cX7_init 158 = .ok (.putfield 68, 3) := by decide +kernel
theorem dX7_init_161 : decode cX7_init 161 = .ok (.return_, 1) := by decide +kernel
theorem dX7_in_0 : decode cX7_in 0 = .ok (.iload_n 0, 1) := by decide +kernel
theorem dX7_in_1 : decode cX7_in 1 = .ok (.iload_n 1, 1) := by decide +kernel
theorem dX7_in_2 : decode cX7_in 2 = .ok (.if_icmp .lt 12, 3) := by decide +kernel
theorem dX7_in_5 : decode cX7_in 5 = .ok (.iload_n 0, 1) := by decide +kernel
theorem dX7_in_6 : decode cX7_in 6 = .ok (.iload_n 2, 1) := by decide +kernel
theorem dX7_in_7 : decode cX7_in 7 = .ok (.if_icmp .gt 7, 3) := by decide +kernel
theorem dX7_in_10 : decode cX7_in 10 = .ok (.iconst 1, 1) := by decide +kernel
theorem dX7_in_11 : decode cX7_in 11 = .ok (.goto 4, 3) := by decide +kernel
theorem dX7_in_14 : decode cX7_in 14 = .ok (.iconst 0, 1) := by decide +kernel
theorem dX7_in_15 : decode cX7_in 15 = .ok (.ireturn, 1) := by decide +kernel
theorem dX7_has_0 : decode cX7_has 0 = .ok (.iload_n 0, 1) := by decide +kernel
theorem dX7_has_1 : decode cX7_has 1 = .ok (.iload_n 1, 1) := by decide +kernel
theorem dX7_has_2 : decode cX7_has 2 = .ok (.ishr, 1) := by decide +kernel
theorem dX7_has_3 : decode cX7_has 3 = .ok (.iconst 1, 1) := by decide +kernel
theorem dX7_has_4 : decode cX7_has 4 = .ok (.iand, 1) := by decide +kernel
theorem dX7_has_5 : decode cX7_has 5 = .ok (.iconst 1, 1) := by decide +kernel
theorem dX7_has_6 : decode cX7_has 6 = .ok (.if_icmp .ne 7, 3) := by decide +kernel
theorem dX7_has_9 : decode cX7_has 9 = .ok (.iconst 1, 1) := by decide +kernel
theorem dX7_has_10 : decode cX7_has 10 = .ok (.goto 4, 3) := by decide +kernel
theorem dX7_has_13 : decode cX7_has 13 = .ok (.iconst 0, 1) := by decide +kernel
theorem dX7_has_14 : decode cX7_has 14 = .ok (.ireturn, 1) := by decide +kernel
theorem dX7_ones_0 : decode cX7_ones 0 = .ok (.iconst 0, 1) := by decide +kernel
theorem dX7_ones_1 : decode cX7_ones 1 = .ok (.istore_n 1, 1) := by decide +kernel
theorem dX7_ones_2 : decode cX7_ones 2 = .ok (.iconst 0, 1) := by decide +kernel
theorem dX7_ones_3 : decode cX7_ones 3 = .ok (.istore_n 2, 1) := by decide +kernel
theorem dX7_ones_4 : decode cX7_ones 4 = .ok (.iload_n 2, 1) := by decide +kernel
theorem dX7_ones_5 : decode cX7_ones 5 = .ok (.bipush 10, 2) := by decide +kernel
theorem dX7_ones_7 : decode cX7_ones 7 = .ok (.if_icmp .ge 17, 3) := by decide +kernel
theorem dX7_ones_10 : decode cX7_ones 10 = .ok (.iload_n 1, 1) := by decide +kernel
theorem dX7_ones_11 : decode cX7_ones 11 = .ok (.iload_n 0, 1) := by decide +kernel
theorem dX7_ones_12 : decode cX7_ones 12 = .ok (.iload_n 2, 1) := by decide +kernel
theorem dX7_ones_13 : decode cX7_ones 13 = .ok (.ishr, 1) := by decide +kernel
theorem dX7_ones_14 : decode cX7_ones 14 = .ok (.iconst 1, 1) := by decide +kernel
theorem dX7_ones_15 : decode cX7_ones 15 = .ok (.iand, 1) := by decide +kernel
theorem dX7_ones_16 : decode cX7_ones 16 = .ok (.iadd, 1) := by decide +kernel
theorem dX7_ones_17 : decode cX7_ones 17 = .ok (.istore_n 1, 1) := by decide +kernel
theorem dX7_ones_18 : decode cX7_ones 18 = .ok (.iinc 2 1, 3) := by decide +kernel
theorem dX7_ones_21 : decode cX7_ones 21 = .ok (.goto (-17), 3) := by decide +kernel
theorem dX7_ones_24 : decode cX7_ones 24 = .ok (.iload_n 1, 1) := by decide +kernel
theorem dX7_ones_25 : decode cX7_ones 25 = .ok (.ireturn, 1) := by decide +kernel
theorem dX7_apart_0 : decode cX7_apart 0 = .ok (.iload_n 0, 1) := by decide +kernel
theorem dX7_apart_1 : decode cX7_apart 1 = .ok (.iload_n 1, 1) := by decide +kernel
theorem dX7_apart_2 : decode cX7_apart 2 = .ok (.if_icmp .le 9, 3) := by decide +kernel
theorem dX7_apart_5 : decode cX7_apart 5 = .ok (.iload_n 0, 1) := by decide +kernel
theorem dX7_apart_6 : decode cX7_apart 6 = .ok (.iload_n 1, 1) := by decide +kernel
theorem dX7_apart_7 : decode cX7_apart 7 = .ok (.isub, 1) := by decide +kernel
theorem dX7_apart_8 : decode cX7_apart 8 = .ok (.goto 6, 3) := by decide +kernel
theorem dX7_apart_11 : decode cX7_apart 11 = .ok (.iload_n 1, 1) := by decide +kernel
theorem dX7_apart_12 : decode cX7_apart 12 = .ok (.iload_n 0, 1) := by decide +kernel
theorem dX7_apart_13 : decode cX7_apart 13 = .ok (.isub, 1) := by decide +kernel
theorem dX7_apart_14 : decode cX7_apart 14 = .ok (.ireturn, 1) := by decide +kernel
theorem dX7_isTown_0 : decode cX7_isTown 0 = .ok (.iload_n 0, 1) := by decide +kernel
theorem dX7_isTown_1 : decode cX7_isTown 1 = .ok (.iconst 0, 1) := by decide +kernel
theorem dX7_isTown_2 : decode cX7_isTown 2 = .ok (.iconst 5, 1) := by decide +kernel
theorem dX7_isTown_3 : decode cX7_isTown 3 = .ok (.invokestatic 71, 3) := by decide +kernel
theorem dX7_isTown_6 : decode cX7_isTown 6 = .ok (.ireturn, 1) := by decide +kernel
theorem dX7_road_0 : decode cX7_road 0 = .ok (.iload_n 1, 1) := by decide +kernel
theorem dX7_road_1 : decode cX7_road 1 = .ok (.invokestatic 75, 3) := by decide +kernel
theorem dX7_road_4 : decode cX7_road 4 = .ok (.ifCond .eq 25, 3) := by decide +kernel
theorem dX7_road_7 : decode cX7_road 7 = .ok (.iload_n 2, 1) := by decide +kernel
theorem dX7_road_8 : decode cX7_road 8 = .ok (.invokestatic 75, 3) := by decide +kernel
theorem dX7_road_11 : decode cX7_road 11 = .ok (.ifCond .eq 18, 3) := by decide +kernel
theorem dX7_road_14 : decode cX7_road 14 = .ok (.iload_n 1, 1) := by decide +kernel
theorem dX7_road_15 : decode cX7_road 15 = .ok (.iload_n 2, 1) := by decide +kernel
theorem dX7_road_16 : decode cX7_road 16 = .ok (.if_icmp .eq 13, 3) := by decide +kernel
theorem dX7_road_19 : decode cX7_road 19 = .ok (.iload_n 3, 1) := by decide +kernel
theorem dX7_road_20 : decode cX7_road 20 = .ok (.iconst 0, 1) := by decide +kernel
theorem dX7_road_21 : decode cX7_road 21 = .ok (.bipush 99, 2) := by decide +kernel
theorem dX7_road_23 : decode cX7_road 23 = .ok (.invokestatic 71, 3) := by decide +kernel
theorem dX7_road_26 : decode cX7_road 26 = .ok (.ifCond .ne 6, 3) := by decide +kernel
theorem dX7_road_29 : decode cX7_road 29 = .ok (.bipush (-2), 2) := by decide +kernel
theorem dX7_road_31 : decode cX7_road 31 = .ok (.ireturn, 1) := by decide +kernel
theorem dX7_road_32 : decode cX7_road 32 = .ok (.aload_n 0, 1) := by decide +kernel
theorem dX7_road_33 : decode cX7_road 33 = .ok (.getfield 7, 3) := by decide +kernel
theorem dX7_road_36 : decode cX7_road 36 = .ok (.bipush 6, 2) := by decide +kernel
theorem dX7_road_38 : decode cX7_road 38 = .ok (.iload_n 1, 1) := by decide +kernel
theorem dX7_road_39 : decode cX7_road 39 = .ok (.imul, 1) := by decide +kernel
theorem dX7_road_40 : decode cX7_road 40 = .ok (.iload_n 2, 1) := by decide +kernel
theorem dX7_road_41 : decode cX7_road 41 = .ok (.iadd, 1) := by decide +kernel
theorem dX7_road_42 : decode cX7_road 42 = .ok (.iaload, 1) := by decide +kernel
theorem dX7_road_43 : decode cX7_road 43 = .ok (.istore 4, 2) := by decide +kernel
theorem dX7_road_45 : decode cX7_road 45 = .ok (.aload_n 0, 1) := by decide +kernel
theorem dX7_road_46 : decode cX7_road 46 = .ok (.getfield 7, 3) := by decide +kernel
theorem dX7_road_49 : decode cX7_road 49 = .ok (.bipush 6, 2) := by decide +kernel
theorem dX7_road_51 : decode cX7_road 51 = .ok (.iload_n 1, 1) := by decide +kernel
theorem dX7_road_52 : decode cX7_road 52 = .ok (.imul, 1) := by decide +kernel
theorem dX7_road_53 : decode cX7_road 53 = .ok (.iload_n 2, 1) := by decide +kernel
theorem dX7_road_54 : decode cX7_road 54 = .ok (.iadd, 1) := by decide +kernel
theorem dX7_road_55 : decode cX7_road 55 = .ok (.iload_n 3, 1) := by decide +kernel
theorem dX7_road_56 : decode cX7_road 56 = .ok (.iastore, 1) := by decide +kernel
theorem dX7_road_57 : decode cX7_road 57 = .ok (.aload_n 0, 1) := by decide +kernel
theorem dX7_road_58 : decode cX7_road 58 = .ok (.getfield 7, 3) := by decide +kernel
theorem dX7_road_61 : decode cX7_road 61 = .ok (.bipush 6, 2) := by decide +kernel
theorem dX7_road_63 : decode cX7_road 63 = .ok (.iload_n 2, 1) := by decide +kernel
theorem dX7_road_64 : decode cX7_road 64 = .ok (.imul, 1) := by decide +kernel
theorem dX7_road_65 : decode cX7_road 65 = .ok (.iload_n 1, 1) := by decide +kernel
theorem dX7_road_66 : decode cX7_road 66 = .ok (.iadd, 1) := by decide +kernel
theorem dX7_road_67 : decode cX7_road 67 = .ok (.iload_n 3, 1) := by decide +kernel
theorem dX7_road_68 : decode cX7_road 68 = .ok (.iastore, 1) := by decide +kernel
theorem dX7_road_69 : decode cX7_road 69 = .ok (.iload 4, 2) := by decide +kernel
theorem dX7_road_71 : decode cX7_road 71 = .ok (.ireturn, 1) := by decide +kernel
theorem dX7_laysWays_0 : decode cX7_laysWays 0 = .ok (.iconst 0, 1) := by decide +kernel
theorem dX7_laysWays_1 : decode cX7_laysWays 1 = .ok (.istore_n 1, 1) := by decide +kernel
theorem dX7_laysWays_2 : decode cX7_laysWays 2 = .ok (.iload_n 1, 1) := by decide +kernel
theorem dX7_laysWays_3 : decode cX7_laysWays 3 = .ok (.bipush 36, 2) := by decide +kernel
theorem dX7_laysWays_5 : decode cX7_laysWays 5 = .ok (.if_icmp .ge 51, 3) := by decide +kernel
theorem dX7_laysWays_8 : decode cX7_laysWays 8 = .ok (.aload_n 0, 1) := by decide +kernel
theorem dX7_laysWays_9 : decode cX7_laysWays 9 = .ok (.getfield 13, 3) := by decide +kernel
theorem dX7_laysWays_12 : decode cX7_laysWays 12 = .ok (.iload_n 1, 1) := by decide +kernel
theorem dX7_laysWays_13 : decode cX7_laysWays 13 = .ok (.iload_n 1, 1) := by decide +kernel
theorem dX7_laysWays_14 : decode cX7_laysWays 14 = .ok (.bipush 6, 2) := by decide +kernel
theorem dX7_laysWays_16 : decode cX7_laysWays 16 = .ok (.idiv, 1) := by decide +kernel
theorem dX7_laysWays_17 : decode cX7_laysWays 17 = .ok (.iload_n 1, 1) := by decide +kernel
theorem dX7_laysWays_18 : decode cX7_laysWays 18 = .ok (.bipush 6, 2) := by decide +kernel
theorem dX7_laysWays_20 : decode cX7_laysWays 20 = .ok (.irem, 1) := by decide +kernel
theorem dX7_laysWays_21 : decode cX7_laysWays 21 = .ok (.if_icmp .ne 7, 3) := by decide +kernel
theorem dX7_laysWays_24 : decode cX7_laysWays 24 = .ok (.iconst 0, 1) := by decide +kernel
theorem dX7_laysWays_25 : decode cX7_laysWays 25 = .ok (.goto 24, 3) := by decide +kernel
theorem dX7_laysWays_28 : decode cX7_laysWays 28 = .ok (.aload_n 0, 1) := by decide +kernel
theorem dX7_laysWays_29 : decode cX7_laysWays 29 = .ok (.getfield 7, 3) := by decide +kernel
theorem dX7_laysWays_32 : decode cX7_laysWays 32 = .ok (.iload_n 1, 1) := by decide +kernel
theorem dX7_laysWays_33 : decode cX7_laysWays 33 = .ok (.iaload, 1) := by decide +kernel
theorem dX7_laysWays_34 : decode cX7_laysWays 34 = .ok (.ifCond .le 12, 3) := by decide +kernel
theorem dX7_laysWays_37 : decode cX7_laysWays 37 = .ok (.aload_n 0, 1) := by decide +kernel
theorem dX7_laysWays_38 : decode cX7_laysWays 38 = .ok (.getfield 7, 3) := by decide +kernel
theorem dX7_laysWays_41 : decode cX7_laysWays 41 = .ok (.iload_n 1, 1) := by decide +kernel
theorem dX7_laysWays_42 : decode cX7_laysWays 42 = .ok (.iaload, 1) := by decide +kernel
theorem dX7_laysWays_43 : decode cX7_laysWays 43 = .ok (.goto 6, 3) := by decide +kernel
theorem dX7_laysWays_46 : decode cX7_laysWays 46 = .ok (.sipush 1000, 3) := by decide +kernel
theorem dX7_laysWays_49 : decode cX7_laysWays 49 = .ok (.iastore, 1) := by decide +kernel
theorem dX7_laysWays_50 : decode cX7_laysWays 50 = .ok (.iinc 1 1, 3) := by decide +kernel
theorem dX7_laysWays_53 : decode cX7_laysWays 53 = .ok (.goto (-51), 3) := by decide +kernel
theorem dX7_laysWays_56 : decode cX7_laysWays 56 = .ok (.iconst 0, 1) := by decide +kernel
theorem dX7_laysWays_57 : decode cX7_laysWays 57 = .ok (.istore_n 1, 1) := by decide +kernel
theorem dX7_laysWays_58 : decode cX7_laysWays 58 = .ok (.iload_n 1, 1) := by decide +kernel
theorem dX7_laysWays_59 : decode cX7_laysWays 59 = .ok (.bipush 6, 2) := by decide +kernel
theorem dX7_laysWays_61 : decode cX7_laysWays 61 = .ok (.if_icmp .ge 79, 3) := by decide +kernel
theorem dX7_laysWays_64 : decode cX7_laysWays 64 = .ok (.iconst 0, 1) := by decide +kernel
theorem dX7_laysWays_65 : decode cX7_laysWays 65 = .ok (.istore_n 2, 1) := by decide +kernel
theorem dX7_laysWays_66 : decode cX7_laysWays 66 = .ok (.iload_n 2, 1) := by decide +kernel
theorem dX7_laysWays_67 : decode cX7_laysWays 67 = .ok (.bipush 36, 2) := by decide +kernel
theorem dX7_laysWays_69 : decode cX7_laysWays 69 = .ok (.if_icmp .ge 65, 3) := by decide +kernel
theorem dX7_laysWays_72 : decode cX7_laysWays 72 = .ok (.aload_n 0, 1) := by decide +kernel
theorem dX7_laysWays_73 : decode cX7_laysWays 73 = .ok (.getfield 13, 3) := by decide +kernel
theorem dX7_laysWays_76 : decode cX7_laysWays 76 = .ok (.iload_n 2, 1) := by decide +kernel
theorem dX7_laysWays_77 : decode cX7_laysWays 77 = .ok (.bipush 6, 2) := by decide +kernel
theorem dX7_laysWays_79 : decode cX7_laysWays 79 = .ok (.idiv, 1) := by decide +kernel
theorem dX7_laysWays_80 : decode cX7_laysWays 80 = .ok (.bipush 6, 2) := by decide +kernel
theorem dX7_laysWays_82 : decode cX7_laysWays 82 = .ok (.imul, 1) := by decide +kernel
theorem dX7_laysWays_83 : decode cX7_laysWays 83 = .ok (.iload_n 1, 1) := by decide +kernel
theorem dX7_laysWays_84 : decode cX7_laysWays 84 = .ok (.iadd, 1) := by decide +kernel
theorem dX7_laysWays_85 : decode cX7_laysWays 85 = .ok (.iaload, 1) := by decide +kernel
theorem dX7_laysWays_86 : decode cX7_laysWays 86 = .ok (.aload_n 0, 1) := by decide +kernel
theorem dX7_laysWays_87 : decode cX7_laysWays 87 = .ok (.getfield 13, 3) := by decide +kernel
theorem dX7_laysWays_90 : decode cX7_laysWays 90 = .ok (.bipush 6, 2) := by decide +kernel
theorem dX7_laysWays_92 : decode cX7_laysWays 92 = .ok (.iload_n 1, 1) := by decide +kernel
theorem dX7_laysWays_93 : decode cX7_laysWays 93 = .ok (.imul, 1) := by decide +kernel
theorem dX7_laysWays_94 : decode cX7_laysWays 94 = .ok (.iload_n 2, 1) := by decide +kernel
theorem dX7_laysWays_95 : decode cX7_laysWays 95 = .ok (.bipush 6, 2) := by decide +kernel
theorem dX7_laysWays_97 : decode cX7_laysWays 97 = .ok (.irem, 1) := by decide +kernel
theorem dX7_laysWays_98 : decode cX7_laysWays 98 = .ok (.iadd, 1) := by decide +kernel
theorem dX7_laysWays_99 : decode cX7_laysWays 99 = .ok (.iaload, 1) := by decide +kernel
theorem dX7_laysWays_100 : decode cX7_laysWays 100 = .ok (.iadd, 1) := by decide +kernel
theorem dX7_laysWays_101 : decode cX7_laysWays 101 = .ok (.istore_n 3, 1) := by decide +kernel
theorem dX7_laysWays_102 : decode cX7_laysWays 102 = .ok (.aload_n 0, 1) := by decide +kernel
theorem dX7_laysWays_103 : decode cX7_laysWays 103 = .ok (.getfield 13, 3) := by decide +kernel
theorem dX7_laysWays_106 : decode cX7_laysWays 106 = .ok (.iload_n 2, 1) := by decide +kernel
theorem dX7_laysWays_107 : decode cX7_laysWays 107 = .ok (.iload_n 3, 1) := by decide +kernel
theorem dX7_laysWays_108 : decode cX7_laysWays 108 = .ok (.aload_n 0, 1) := by decide +kernel
theorem dX7_laysWays_109 : decode cX7_laysWays 109 = .ok (.getfield 13, 3) := by decide +kernel
theorem dX7_laysWays_112 : decode cX7_laysWays 112 = .ok (.iload_n 2, 1) := by decide +kernel
theorem dX7_laysWays_113 : decode cX7_laysWays 113 = .ok (.iaload, 1) := by decide +kernel
theorem dX7_laysWays_114 : decode cX7_laysWays 114 = .ok (.if_icmp .ge 7, 3) := by decide +kernel
theorem dX7_laysWays_117 : decode cX7_laysWays 117 = .ok (.iload_n 3, 1) := by decide +kernel
theorem dX7_laysWays_118 : decode cX7_laysWays 118 = .ok (.goto 9, 3) := by decide +kernel
theorem dX7_laysWays_121 : decode cX7_laysWays 121 = .ok (.aload_n 0, 1) := by decide +kernel
theorem dX7_laysWays_122 : decode cX7_laysWays 122 = .ok (.getfield 13, 3) := by decide +kernel
theorem dX7_laysWays_125 : decode cX7_laysWays 125 = .ok (.iload_n 2, 1) := by decide +kernel
theorem dX7_laysWays_126 : decode cX7_laysWays 126 = .ok (.iaload, 1) := by decide +kernel
theorem dX7_laysWays_127 : decode cX7_laysWays 127 = .ok (.iastore, 1) := by decide +kernel
theorem dX7_laysWays_128 : decode cX7_laysWays 128 = .ok (.iinc 2 1, 3) := by decide +kernel
theorem dX7_laysWays_131 : decode cX7_laysWays 131 = .ok (.goto (-65), 3) := by decide +kernel
theorem dX7_laysWays_134 : decode cX7_laysWays 134 = .ok (.iinc 1 1, 3) := by decide +kernel
theorem dX7_laysWays_137 : decode cX7_laysWays 137 = .ok (.goto (-79), 3) := by decide +kernel
theorem dX7_laysWays_140 : decode cX7_laysWays 140 = .ok (.return_, 1) := by decide +kernel
theorem dX7_away_0 : decode cX7_away 0 = .ok (.iload_n 1, 1) := by decide +kernel
theorem dX7_away_1 : decode cX7_away 1 = .ok (.invokestatic 75, 3) := by decide +kernel
theorem dX7_away_4 : decode cX7_away 4 = .ok (.ifCond .eq 10, 3) := by decide +kernel
theorem dX7_away_7 : decode cX7_away 7 = .ok (.iload_n 2, 1) := by decide +kernel
theorem dX7_away_8 : decode cX7_away 8 = .ok (.invokestatic 75, 3) := by decide +kernel
theorem dX7_away_11 : decode cX7_away 11 = .ok (.ifCond .ne 6, 3) := by decide +kernel
theorem dX7_away_14 : decode cX7_away 14 = .ok (.bipush (-2), 2) := by decide +kernel
theorem dX7_away_16 : decode cX7_away 16 = .ok (.ireturn, 1) := by decide +kernel
theorem dX7_away_17 : decode cX7_away 17 = .ok (.aload_n 0, 1) := by decide +kernel
theorem dX7_away_18 : decode cX7_away 18 = .ok (.invokevirtual 79, 3) := by decide +kernel
theorem dX7_away_21 : decode cX7_away 21 = .ok (.aload_n 0, 1) := by decide +kernel
theorem dX7_away_22 : decode cX7_away 22 = .ok (.getfield 13, 3) := by decide +kernel
theorem dX7_away_25 : decode cX7_away 25 = .ok (.bipush 6, 2) := by decide +kernel
theorem dX7_away_27 : decode cX7_away 27 = .ok (.iload_n 1, 1) := by decide +kernel
theorem dX7_away_28 : decode cX7_away 28 = .ok (.imul, 1) := by decide +kernel
theorem dX7_away_29 : decode cX7_away 29 = .ok (.iload_n 2, 1) := by decide +kernel
theorem dX7_away_30 : decode cX7_away 30 = .ok (.iadd, 1) := by decide +kernel
theorem dX7_away_31 : decode cX7_away 31 = .ok (.iaload, 1) := by decide +kernel
theorem dX7_away_32 : decode cX7_away 32 = .ok (.ireturn, 1) := by decide +kernel
theorem dX7_adds_0 : decode cX7_adds 0 = .ok (.iload_n 1, 1) := by decide +kernel
theorem dX7_adds_1 : decode cX7_adds 1 = .ok (.iconst 0, 1) := by decide +kernel
theorem dX7_adds_2 : decode cX7_adds 2 = .ok (.iconst 2, 1) := by decide +kernel
theorem dX7_adds_3 : decode cX7_adds 3 = .ok (.invokestatic 71, 3) := by decide +kernel
theorem dX7_adds_6 : decode cX7_adds 6 = .ok (.ifCond .eq 57, 3) := by decide +kernel
theorem dX7_adds_9 : decode cX7_adds 9 = .ok (.iload_n 2, 1) := by decide +kernel
theorem dX7_adds_10 : decode cX7_adds 10 = .ok (.iconst 1, 1) := by decide +kernel
theorem dX7_adds_11 : decode cX7_adds 11 = .ok (.sipush 1023, 3) := by decide +kernel
theorem dX7_adds_14 : decode cX7_adds 14 = .ok (.invokestatic 71, 3) := by decide +kernel
theorem dX7_adds_17 : decode cX7_adds 17 = .ok (.ifCond .eq 46, 3) := by decide +kernel
theorem dX7_adds_20 : decode cX7_adds 20 = .ok (.iload_n 3, 1) := by decide +kernel
theorem dX7_adds_21 : decode cX7_adds 21 = .ok (.invokestatic 75, 3) := by decide +kernel
theorem dX7_adds_24 : decode cX7_adds 24 = .ok (.ifCond .eq 39, 3) := by decide +kernel
theorem dX7_adds_27 : decode cX7_adds 27 = .ok (.iload 4, 2) := by decide +kernel
theorem dX7_adds_29 : decode cX7_adds 29 = .ok (.iconst 0, 1) := by decide +kernel
theorem dX7_adds_30 : decode cX7_adds 30 = .ok (.sipush 999, 3) := by decide +kernel
theorem dX7_adds_33 : decode cX7_adds 33 = .ok (.invokestatic 71, 3) := by decide +kernel
theorem dX7_adds_36 : decode cX7_adds 36 = .ok (.ifCond .eq 27, 3) := by decide +kernel
theorem dX7_adds_39 : decode cX7_adds 39 = .ok (.iload 5, 2) := by decide +kernel
theorem dX7_adds_41 : decode cX7_adds 41 = .ok (.iconst 0, 1) := by decide +kernel
theorem dX7_adds_42 : decode cX7_adds 42 = .ok (.iload_n 1, 1) := by decide +kernel
theorem dX7_adds_43 : decode cX7_adds 43 = .ok (.ifCond .ne 8, 3) := by decide +kernel
theorem dX7_adds_46 : decode cX7_adds 46 = .ok (.bipush 99, 2) := by decide +kernel
theorem dX7_adds_48 : decode cX7_adds 48 = .ok (.goto 9, 3) := by decide +kernel
theorem dX7_adds_51 : decode cX7_adds 51 = .ok (.aload_n 0, 1) := by decide +kernel
theorem dX7_adds_52 : decode cX7_adds 52 = .ok (.getfield 82, 3) := by decide +kernel
theorem dX7_adds_55 : decode cX7_adds 55 = .ok (.iconst 1, 1) := by decide +kernel
theorem dX7_adds_56 : decode cX7_adds 56 = .ok (.isub, 1) := by decide +kernel
theorem dX7_adds_57 : decode cX7_adds 57 = .ok (.invokestatic 71, 3) := by decide +kernel
theorem dX7_adds_60 : decode cX7_adds 60 = .ok (.ifCond .ne 6, 3) := by decide +kernel
theorem dX7_adds_63 : decode cX7_adds 63 = .ok (.bipush (-2), 2) := by decide +kernel
theorem dX7_adds_65 : decode cX7_adds 65 = .ok (.ireturn, 1) := by decide +kernel
theorem dX7_adds_66 : decode cX7_adds 66 = .ok (.aload_n 0, 1) := by decide +kernel
theorem dX7_adds_67 : decode cX7_adds 67 = .ok (.getfield 82, 3) := by decide +kernel
theorem dX7_adds_70 : decode cX7_adds 70 = .ok (.bipush 10, 2) := by decide +kernel
theorem dX7_adds_72 : decode cX7_adds 72 = .ok (.if_icmp .ne 6, 3) := by decide +kernel
theorem dX7_adds_75 : decode cX7_adds 75 = .ok (.bipush (-4), 2) := by decide +kernel
theorem dX7_adds_77 : decode cX7_adds 77 = .ok (.ireturn, 1) := by decide +kernel
theorem dX7_adds_78 : decode cX7_adds 78 = .ok (.aload_n 0, 1) := by decide +kernel
theorem dX7_adds_79 : decode cX7_adds 79 = .ok (.getfield 16, 3) := by decide +kernel
theorem dX7_adds_82 : decode cX7_adds 82 = .ok (.aload_n 0, 1) := by decide +kernel
theorem dX7_adds_83 : decode cX7_adds 83 = .ok (.getfield 82, 3) := by decide +kernel
theorem dX7_adds_86 : decode cX7_adds 86 = .ok (.iload_n 1, 1) := by decide +kernel
theorem dX7_adds_87 : decode cX7_adds 87 = .ok (.iastore, 1) := by decide +kernel
theorem dX7_adds_88 : decode cX7_adds 88 = .ok (.aload_n 0, 1) := by decide +kernel
theorem dX7_adds_89 : decode cX7_adds 89 = .ok (.getfield 19, 3) := by decide +kernel
theorem dX7_adds_92 : decode cX7_adds 92 = .ok (.aload_n 0, 1) := by decide +kernel
theorem dX7_adds_93 : decode cX7_adds 93 = .ok (.getfield 82, 3) := by decide +kernel
theorem dX7_adds_96 : decode cX7_adds 96 = .ok (.iload_n 2, 1) := by decide +kernel
theorem dX7_adds_97 : decode cX7_adds 97 = .ok (.iastore, 1) := by decide +kernel
theorem dX7_adds_98 : decode cX7_adds 98 = .ok (.aload_n 0, 1) := by decide +kernel
theorem dX7_adds_99 : decode cX7_adds 99 = .ok (.getfield 22, 3) := by decide +kernel
theorem dX7_adds_102 : decode cX7_adds 102 = .ok (.aload_n 0, 1) := by decide +kernel
theorem dX7_adds_103 : decode cX7_adds 103 = .ok (.getfield 82, 3) := by decide +kernel
theorem dX7_adds_106 : decode cX7_adds 106 = .ok (.iload_n 3, 1) := by decide +kernel
theorem dX7_adds_107 : decode cX7_adds 107 = .ok (.iastore, 1) := by decide +kernel
theorem dX7_adds_108 : decode cX7_adds 108 = .ok (.aload_n 0, 1) := by decide +kernel
theorem dX7_adds_109 : decode cX7_adds 109 = .ok (.getfield 25, 3) := by decide +kernel
theorem dX7_adds_112 : decode cX7_adds 112 = .ok (.aload_n 0, 1) := by decide +kernel
theorem dX7_adds_113 : decode cX7_adds 113 = .ok (.getfield 82, 3) := by decide +kernel
theorem dX7_adds_116 : decode cX7_adds 116 = .ok (.iload 4, 2) := by decide +kernel
theorem dX7_adds_118 : decode cX7_adds 118 = .ok (.iastore, 1) := by decide +kernel
theorem dX7_adds_119 : decode cX7_adds 119 = .ok (.aload_n 0, 1) := by decide +kernel
theorem dX7_adds_120 : decode cX7_adds 120 = .ok (.getfield 28, 3) := by decide +kernel
theorem dX7_adds_123 : decode cX7_adds 123 = .ok (.aload_n 0, 1) := by decide +kernel
theorem dX7_adds_124 : decode cX7_adds 124 = .ok (.getfield 82, 3) := by decide +kernel
theorem dX7_adds_127 : decode cX7_adds 127 = .ok (.iload 5, 2) := by decide +kernel
theorem dX7_adds_129 : decode cX7_adds 129 = .ok (.iastore, 1) := by decide +kernel
theorem dX7_adds_130 : decode cX7_adds 130 = .ok (.aload_n 0, 1) := by decide +kernel
theorem dX7_adds_131 : decode cX7_adds 131 = .ok (.dup, 1) := by decide +kernel
theorem dX7_adds_132 : decode cX7_adds 132 = .ok (.getfield 82, 3) := by decide +kernel
theorem dX7_adds_135 : decode cX7_adds 135 = .ok (.iconst 1, 1) := by decide +kernel
theorem dX7_adds_136 : decode cX7_adds 136 = .ok (.iadd, 1) := by decide +kernel
theorem dX7_adds_137 : decode cX7_adds 137 = .ok (.putfield 82, 3) := by decide +kernel
theorem dX7_adds_140 : decode cX7_adds 140 = .ok (.aload_n 0, 1) := by decide +kernel
theorem dX7_adds_141 : decode cX7_adds 141 = .ok (.getfield 82, 3) := by decide +kernel
theorem dX7_adds_144 : decode cX7_adds 144 = .ok (.iconst 1, 1) := by decide +kernel
theorem dX7_adds_145 : decode cX7_adds 145 = .ok (.isub, 1) := by decide +kernel
theorem dX7_adds_146 : decode cX7_adds 146 = .ok (.ireturn, 1) := by decide +kernel
theorem dX7_word_0 : decode cX7_word 0 = .ok (.aload_n 0, 1) := by decide +kernel
theorem dX7_word_1 : decode cX7_word 1 = .ok (.iload_n 1, 1) := by decide +kernel
theorem dX7_word_2 : decode cX7_word 2 = .ok (.iload_n 2, 1) := by decide +kernel
theorem dX7_word_3 : decode cX7_word 3 = .ok (.iload_n 3, 1) := by decide +kernel
theorem dX7_word_4 : decode cX7_word 4 = .ok (.iload 4, 2) := by decide +kernel
theorem dX7_word_6 : decode cX7_word 6 = .ok (.iload 5, 2) := by decide +kernel
theorem dX7_word_8 : decode cX7_word 8 = .ok (.invokevirtual 86, 3) := by decide +kernel
theorem dX7_word_11 : decode cX7_word 11 = .ok (.ireturn, 1) := by decide +kernel
theorem dX7_read_0 : decode cX7_read 0 = .ok (.iload_n 1, 1) := by decide +kernel
theorem dX7_read_1 : decode cX7_read 1 = .ok (.invokestatic 90, 3) := by decide +kernel
theorem dX7_read_4 : decode cX7_read 4 = .ok (.ifCond .ne 6, 3) := by decide +kernel
theorem dX7_read_7 : decode cX7_read 7 = .ok (.bipush (-2), 2) := by decide +kernel
theorem dX7_read_9 : decode cX7_read 9 = .ok (.ireturn, 1) := by decide +kernel
theorem dX7_read_10 : decode cX7_read 10 = .ok (.aload_n 0, 1) := by decide +kernel
theorem dX7_read_11 : decode cX7_read 11 = .ok (.getfield 56, 3) := by decide +kernel
theorem dX7_read_14 : decode cX7_read 14 = .ok (.iload_n 1, 1) := by decide +kernel
theorem dX7_read_15 : decode cX7_read 15 = .ok (.baload, 1) := by decide +kernel
theorem dX7_read_16 : decode cX7_read 16 = .ok (.ifCond .ne 9, 3) := by decide +kernel
theorem dX7_read_19 : decode cX7_read 19 = .ok (.aload_n 0, 1) := by decide +kernel
theorem dX7_read_20 : decode cX7_read 20 = .ok (.iconst 1, 1) := by decide +kernel
theorem dX7_read_21 : decode cX7_read 21 = .ok (.invokevirtual 93, 3) := by decide +kernel
theorem dX7_read_24 : decode cX7_read 24 = .ok (.ireturn, 1) := by decide +kernel
theorem dX7_read_25 : decode cX7_read 25 = .ok (.iconst 0, 1) := by decide +kernel
theorem dX7_read_26 : decode cX7_read 26 = .ok (.istore_n 2, 1) := by decide +kernel
theorem dX7_read_27 : decode cX7_read 27 = .ok (.iconst 5, 1) := by decide +kernel
theorem dX7_read_28 : decode cX7_read 28 = .ok (.iload_n 2, 1) := by decide +kernel
theorem dX7_read_29 : decode cX7_read 29 = .ok (.imul, 1) := by decide +kernel
theorem dX7_read_30 : decode cX7_read 30 = .ok (.iconst 4, 1) := by decide +kernel
theorem dX7_read_31 : decode cX7_read 31 = .ok (.iadd, 1) := by decide +kernel
theorem dX7_read_32 : decode cX7_read 32 = .ok (.aload_n 0, 1) := by decide +kernel
theorem dX7_read_33 : decode cX7_read 33 = .ok (.getfield 62, 3) := by decide +kernel
theorem dX7_read_36 : decode cX7_read 36 = .ok (.iload_n 1, 1) := by decide +kernel
theorem dX7_read_37 : decode cX7_read 37 = .ok (.iaload, 1) := by decide +kernel
theorem dX7_read_38 : decode cX7_read 38 = .ok (.if_icmp .ge 65, 3) := by decide +kernel
theorem dX7_read_41 : decode cX7_read 41 = .ok (.bipush 40, 2) := by decide +kernel
theorem dX7_read_43 : decode cX7_read 43 = .ok (.iload_n 1, 1) := by decide +kernel
theorem dX7_read_44 : decode cX7_read 44 = .ok (.imul, 1) := by decide +kernel
theorem dX7_read_45 : decode cX7_read 45 = .ok (.iconst 5, 1) := by decide +kernel
theorem dX7_read_46 : decode cX7_read 46 = .ok (.iload_n 2, 1) := by decide +kernel
theorem dX7_read_47 : decode cX7_read 47 = .ok (.imul, 1) := by decide +kernel
theorem dX7_read_48 : decode cX7_read 48 = .ok (.iadd, 1) := by decide +kernel
theorem dX7_read_49 : decode cX7_read 49 = .ok (.istore_n 3, 1) := by decide +kernel
theorem dX7_read_50 : decode cX7_read 50 = .ok (.aload_n 0, 1) := by decide +kernel
theorem dX7_read_51 : decode cX7_read 51 = .ok (.aload_n 0, 1) := by decide +kernel
theorem dX7_read_52 : decode cX7_read 52 = .ok (.getfield 65, 3) := by decide +kernel
theorem dX7_read_55 : decode cX7_read 55 = .ok (.iload_n 3, 1) := by decide +kernel
theorem dX7_read_56 : decode cX7_read 56 = .ok (.iaload, 1) := by decide +kernel
theorem dX7_read_57 : decode cX7_read 57 = .ok (.aload_n 0, 1) := by decide +kernel
theorem dX7_read_58 : decode cX7_read 58 = .ok (.getfield 65, 3) := by decide +kernel
theorem dX7_read_61 : decode cX7_read 61 = .ok (.iload_n 3, 1) := by decide +kernel
theorem dX7_read_62 : decode cX7_read 62 = .ok (.iconst 1, 1) := by decide +kernel
theorem dX7_read_63 : decode cX7_read 63 = .ok (.iadd, 1) := by decide +kernel
theorem dX7_read_64 : decode cX7_read 64 = .ok (.iaload, 1) := by decide +kernel
theorem dX7_read_65 : decode cX7_read 65 = .ok (.aload_n 0, 1) := by decide +kernel
theorem dX7_read_66 : decode cX7_read 66 = .ok (.getfield 65, 3) := by decide +kernel
theorem dX7_read_69 : decode cX7_read 69 = .ok (.iload_n 3, 1) := by decide +kernel
theorem dX7_read_70 : decode cX7_read 70 = .ok (.iconst 2, 1) := by decide +kernel
theorem dX7_read_71 : decode cX7_read 71 = .ok (.iadd, 1) := by decide +kernel
theorem dX7_read_72 : decode cX7_read 72 = .ok (.iaload, 1) := by decide +kernel
theorem dX7_read_73 : decode cX7_read 73 = .ok (.aload_n 0, 1) := by decide +kernel
theorem dX7_read_74 : decode cX7_read 74 = .ok (.getfield 65, 3) := by decide +kernel
theorem dX7_read_77 : decode cX7_read 77 = .ok (.iload_n 3, 1) := by decide +kernel
theorem dX7_read_78 : decode cX7_read 78 = .ok (.iconst 3, 1) := by decide +kernel
theorem dX7_read_79 : decode cX7_read 79 = .ok (.iadd, 1) := by decide +kernel
theorem dX7_read_80 : decode cX7_read 80 = .ok (.iaload, 1) := by decide +kernel
theorem dX7_read_81 : decode cX7_read 81 = .ok (.aload_n 0, 1) := by decide +kernel
theorem dX7_read_82 : decode cX7_read 82 = .ok (.getfield 65, 3) := by decide +kernel
theorem dX7_read_85 : decode cX7_read 85 = .ok (.iload_n 3, 1) := by decide +kernel
theorem dX7_read_86 : decode cX7_read 86 = .ok (.iconst 4, 1) := by decide +kernel
theorem dX7_read_87 : decode cX7_read 87 = .ok (.iadd, 1) := by decide +kernel
theorem dX7_read_88 : decode cX7_read 88 = .ok (.iaload, 1) := by decide +kernel
theorem dX7_read_89 : decode cX7_read 89 = .ok (.invokevirtual 86, 3) := by decide +kernel
theorem dX7_read_92 : decode cX7_read 92 = .ok (.ifCond .ge 5, 3) := by decide +kernel
theorem dX7_read_95 : decode cX7_read 95 = .ok (.iload_n 2, 1) := by decide +kernel
theorem dX7_read_96 : decode cX7_read 96 = .ok (.ireturn, 1) := by decide +kernel
theorem dX7_read_97 : decode cX7_read 97 = .ok (.iinc 2 1, 3) := by decide +kernel
theorem dX7_read_100 : decode cX7_read 100 = .ok (.goto (-73), 3) := by decide +kernel
theorem dX7_read_103 : decode cX7_read 103 = .ok (.iload_n 2, 1) := by decide +kernel
theorem dX7_read_104 : decode cX7_read 104 = .ok (.ireturn, 1) := by decide +kernel
theorem dX7_isWord_0 : decode cX7_isWord 0 = .ok (.iload_n 1, 1) := by decide +kernel
theorem dX7_isWord_1 : decode cX7_isWord 1 = .ok (.iconst 0, 1) := by decide +kernel
theorem dX7_isWord_2 : decode cX7_isWord 2 = .ok (.aload_n 0, 1) := by decide +kernel
theorem dX7_isWord_3 : decode cX7_isWord 3 = .ok (.getfield 82, 3) := by decide +kernel
theorem dX7_isWord_6 : decode cX7_isWord 6 = .ok (.iconst 1, 1) := by decide +kernel
theorem dX7_isWord_7 : decode cX7_isWord 7 = .ok (.isub, 1) := by decide +kernel
theorem dX7_isWord_8 : decode cX7_isWord 8 = .ok (.invokestatic 71, 3) := by decide +kernel
theorem dX7_isWord_11 : decode cX7_isWord 11 = .ok (.ireturn, 1) := by decide +kernel
theorem dX7_all_0 : decode cX7_all 0 = .ok (.iconst 1, 1) := by decide +kernel
theorem dX7_all_1 : decode cX7_all 1 = .ok (.aload_n 0, 1) := by decide +kernel
theorem dX7_all_2 : decode cX7_all 2 = .ok (.getfield 82, 3) := by decide +kernel
theorem dX7_all_5 : decode cX7_all 5 = .ok (.ishl, 1) := by decide +kernel
theorem dX7_all_6 : decode cX7_all 6 = .ok (.iconst 1, 1) := by decide +kernel
theorem dX7_all_7 : decode cX7_all 7 = .ok (.isub, 1) := by decide +kernel
theorem dX7_all_8 : decode cX7_all 8 = .ok (.ireturn, 1) := by decide +kernel
theorem dX7_heardOnes_0 : decode cX7_heardOnes 0 = .ok (.aload_n 0, 1) := by decide +kernel
theorem dX7_heardOnes_1 : decode cX7_heardOnes 1 = .ok (.invokevirtual 97, 3) := by decide +kernel
theorem dX7_heardOnes_4 : decode cX7_heardOnes 4 = .ok (.aload_n 0, 1) := by decide +kernel
theorem dX7_heardOnes_5 : decode cX7_heardOnes 5 = .ok (.getfield 101, 3) := by decide +kernel
theorem dX7_heardOnes_8 : decode cX7_heardOnes 8 = .ok (.iconst (-1), 1) := by decide +kernel
theorem dX7_heardOnes_9 : decode cX7_heardOnes 9 = .ok (.ixor, 1) := by decide +kernel
theorem dX7_heardOnes_10 : decode cX7_heardOnes 10 = .ok (.iand, 1) := by decide +kernel
theorem dX7_heardOnes_11 : decode cX7_heardOnes 11 = .ok (.ireturn, 1) := by decide +kernel
theorem dX7_laysPossible_0 : decode cX7_laysPossible 0 = .ok (.aload_n 0, 1) := by decide +kernel
theorem dX7_laysPossible_1 : decode cX7_laysPossible 1 = .ok (.invokevirtual 79, 3) := by decide +kernel
theorem dX7_laysPossible_4 : decode cX7_laysPossible 4 = .ok (.aload_n 0, 1) := by decide +kernel
theorem dX7_laysPossible_5 : decode cX7_laysPossible 5 = .ok (.iconst 0, 1) := by decide +kernel
theorem dX7_laysPossible_6 : decode cX7_laysPossible 6 = .ok (.putfield 104, 3) := by decide +kernel
theorem dX7_laysPossible_9 : decode cX7_laysPossible 9 = .ok (.iconst 0, 1) := by decide +kernel
theorem dX7_laysPossible_10 : decode cX7_laysPossible 10 = .ok (.istore_n 1, 1) := by decide +kernel
theorem dX7_laysPossible_11 : decode cX7_laysPossible 11 = .ok (.iload_n 1, 1) := by decide +kernel
theorem dX7_laysPossible_12 : decode cX7_laysPossible 12 = .ok (.aload_n 0, 1) := by decide +kernel
theorem dX7_laysPossible_13 : decode cX7_laysPossible 13 = .ok (.getfield 82, 3) := by decide +kernel
theorem dX7_laysPossible_16 : decode cX7_laysPossible 16 = .ok (.if_icmp .ge 80, 3) := by decide +kernel
theorem dX7_laysPossible_19 : decode cX7_laysPossible 19 = .ok (.aload_n 0, 1) := by decide +kernel
theorem dX7_laysPossible_20 : decode cX7_laysPossible 20 = .ok (.getfield 16, 3) := by decide +kernel
theorem dX7_laysPossible_23 : decode cX7_laysPossible 23 = .ok (.iload_n 1, 1) := by decide +kernel
theorem dX7_laysPossible_24 : decode cX7_laysPossible 24 = .ok (.iaload, 1) := by decide +kernel
theorem dX7_laysPossible_25 : decode cX7_laysPossible 25 = .ok (.iconst 2, 1) := by decide +kernel
theorem dX7_laysPossible_26 : decode cX7_laysPossible 26 = .ok (.if_icmp .ne 64, 3) := by decide +kernel
theorem dX7_laysPossible_29 : decode cX7_laysPossible 29 = .ok (.aload_n 0, 1) := by decide +kernel
theorem dX7_laysPossible_30 : decode cX7_laysPossible 30 = .ok (.getfield 13, 3) := by decide +kernel
theorem dX7_laysPossible_33 : decode cX7_laysPossible 33 = .ok (.bipush 6, 2) := by decide +kernel
theorem dX7_laysPossible_35 : decode cX7_laysPossible 35 = .ok (.aload_n 0, 1) := by decide +kernel
theorem dX7_laysPossible_36 : decode cX7_laysPossible 36 = .ok (.getfield 22, 3) := by decide +kernel
theorem dX7_laysPossible_39 : decode cX7_laysPossible 39 = .ok (.iload_n 1, 1) := by decide +kernel
theorem dX7_laysPossible_40 : decode cX7_laysPossible 40 = .ok (.iaload, 1) := by decide +kernel
theorem dX7_laysPossible_41 : decode cX7_laysPossible 41 = .ok (.imul, 1) := by decide +kernel
theorem dX7_laysPossible_42 : decode cX7_laysPossible 42 = .ok (.aload_n 0, 1) := by decide +kernel
theorem dX7_laysPossible_43 : decode cX7_laysPossible 43 = .ok (.getfield 22, 3) := by decide +kernel
theorem dX7_laysPossible_46 : decode cX7_laysPossible 46 = .ok (.aload_n 0, 1) := by decide +kernel
theorem dX7_laysPossible_47 : decode cX7_laysPossible 47 = .ok (.getfield 28, 3) := by decide +kernel
theorem dX7_laysPossible_50 : decode cX7_laysPossible 50 = .ok (.iload_n 1, 1) := by decide +kernel
theorem dX7_laysPossible_51 : decode cX7_laysPossible 51 = .ok (.iaload, 1) := by decide +kernel
theorem dX7_laysPossible_52 : decode cX7_laysPossible 52 = .ok (.iaload, 1) := by decide +kernel
theorem dX7_laysPossible_53 : decode cX7_laysPossible 53 = .ok (.iadd, 1) := by decide +kernel
theorem dX7_laysPossible_54 : decode cX7_laysPossible 54 = .ok (.iaload, 1) := by decide +kernel
theorem dX7_laysPossible_55 : decode cX7_laysPossible 55 = .ok (.aload_n 0, 1) := by decide +kernel
theorem dX7_laysPossible_56 : decode cX7_laysPossible 56 = .ok (.getfield 25, 3) := by decide +kernel
theorem dX7_laysPossible_59 : decode cX7_laysPossible 59 = .ok (.iload_n 1, 1) := by decide +kernel
theorem dX7_laysPossible_60 : decode cX7_laysPossible 60 = .ok (.iaload, 1) := by decide +kernel
theorem dX7_laysPossible_61 : decode cX7_laysPossible 61 = .ok (.aload_n 0, 1) := by decide +kernel
theorem dX7_laysPossible_62 : decode cX7_laysPossible 62 = .ok (.getfield 25, 3) := by decide +kernel
theorem dX7_laysPossible_65 : decode cX7_laysPossible 65 = .ok (.aload_n 0, 1) := by decide +kernel
theorem dX7_laysPossible_66 : decode cX7_laysPossible 66 = .ok (.getfield 28, 3) := by decide +kernel
theorem dX7_laysPossible_69 : decode cX7_laysPossible 69 = .ok (.iload_n 1, 1) := by decide +kernel
theorem dX7_laysPossible_70 : decode cX7_laysPossible 70 = .ok (.iaload, 1) := by decide +kernel
theorem dX7_laysPossible_71 : decode cX7_laysPossible 71 = .ok (.iaload, 1) := by decide +kernel
theorem dX7_laysPossible_72 : decode cX7_laysPossible 72 = .ok (.invokestatic 107, 3) := by decide +kernel
theorem dX7_laysPossible_75 : decode cX7_laysPossible 75 = .ok (.if_icmp .le 15, 3) := by decide +kernel
theorem dX7_laysPossible_78 : decode cX7_laysPossible 78 = .ok (.aload_n 0, 1) := by decide +kernel
theorem dX7_laysPossible_79 : decode cX7_laysPossible 79 = .ok (.dup, 1) := by decide +kernel
theorem dX7_laysPossible_80 : decode cX7_laysPossible 80 = .ok (.getfield 104, 3) := by decide +kernel
theorem dX7_laysPossible_83 : decode cX7_laysPossible 83 = .ok (.iconst 1, 1) := by decide +kernel
theorem dX7_laysPossible_84 : decode cX7_laysPossible 84 = .ok (.iload_n 1, 1) := by decide +kernel
theorem dX7_laysPossible_85 : decode cX7_laysPossible 85 = .ok (.ishl, 1) := by decide +kernel
theorem dX7_laysPossible_86 : decode cX7_laysPossible 86 = .ok (.ior, 1) := by decide +kernel
theorem dX7_laysPossible_87 : decode cX7_laysPossible 87 = .ok (.putfield 104, 3) := by decide +kernel
theorem dX7_laysPossible_90 : decode cX7_laysPossible 90 = .ok (.iinc 1 1, 3) := by decide +kernel
theorem dX7_laysPossible_93 : decode cX7_laysPossible 93 = .ok (.goto (-82), 3) := by decide +kernel
theorem dX7_laysPossible_96 : decode cX7_laysPossible 96 = .ok (.return_, 1) := by decide +kernel
theorem dX7_isNow_0 : decode cX7_isNow 0 = .ok (.iload_n 2, 1) := by decide +kernel
theorem dX7_isNow_1 : decode cX7_isNow 1 = .ok (.tableswitch 83 0 5 #[39, 46, 53, 60, 67, 74], 39) := by decide +kernel
theorem dX7_isNow_40 : decode cX7_isNow 40 = .ok (.aload_n 0, 1) := by decide +kernel
theorem dX7_isNow_41 : decode cX7_isNow 41 = .ok (.getfield 16, 3) := by decide +kernel
theorem dX7_isNow_44 : decode cX7_isNow 44 = .ok (.iload_n 1, 1) := by decide +kernel
theorem dX7_isNow_45 : decode cX7_isNow 45 = .ok (.iaload, 1) := by decide +kernel
theorem dX7_isNow_46 : decode cX7_isNow 46 = .ok (.ireturn, 1) := by decide +kernel
theorem dX7_isNow_47 : decode cX7_isNow 47 = .ok (.aload_n 0, 1) := by decide +kernel
theorem dX7_isNow_48 : decode cX7_isNow 48 = .ok (.getfield 19, 3) := by decide +kernel
theorem dX7_isNow_51 : decode cX7_isNow 51 = .ok (.iload_n 1, 1) := by decide +kernel
theorem dX7_isNow_52 : decode cX7_isNow 52 = .ok (.iaload, 1) := by decide +kernel
theorem dX7_isNow_53 : decode cX7_isNow 53 = .ok (.ireturn, 1) := by decide +kernel
theorem dX7_isNow_54 : decode cX7_isNow 54 = .ok (.aload_n 0, 1) := by decide +kernel
theorem dX7_isNow_55 : decode cX7_isNow 55 = .ok (.getfield 22, 3) := by decide +kernel
theorem dX7_isNow_58 : decode cX7_isNow 58 = .ok (.iload_n 1, 1) := by decide +kernel
theorem dX7_isNow_59 : decode cX7_isNow 59 = .ok (.iaload, 1) := by decide +kernel
theorem dX7_isNow_60 : decode cX7_isNow 60 = .ok (.ireturn, 1) := by decide +kernel
theorem dX7_isNow_61 : decode cX7_isNow 61 = .ok (.aload_n 0, 1) := by decide +kernel
theorem dX7_isNow_62 : decode cX7_isNow 62 = .ok (.getfield 25, 3) := by decide +kernel
theorem dX7_isNow_65 : decode cX7_isNow 65 = .ok (.iload_n 1, 1) := by decide +kernel
theorem dX7_isNow_66 : decode cX7_isNow 66 = .ok (.iaload, 1) := by decide +kernel
theorem dX7_isNow_67 : decode cX7_isNow 67 = .ok (.ireturn, 1) := by decide +kernel
theorem dX7_isNow_68 : decode cX7_isNow 68 = .ok (.aload_n 0, 1) := by decide +kernel
theorem dX7_isNow_69 : decode cX7_isNow 69 = .ok (.getfield 28, 3) := by decide +kernel
theorem dX7_isNow_72 : decode cX7_isNow 72 = .ok (.iload_n 1, 1) := by decide +kernel
theorem dX7_isNow_73 : decode cX7_isNow 73 = .ok (.iaload, 1) := by decide +kernel
theorem dX7_isNow_74 : decode cX7_isNow 74 = .ok (.ireturn, 1) := by decide +kernel
theorem dX7_isNow_75 : decode cX7_isNow 75 = .ok (.aload_n 0, 1) := by decide +kernel
theorem dX7_isNow_76 : decode cX7_isNow 76 = .ok (.getfield 101, 3) := by decide +kernel
theorem dX7_isNow_79 : decode cX7_isNow 79 = .ok (.iload_n 1, 1) := by decide +kernel
theorem dX7_isNow_80 : decode cX7_isNow 80 = .ok (.ishr, 1) := by decide +kernel
theorem dX7_isNow_81 : decode cX7_isNow 81 = .ok (.iconst 1, 1) := by decide +kernel
theorem dX7_isNow_82 : decode cX7_isNow 82 = .ok (.iand, 1) := by decide +kernel
theorem dX7_isNow_83 : decode cX7_isNow 83 = .ok (.ireturn, 1) := by decide +kernel
theorem dX7_isNow_84 : decode cX7_isNow 84 = .ok (.aload_n 0, 1) := by decide +kernel
theorem dX7_isNow_85 : decode cX7_isNow 85 = .ok (.getfield 104, 3) := by decide +kernel
theorem dX7_isNow_88 : decode cX7_isNow 88 = .ok (.iload_n 1, 1) := by decide +kernel
theorem dX7_isNow_89 : decode cX7_isNow 89 = .ok (.ishr, 1) := by decide +kernel
theorem dX7_isNow_90 : decode cX7_isNow 90 = .ok (.iconst 1, 1) := by decide +kernel
theorem dX7_isNow_91 : decode cX7_isNow 91 = .ok (.iand, 1) := by decide +kernel
theorem dX7_isNow_92 : decode cX7_isNow 92 = .ok (.ireturn, 1) := by decide +kernel
theorem dX7_is_0 : decode cX7_is 0 = .ok (.aload_n 0, 1) := by decide +kernel
theorem dX7_is_1 : decode cX7_is 1 = .ok (.iload_n 1, 1) := by decide +kernel
theorem dX7_is_2 : decode cX7_is 2 = .ok (.invokevirtual 111, 3) := by decide +kernel
theorem dX7_is_5 : decode cX7_is 5 = .ok (.ifCond .eq 13, 3) := by decide +kernel
theorem dX7_is_8 : decode cX7_is 8 = .ok (.iload_n 2, 1) := by decide +kernel
theorem dX7_is_9 : decode cX7_is 9 = .ok (.iconst 0, 1) := by decide +kernel
theorem dX7_is_10 : decode cX7_is 10 = .ok (.bipush 6, 2) := by decide +kernel
theorem dX7_is_12 : decode cX7_is 12 = .ok (.invokestatic 71, 3) := by decide +kernel
theorem dX7_is_15 : decode cX7_is 15 = .ok (.ifCond .ne 6, 3) := by decide +kernel
theorem dX7_is_18 : decode cX7_is 18 = .ok (.bipush (-2), 2) := by decide +kernel
theorem dX7_is_20 : decode cX7_is 20 = .ok (.ireturn, 1) := by decide +kernel
theorem dX7_is_21 : decode cX7_is 21 = .ok (.aload_n 0, 1) := by decide +kernel
theorem dX7_is_22 : decode cX7_is 22 = .ok (.invokevirtual 114, 3) := by decide +kernel
theorem dX7_is_25 : decode cX7_is 25 = .ok (.aload_n 0, 1) := by decide +kernel
theorem dX7_is_26 : decode cX7_is 26 = .ok (.iload_n 1, 1) := by decide +kernel
theorem dX7_is_27 : decode cX7_is 27 = .ok (.iload_n 2, 1) := by decide +kernel
theorem dX7_is_28 : decode cX7_is 28 = .ok (.invokevirtual 117, 3) := by decide +kernel
theorem dX7_is_31 : decode cX7_is 31 = .ok (.ireturn, 1) := by decide +kernel
theorem dX7_keep_0 : decode cX7_keep 0 = .ok (.iload_n 1, 1) := by decide +kernel
theorem dX7_keep_1 : decode cX7_keep 1 = .ok (.iconst 0, 1) := by decide +kernel
theorem dX7_keep_2 : decode cX7_keep 2 = .ok (.aload_n 0, 1) := by decide +kernel
theorem dX7_keep_3 : decode cX7_keep 3 = .ok (.invokevirtual 97, 3) := by decide +kernel
theorem dX7_keep_6 : decode cX7_keep 6 = .ok (.invokestatic 71, 3) := by decide +kernel
theorem dX7_keep_9 : decode cX7_keep 9 = .ok (.ifCond .ne 6, 3) := by decide +kernel
theorem dX7_keep_12 : decode cX7_keep 12 = .ok (.bipush (-2), 2) := by decide +kernel
theorem dX7_keep_14 : decode cX7_keep 14 = .ok (.ireturn, 1) := by decide +kernel
theorem dX7_keep_15 : decode cX7_keep 15 = .ok (.aload_n 0, 1) := by decide +kernel
theorem dX7_keep_16 : decode cX7_keep 16 = .ok (.getfield 101, 3) := by decide +kernel
theorem dX7_keep_19 : decode cX7_keep 19 = .ok (.istore_n 2, 1) := by decide +kernel
theorem dX7_keep_20 : decode cX7_keep 20 = .ok (.aload_n 0, 1) := by decide +kernel
theorem dX7_keep_21 : decode cX7_keep 21 = .ok (.iload_n 1, 1) := by decide +kernel
theorem dX7_keep_22 : decode cX7_keep 22 = .ok (.putfield 101, 3) := by decide +kernel
theorem dX7_keep_25 : decode cX7_keep 25 = .ok (.iload_n 2, 1) := by decide +kernel
theorem dX7_keep_26 : decode cX7_keep 26 = .ok (.ireturn, 1) := by decide +kernel
theorem dX7_isLaw_0 : decode cX7_isLaw 0 = .ok (.iload_n 0, 1) := by decide +kernel
theorem dX7_isLaw_1 : decode cX7_isLaw 1 = .ok (.iconst 0, 1) := by decide +kernel
theorem dX7_isLaw_2 : decode cX7_isLaw 2 = .ok (.iconst 1, 1) := by decide +kernel
theorem dX7_isLaw_3 : decode cX7_isLaw 3 = .ok (.invokestatic 71, 3) := by decide +kernel
theorem dX7_isLaw_6 : decode cX7_isLaw 6 = .ok (.ireturn, 1) := by decide +kernel
theorem dX7_type_0 : decode cX7_type 0 = .ok (.iload_n 1, 1) := by decide +kernel
theorem dX7_type_1 : decode cX7_type 1 = .ok (.invokestatic 120, 3) := by decide +kernel
theorem dX7_type_4 : decode cX7_type 4 = .ok (.ifCond .eq 14, 3) := by decide +kernel
theorem dX7_type_7 : decode cX7_type 7 = .ok (.iload_n 2, 1) := by decide +kernel
theorem dX7_type_8 : decode cX7_type 8 = .ok (.iconst 0, 1) := by decide +kernel
theorem dX7_type_9 : decode cX7_type 9 = .ok (.sipush 255, 3) := by decide +kernel
theorem dX7_type_12 : decode cX7_type 12 = .ok (.invokestatic 71, 3) := by decide +kernel
theorem dX7_type_15 : decode cX7_type 15 = .ok (.ifCond .ne 6, 3) := by decide +kernel
theorem dX7_type_18 : decode cX7_type 18 = .ok (.bipush (-2), 2) := by decide +kernel
theorem dX7_type_20 : decode cX7_type 20 = .ok (.ireturn, 1) := by decide +kernel
theorem dX7_type_21 : decode cX7_type 21 = .ok (.aload_n 0, 1) := by decide +kernel
theorem dX7_type_22 : decode cX7_type 22 = .ok (.getfield 31, 3) := by decide +kernel
theorem dX7_type_25 : decode cX7_type 25 = .ok (.iload_n 1, 1) := by decide +kernel
theorem dX7_type_26 : decode cX7_type 26 = .ok (.iaload, 1) := by decide +kernel
theorem dX7_type_27 : decode cX7_type 27 = .ok (.bipush 40, 2) := by decide +kernel
theorem dX7_type_29 : decode cX7_type 29 = .ok (.if_icmp .ne 6, 3) := by decide +kernel
theorem dX7_type_32 : decode cX7_type 32 = .ok (.bipush (-4), 2) := by decide +kernel
theorem dX7_type_34 : decode cX7_type 34 = .ok (.ireturn, 1) := by decide +kernel
theorem dX7_type_35 : decode cX7_type 35 = .ok (.aload_n 0, 1) := by decide +kernel
theorem dX7_type_36 : decode cX7_type 36 = .ok (.getfield 34, 3) := by decide +kernel
theorem dX7_type_39 : decode cX7_type 39 = .ok (.bipush 40, 2) := by decide +kernel
theorem dX7_type_41 : decode cX7_type 41 = .ok (.iload_n 1, 1) := by decide +kernel
theorem dX7_type_42 : decode cX7_type 42 = .ok (.imul, 1) := by decide +kernel
theorem dX7_type_43 : decode cX7_type 43 = .ok (.aload_n 0, 1) := by decide +kernel
theorem dX7_type_44 : decode cX7_type 44 = .ok (.getfield 31, 3) := by decide +kernel
theorem dX7_type_47 : decode cX7_type 47 = .ok (.iload_n 1, 1) := by decide +kernel
theorem dX7_type_48 : decode cX7_type 48 = .ok (.iaload, 1) := by decide +kernel
theorem dX7_type_49 : decode cX7_type 49 = .ok (.iadd, 1) := by decide +kernel
theorem dX7_type_50 : decode cX7_type 50 = .ok (.iload_n 2, 1) := by decide +kernel
theorem dX7_type_51 : decode cX7_type 51 = .ok (.iastore, 1) := by decide +kernel
theorem dX7_type_52 : decode cX7_type 52 = .ok (.aload_n 0, 1) := by decide +kernel
theorem dX7_type_53 : decode cX7_type 53 = .ok (.getfield 31, 3) := by decide +kernel
theorem dX7_type_56 : decode cX7_type 56 = .ok (.iload_n 1, 1) := by decide +kernel
theorem dX7_type_57 : decode cX7_type 57 = .ok (.dup2, 1) := by decide +kernel
theorem dX7_type_58 : decode cX7_type 58 = .ok (.iaload, 1) := by decide +kernel
theorem dX7_type_59 : decode cX7_type 59 = .ok (.iconst 1, 1) := by decide +kernel
theorem dX7_type_60 : decode cX7_type 60 = .ok (.iadd, 1) := by decide +kernel
theorem dX7_type_61 : decode cX7_type 61 = .ok (.iastore, 1) := by decide +kernel
theorem dX7_type_62 : decode cX7_type 62 = .ok (.aload_n 0, 1) := by decide +kernel
theorem dX7_type_63 : decode cX7_type 63 = .ok (.getfield 31, 3) := by decide +kernel
theorem dX7_type_66 : decode cX7_type 66 = .ok (.iload_n 1, 1) := by decide +kernel
theorem dX7_type_67 : decode cX7_type 67 = .ok (.iaload, 1) := by decide +kernel
theorem dX7_type_68 : decode cX7_type 68 = .ok (.ireturn, 1) := by decide +kernel
theorem dX7_wipe_0 : decode cX7_wipe 0 = .ok (.iload_n 1, 1) := by decide +kernel
theorem dX7_wipe_1 : decode cX7_wipe 1 = .ok (.invokestatic 120, 3) := by decide +kernel
theorem dX7_wipe_4 : decode cX7_wipe 4 = .ok (.ifCond .ne 6, 3) := by decide +kernel
theorem dX7_wipe_7 : decode cX7_wipe 7 = .ok (.bipush (-2), 2) := by decide +kernel
theorem dX7_wipe_9 : decode cX7_wipe 9 = .ok (.ireturn, 1) := by decide +kernel
theorem dX7_wipe_10 : decode cX7_wipe 10 = .ok (.aload_n 0, 1) := by decide +kernel
theorem dX7_wipe_11 : decode cX7_wipe 11 = .ok (.getfield 31, 3) := by decide +kernel
theorem dX7_wipe_14 : decode cX7_wipe 14 = .ok (.iload_n 1, 1) := by decide +kernel
theorem dX7_wipe_15 : decode cX7_wipe 15 = .ok (.iaload, 1) := by decide +kernel
theorem dX7_wipe_16 : decode cX7_wipe 16 = .ok (.istore_n 2, 1) := by decide +kernel
theorem dX7_wipe_17 : decode cX7_wipe 17 = .ok (.aload_n 0, 1) := by decide +kernel
theorem dX7_wipe_18 : decode cX7_wipe 18 = .ok (.getfield 31, 3) := by decide +kernel
theorem dX7_wipe_21 : decode cX7_wipe 21 = .ok (.iload_n 1, 1) := by decide +kernel
theorem dX7_wipe_22 : decode cX7_wipe 22 = .ok (.iconst 0, 1) := by decide +kernel
theorem dX7_wipe_23 : decode cX7_wipe 23 = .ok (.iastore, 1) := by decide +kernel
theorem dX7_wipe_24 : decode cX7_wipe 24 = .ok (.iload_n 2, 1) := by decide +kernel
theorem dX7_wipe_25 : decode cX7_wipe 25 = .ok (.ireturn, 1) := by decide +kernel
theorem dX7_byteAt_0 : decode cX7_byteAt 0 = .ok (.iload_n 2, 1) := by decide +kernel
theorem dX7_byteAt_1 : decode cX7_byteAt 1 = .ok (.aload_n 0, 1) := by decide +kernel
theorem dX7_byteAt_2 : decode cX7_byteAt 2 = .ok (.getfield 31, 3) := by decide +kernel
theorem dX7_byteAt_5 : decode cX7_byteAt 5 = .ok (.iload_n 1, 1) := by decide +kernel
theorem dX7_byteAt_6 : decode cX7_byteAt 6 = .ok (.iaload, 1) := by decide +kernel
theorem dX7_byteAt_7 : decode cX7_byteAt 7 = .ok (.if_icmp .ge 17, 3) := by decide +kernel
theorem dX7_byteAt_10 : decode cX7_byteAt 10 = .ok (.aload_n 0, 1) := by decide +kernel
theorem dX7_byteAt_11 : decode cX7_byteAt 11 = .ok (.getfield 34, 3) := by decide +kernel
theorem dX7_byteAt_14 : decode cX7_byteAt 14 = .ok (.bipush 40, 2) := by decide +kernel
theorem dX7_byteAt_16 : decode cX7_byteAt 16 = .ok (.iload_n 1, 1) := by decide +kernel
theorem dX7_byteAt_17 : decode cX7_byteAt 17 = .ok (.imul, 1) := by decide +kernel
theorem dX7_byteAt_18 : decode cX7_byteAt 18 = .ok (.iload_n 2, 1) := by decide +kernel
theorem dX7_byteAt_19 : decode cX7_byteAt 19 = .ok (.iadd, 1) := by decide +kernel
theorem dX7_byteAt_20 : decode cX7_byteAt 20 = .ok (.iaload, 1) := by decide +kernel
theorem dX7_byteAt_21 : decode cX7_byteAt 21 = .ok (.goto 4, 3) := by decide +kernel
theorem dX7_byteAt_24 : decode cX7_byteAt 24 = .ok (.iconst (-1), 1) := by decide +kernel
theorem dX7_byteAt_25 : decode cX7_byteAt 25 = .ok (.ireturn, 1) := by decide +kernel
theorem dX7_plain_0 : decode cX7_plain 0 = .ok (.aload_n 0, 1) := by decide +kernel
theorem dX7_plain_1 : decode cX7_plain 1 = .ok (.getfield 40, 3) := by decide +kernel
theorem dX7_plain_4 : decode cX7_plain 4 = .ok (.iconst 4, 1) := by decide +kernel
theorem dX7_plain_5 : decode cX7_plain 5 = .ok (.iload_n 1, 1) := by decide +kernel
theorem dX7_plain_6 : decode cX7_plain 6 = .ok (.imul, 1) := by decide +kernel
theorem dX7_plain_7 : decode cX7_plain 7 = .ok (.iconst 2, 1) := by decide +kernel
theorem dX7_plain_8 : decode cX7_plain 8 = .ok (.iastore, 1) := by decide +kernel
theorem dX7_plain_9 : decode cX7_plain 9 = .ok (.aload_n 0, 1) := by decide +kernel
theorem dX7_plain_10 : decode cX7_plain 10 = .ok (.getfield 40, 3) := by decide +kernel
theorem dX7_plain_13 : decode cX7_plain 13 = .ok (.iconst 4, 1) := by decide +kernel
theorem dX7_plain_14 : decode cX7_plain 14 = .ok (.iload_n 1, 1) := by decide +kernel
theorem dX7_plain_15 : decode cX7_plain 15 = .ok (.imul, 1) := by decide +kernel
theorem dX7_plain_16 : decode cX7_plain 16 = .ok (.iconst 1, 1) := by decide +kernel
theorem dX7_plain_17 : decode cX7_plain 17 = .ok (.iadd, 1) := by decide +kernel
theorem dX7_plain_18 : decode cX7_plain 18 = .ok (.iconst 0, 1) := by decide +kernel
theorem dX7_plain_19 : decode cX7_plain 19 = .ok (.iastore, 1) := by decide +kernel
theorem dX7_plain_20 : decode cX7_plain 20 = .ok (.aload_n 0, 1) := by decide +kernel
theorem dX7_plain_21 : decode cX7_plain 21 = .ok (.getfield 40, 3) := by decide +kernel
theorem dX7_plain_24 : decode cX7_plain 24 = .ok (.iconst 4, 1) := by decide +kernel
theorem dX7_plain_25 : decode cX7_plain 25 = .ok (.iload_n 1, 1) := by decide +kernel
theorem dX7_plain_26 : decode cX7_plain 26 = .ok (.imul, 1) := by decide +kernel
theorem dX7_plain_27 : decode cX7_plain 27 = .ok (.iconst 2, 1) := by decide +kernel
theorem dX7_plain_28 : decode cX7_plain 28 = .ok (.iadd, 1) := by decide +kernel
theorem dX7_plain_29 : decode cX7_plain 29 = .ok (.iconst 0, 1) := by decide +kernel
theorem dX7_plain_30 : decode cX7_plain 30 = .ok (.iastore, 1) := by decide +kernel
theorem dX7_plain_31 : decode cX7_plain 31 = .ok (.aload_n 0, 1) := by decide +kernel
theorem dX7_plain_32 : decode cX7_plain 32 = .ok (.getfield 40, 3) := by decide +kernel
theorem dX7_plain_35 : decode cX7_plain 35 = .ok (.iconst 4, 1) := by decide +kernel
theorem dX7_plain_36 : decode cX7_plain 36 = .ok (.iload_n 1, 1) := by decide +kernel
theorem dX7_plain_37 : decode cX7_plain 37 = .ok (.imul, 1) := by decide +kernel
theorem dX7_plain_38 : decode cX7_plain 38 = .ok (.iconst 3, 1) := by decide +kernel
theorem dX7_plain_39 : decode cX7_plain 39 = .ok (.iadd, 1) := by decide +kernel
theorem dX7_plain_40 : decode cX7_plain 40 = .ok (.iconst 0, 1) := by decide +kernel
theorem dX7_plain_41 : decode cX7_plain 41 = .ok (.iastore, 1) := by decide +kernel
theorem dX7_plain_42 : decode cX7_plain 42 = .ok (.return_, 1) := by decide +kernel
theorem dX7_faultOf_0 : decode cX7_faultOf 0 = .ok (.aload_n 0, 1) := by decide +kernel
theorem dX7_faultOf_1 : decode cX7_faultOf 1 = .ok (.iload_n 1, 1) := by decide +kernel
theorem dX7_faultOf_2 : decode cX7_faultOf 2 = .ok (.invokevirtual 123, 3) := by decide +kernel
theorem dX7_faultOf_5 : decode cX7_faultOf 5 = .ok (.iconst 0, 1) := by decide +kernel
theorem dX7_faultOf_6 : decode cX7_faultOf 6 = .ok (.istore_n 2, 1) := by decide +kernel
theorem dX7_faultOf_7 : decode cX7_faultOf 7 = .ok (.aload_n 0, 1) := by decide +kernel
theorem dX7_faultOf_8 : decode cX7_faultOf 8 = .ok (.getfield 31, 3) := by decide +kernel
theorem dX7_faultOf_11 : decode cX7_faultOf 11 = .ok (.iload_n 1, 1) := by decide +kernel
theorem dX7_faultOf_12 : decode cX7_faultOf 12 = .ok (.iaload, 1) := by decide +kernel
theorem dX7_faultOf_13 : decode cX7_faultOf 13 = .ok (.ifCond .le 180, 3) := by decide +kernel
theorem dX7_faultOf_16 : decode cX7_faultOf 16 = .ok (.aload_n 0, 1) := by decide +kernel
theorem dX7_faultOf_17 : decode cX7_faultOf 17 = .ok (.iload_n 1, 1) := by decide +kernel
theorem dX7_faultOf_18 : decode cX7_faultOf 18 = .ok (.iload_n 2, 1) := by decide +kernel
theorem dX7_faultOf_19 : decode cX7_faultOf 19 = .ok (.invokevirtual 127, 3) := by decide +kernel
theorem dX7_faultOf_22 : decode cX7_faultOf 22 = .ok (.istore_n 3, 1) := by decide +kernel
theorem dX7_faultOf_23 : decode cX7_faultOf 23 = .ok (.iload_n 3, 1) := by decide +kernel
theorem dX7_faultOf_24 : decode cX7_faultOf 24 = .ok (.bipush 103, 2) := by decide +kernel
theorem dX7_faultOf_26 : decode cX7_faultOf 26 = .ok (.if_icmp .ne 7, 3) := by decide +kernel
theorem dX7_faultOf_29 : decode cX7_faultOf 29 = .ok (.iconst 0, 1) := by decide +kernel
theorem dX7_faultOf_30 : decode cX7_faultOf 30 = .ok (.goto 34, 3) := by decide +kernel
theorem dX7_faultOf_33 : decode cX7_faultOf 33 = .ok (.iload_n 3, 1) := by decide +kernel
theorem dX7_faultOf_34 : decode cX7_faultOf 34 = .ok (.bipush 99, 2) := by decide +kernel
theorem dX7_faultOf_36 : decode cX7_faultOf 36 = .ok (.if_icmp .ne 7, 3) := by decide +kernel
theorem dX7_faultOf_39 : decode cX7_faultOf 39 = .ok (.iconst 1, 1) := by decide +kernel
theorem dX7_faultOf_40 : decode cX7_faultOf 40 = .ok (.goto 24, 3) := by decide +kernel
theorem dX7_faultOf_43 : decode cX7_faultOf 43 = .ok (.iload_n 3, 1) := by decide +kernel
theorem dX7_faultOf_44 : decode cX7_faultOf 44 = .ok (.bipush 101, 2) := by decide +kernel
theorem dX7_faultOf_46 : decode cX7_faultOf 46 = .ok (.if_icmp .ne 7, 3) := by decide +kernel
theorem dX7_faultOf_49 : decode cX7_faultOf 49 = .ok (.iconst 2, 1) := by decide +kernel
theorem dX7_faultOf_50 : decode cX7_faultOf 50 = .ok (.goto 14, 3) := by decide +kernel
theorem dX7_faultOf_53 : decode cX7_faultOf 53 = .ok (.iload_n 3, 1) := by decide +kernel
theorem dX7_faultOf_54 : decode cX7_faultOf 54 = .ok (.bipush 112, 2) := by decide +kernel
theorem dX7_faultOf_56 : decode cX7_faultOf 56 = .ok (.if_icmp .ne 7, 3) := by decide +kernel
theorem dX7_faultOf_59 : decode cX7_faultOf 59 = .ok (.iconst 3, 1) := by decide +kernel
theorem dX7_faultOf_60 : decode cX7_faultOf 60 = .ok (.goto 4, 3) := by decide +kernel
theorem dX7_faultOf_63 : decode cX7_faultOf 63 = .ok (.iconst (-1), 1) := by decide +kernel
theorem dX7_faultOf_64 : decode cX7_faultOf 64 = .ok (.istore 4, 2) := by decide +kernel
theorem dX7_faultOf_66 : decode cX7_faultOf 66 = .ok (.iload 4, 2) := by decide +kernel
theorem dX7_faultOf_68 : decode cX7_faultOf 68 = .ok (.iconst (-1), 1) := by decide +kernel
theorem dX7_faultOf_69 : decode cX7_faultOf 69 = .ok (.if_icmp .ne 5, 3) := by decide +kernel
theorem dX7_faultOf_72 : decode cX7_faultOf 72 = .ok (.iload_n 2, 1) := by decide +kernel
theorem dX7_faultOf_73 : decode cX7_faultOf 73 = .ok (.ireturn, 1) := by decide +kernel
theorem dX7_faultOf_74 : decode cX7_faultOf 74 = .ok (.aload_n 0, 1) := by decide +kernel
theorem dX7_faultOf_75 : decode cX7_faultOf 75 = .ok (.iload_n 1, 1) := by decide +kernel
theorem dX7_faultOf_76 : decode cX7_faultOf 76 = .ok (.iload_n 2, 1) := by decide +kernel
theorem dX7_faultOf_77 : decode cX7_faultOf 77 = .ok (.iconst 1, 1) := by decide +kernel
theorem dX7_faultOf_78 : decode cX7_faultOf 78 = .ok (.iadd, 1) := by decide +kernel
theorem dX7_faultOf_79 : decode cX7_faultOf 79 = .ok (.invokevirtual 127, 3) := by decide +kernel
theorem dX7_faultOf_82 : decode cX7_faultOf 82 = .ok (.bipush 61, 2) := by decide +kernel
theorem dX7_faultOf_84 : decode cX7_faultOf 84 = .ok (.if_icmp .eq 7, 3) := by decide +kernel
theorem dX7_faultOf_87 : decode cX7_faultOf 87 = .ok (.iload_n 2, 1) := by decide +kernel
theorem dX7_faultOf_88 : decode cX7_faultOf 88 = .ok (.iconst 1, 1) := by decide +kernel
theorem dX7_faultOf_89 : decode cX7_faultOf 89 = .ok (.iadd, 1) := by decide +kernel
theorem dX7_faultOf_90 : decode cX7_faultOf 90 = .ok (.ireturn, 1) := by decide +kernel
theorem dX7_faultOf_91 : decode cX7_faultOf 91 = .ok (.aload_n 0, 1) := by decide +kernel
theorem dX7_faultOf_92 : decode cX7_faultOf 92 = .ok (.iload_n 1, 1) := by decide +kernel
theorem dX7_faultOf_93 : decode cX7_faultOf 93 = .ok (.iload_n 2, 1) := by decide +kernel
theorem dX7_faultOf_94 : decode cX7_faultOf 94 = .ok (.iconst 2, 1) := by decide +kernel
theorem dX7_faultOf_95 : decode cX7_faultOf 95 = .ok (.iadd, 1) := by decide +kernel
theorem dX7_faultOf_96 : decode cX7_faultOf 96 = .ok (.invokevirtual 127, 3) := by decide +kernel
theorem dX7_faultOf_99 : decode cX7_faultOf 99 = .ok (.bipush 48, 2) := by decide +kernel
theorem dX7_faultOf_101 : decode cX7_faultOf 101 = .ok (.isub, 1) := by decide +kernel
theorem dX7_faultOf_102 : decode cX7_faultOf 102 = .ok (.istore 5, 2) := by decide +kernel
theorem dX7_faultOf_104 : decode cX7_faultOf 104 = .ok (.iload 5, 2) := by decide +kernel
theorem dX7_faultOf_106 : decode cX7_faultOf 106 = .ok (.iload 4, 2) := by decide +kernel
theorem dX7_faultOf_108 : decode cX7_faultOf 108 = .ok (.ifCond .ne 7, 3) := by decide +kernel
theorem dX7_faultOf_111 : decode cX7_faultOf 111 = .ok (.iconst 1, 1) := by decide +kernel
theorem dX7_faultOf_112 : decode cX7_faultOf 112 = .ok (.goto 4, 3) := by decide +kernel
theorem dX7_faultOf_115 : decode cX7_faultOf 115 = .ok (.iconst 0, 1) := by decide +kernel
theorem dX7_faultOf_116 : decode cX7_faultOf 116 = .ok (.iload 4, 2) := by decide +kernel
theorem dX7_faultOf_118 : decode cX7_faultOf 118 = .ok (.ifCond .ne 7, 3) := by decide +kernel
theorem dX7_faultOf_121 : decode cX7_faultOf 121 = .ok (.iconst 4, 1) := by decide +kernel
theorem dX7_faultOf_122 : decode cX7_faultOf 122 = .ok (.goto 14, 3) := by decide +kernel
theorem dX7_faultOf_125 : decode cX7_faultOf 125 = .ok (.iload 4, 2) := by decide +kernel
theorem dX7_faultOf_127 : decode cX7_faultOf 127 = .ok (.iconst 1, 1) := by decide +kernel
theorem dX7_faultOf_128 : decode cX7_faultOf 128 = .ok (.if_icmp .ne 7, 3) := by decide +kernel
theorem dX7_faultOf_131 : decode cX7_faultOf 131 = .ok (.iconst 2, 1) := by decide +kernel
theorem dX7_faultOf_132 : decode cX7_faultOf 132 = .ok (.goto 4, 3) := by decide +kernel
theorem dX7_faultOf_135 : decode cX7_faultOf 135 = .ok (.iconst 1, 1) := by decide +kernel
theorem dX7_faultOf_136 : decode cX7_faultOf 136 = .ok (.invokestatic 71, 3) := by decide +kernel
theorem dX7_faultOf_139 : decode cX7_faultOf 139 = .ok (.ifCond .ne 7, 3) := by decide +kernel
theorem dX7_faultOf_142 : decode cX7_faultOf 142 = .ok (.iload_n 2, 1) := by decide +kernel
theorem dX7_faultOf_143 : decode cX7_faultOf 143 = .ok (.iconst 2, 1) := by decide +kernel
theorem dX7_faultOf_144 : decode cX7_faultOf 144 = .ok (.iadd, 1) := by decide +kernel
theorem dX7_faultOf_145 : decode cX7_faultOf 145 = .ok (.ireturn, 1) := by decide +kernel
theorem dX7_faultOf_146 : decode cX7_faultOf 146 = .ok (.aload_n 0, 1) := by decide +kernel
theorem dX7_faultOf_147 : decode cX7_faultOf 147 = .ok (.getfield 40, 3) := by decide +kernel
theorem dX7_faultOf_150 : decode cX7_faultOf 150 = .ok (.iconst 4, 1) := by decide +kernel
theorem dX7_faultOf_151 : decode cX7_faultOf 151 = .ok (.iload_n 1, 1) := by decide +kernel
theorem dX7_faultOf_152 : decode cX7_faultOf 152 = .ok (.imul, 1) := by decide +kernel
theorem dX7_faultOf_153 : decode cX7_faultOf 153 = .ok (.iload 4, 2) := by decide +kernel
theorem dX7_faultOf_155 : decode cX7_faultOf 155 = .ok (.iadd, 1) := by decide +kernel
theorem dX7_faultOf_156 : decode cX7_faultOf 156 = .ok (.iload 5, 2) := by decide +kernel
theorem dX7_faultOf_158 : decode cX7_faultOf 158 = .ok (.iastore, 1) := by decide +kernel
theorem dX7_faultOf_159 : decode cX7_faultOf 159 = .ok (.iinc 2 3, 3) := by decide +kernel
theorem dX7_faultOf_162 : decode cX7_faultOf 162 = .ok (.iload_n 2, 1) := by decide +kernel
theorem dX7_faultOf_163 : decode cX7_faultOf 163 = .ok (.aload_n 0, 1) := by decide +kernel
theorem dX7_faultOf_164 : decode cX7_faultOf 164 = .ok (.getfield 31, 3) := by decide +kernel
theorem dX7_faultOf_167 : decode cX7_faultOf 167 = .ok (.iload_n 1, 1) := by decide +kernel
theorem dX7_faultOf_168 : decode cX7_faultOf 168 = .ok (.iaload, 1) := by decide +kernel
theorem dX7_faultOf_169 : decode cX7_faultOf 169 = .ok (.if_icmp .ne 5, 3) := by decide +kernel
theorem dX7_faultOf_172 : decode cX7_faultOf 172 = .ok (.iconst (-1), 1) := by decide +kernel
theorem dX7_faultOf_173 : decode cX7_faultOf 173 = .ok (.ireturn, 1) := by decide +kernel
theorem dX7_faultOf_174 : decode cX7_faultOf 174 = .ok (.aload_n 0, 1) := by decide +kernel
theorem dX7_faultOf_175 : decode cX7_faultOf 175 = .ok (.iload_n 1, 1) := by decide +kernel
theorem dX7_faultOf_176 : decode cX7_faultOf 176 = .ok (.iload_n 2, 1) := by decide +kernel
theorem dX7_faultOf_177 : decode cX7_faultOf 177 = .ok (.invokevirtual 127, 3) := by decide +kernel
theorem dX7_faultOf_180 : decode cX7_faultOf 180 = .ok (.bipush 59, 2) := by decide +kernel
theorem dX7_faultOf_182 : decode cX7_faultOf 182 = .ok (.if_icmp .eq 5, 3) := by decide +kernel
theorem dX7_faultOf_185 : decode cX7_faultOf 185 = .ok (.iload_n 2, 1) := by decide +kernel
theorem dX7_faultOf_186 : decode cX7_faultOf 186 = .ok (.ireturn, 1) := by decide +kernel
theorem dX7_faultOf_187 : decode cX7_faultOf 187 = .ok (.iinc 2 1, 3) := by decide +kernel
theorem dX7_faultOf_190 : decode cX7_faultOf 190 = .ok (.goto (-183), 3) := by decide +kernel
theorem dX7_faultOf_193 : decode cX7_faultOf 193 = .ok (.iconst (-1), 1) := by decide +kernel
theorem dX7_faultOf_194 : decode cX7_faultOf 194 = .ok (.ireturn, 1) := by decide +kernel
theorem dX7_reads_0 : decode cX7_reads 0 = .ok (.aload_n 0, 1) := by decide +kernel
theorem dX7_reads_1 : decode cX7_reads 1 = .ok (.getfield 37, 3) := by decide +kernel
theorem dX7_reads_4 : decode cX7_reads 4 = .ok (.iload_n 1, 1) := by decide +kernel
theorem dX7_reads_5 : decode cX7_reads 5 = .ok (.aload_n 0, 1) := by decide +kernel
theorem dX7_reads_6 : decode cX7_reads 6 = .ok (.iload_n 1, 1) := by decide +kernel
theorem dX7_reads_7 : decode cX7_reads 7 = .ok (.invokevirtual 130, 3) := by decide +kernel
theorem dX7_reads_10 : decode cX7_reads 10 = .ok (.iastore, 1) := by decide +kernel
theorem dX7_reads_11 : decode cX7_reads 11 = .ok (.aload_n 0, 1) := by decide +kernel
theorem dX7_reads_12 : decode cX7_reads 12 = .ok (.getfield 37, 3) := by decide +kernel
theorem dX7_reads_15 : decode cX7_reads 15 = .ok (.iload_n 1, 1) := by decide +kernel
theorem dX7_reads_16 : decode cX7_reads 16 = .ok (.iaload, 1) := by decide +kernel
theorem dX7_reads_17 : decode cX7_reads 17 = .ok (.iconst (-1), 1) := by decide +kernel
theorem dX7_reads_18 : decode cX7_reads 18 = .ok (.if_icmp .eq 8, 3) := by decide +kernel
theorem dX7_reads_21 : decode cX7_reads 21 = .ok (.aload_n 0, 1) := by decide +kernel
theorem dX7_reads_22 : decode cX7_reads 22 = .ok (.iload_n 1, 1) := by decide +kernel
theorem dX7_reads_23 : decode cX7_reads 23 = .ok (.invokevirtual 123, 3) := by decide +kernel
theorem dX7_reads_26 : decode cX7_reads 26 = .ok (.return_, 1) := by decide +kernel
theorem dX7_fault_0 : decode cX7_fault 0 = .ok (.iload_n 1, 1) := by decide +kernel
theorem dX7_fault_1 : decode cX7_fault 1 = .ok (.invokestatic 120, 3) := by decide +kernel
theorem dX7_fault_4 : decode cX7_fault 4 = .ok (.ifCond .ne 6, 3) := by decide +kernel
theorem dX7_fault_7 : decode cX7_fault 7 = .ok (.bipush (-2), 2) := by decide +kernel
theorem dX7_fault_9 : decode cX7_fault 9 = .ok (.ireturn, 1) := by decide +kernel
theorem dX7_fault_10 : decode cX7_fault 10 = .ok (.aload_n 0, 1) := by decide +kernel
theorem dX7_fault_11 : decode cX7_fault 11 = .ok (.iload_n 1, 1) := by decide +kernel
theorem dX7_fault_12 : decode cX7_fault 12 = .ok (.invokevirtual 133, 3) := by decide +kernel
theorem dX7_fault_15 : decode cX7_fault 15 = .ok (.aload_n 0, 1) := by decide +kernel
theorem dX7_fault_16 : decode cX7_fault 16 = .ok (.getfield 37, 3) := by decide +kernel
theorem dX7_fault_19 : decode cX7_fault 19 = .ok (.iload_n 1, 1) := by decide +kernel
theorem dX7_fault_20 : decode cX7_fault 20 = .ok (.iaload, 1) := by decide +kernel
theorem dX7_fault_21 : decode cX7_fault 21 = .ok (.ireturn, 1) := by decide +kernel
theorem dX7_law_0 : decode cX7_law 0 = .ok (.iload_n 1, 1) := by decide +kernel
theorem dX7_law_1 : decode cX7_law 1 = .ok (.invokestatic 120, 3) := by decide +kernel
theorem dX7_law_4 : decode cX7_law 4 = .ok (.ifCond .eq 12, 3) := by decide +kernel
theorem dX7_law_7 : decode cX7_law 7 = .ok (.iload_n 2, 1) := by decide +kernel
theorem dX7_law_8 : decode cX7_law 8 = .ok (.iconst 0, 1) := by decide +kernel
theorem dX7_law_9 : decode cX7_law 9 = .ok (.iconst 3, 1) := by decide +kernel
theorem dX7_law_10 : decode cX7_law 10 = .ok (.invokestatic 71, 3) := by decide +kernel
theorem dX7_law_13 : decode cX7_law 13 = .ok (.ifCond .ne 6, 3) := by decide +kernel
theorem dX7_law_16 : decode cX7_law 16 = .ok (.bipush (-2), 2) := by decide +kernel
theorem dX7_law_18 : decode cX7_law 18 = .ok (.ireturn, 1) := by decide +kernel
theorem dX7_law_19 : decode cX7_law 19 = .ok (.aload_n 0, 1) := by decide +kernel
theorem dX7_law_20 : decode cX7_law 20 = .ok (.iload_n 1, 1) := by decide +kernel
theorem dX7_law_21 : decode cX7_law 21 = .ok (.invokevirtual 133, 3) := by decide +kernel
theorem dX7_law_24 : decode cX7_law 24 = .ok (.aload_n 0, 1) := by decide +kernel
theorem dX7_law_25 : decode cX7_law 25 = .ok (.getfield 40, 3) := by decide +kernel
theorem dX7_law_28 : decode cX7_law 28 = .ok (.iconst 4, 1) := by decide +kernel
theorem dX7_law_29 : decode cX7_law 29 = .ok (.iload_n 1, 1) := by decide +kernel
theorem dX7_law_30 : decode cX7_law 30 = .ok (.imul, 1) := by decide +kernel
theorem dX7_law_31 : decode cX7_law 31 = .ok (.iload_n 2, 1) := by decide +kernel
theorem dX7_law_32 : decode cX7_law 32 = .ok (.iadd, 1) := by decide +kernel
theorem dX7_law_33 : decode cX7_law 33 = .ok (.iaload, 1) := by decide +kernel
theorem dX7_law_34 : decode cX7_law 34 = .ok (.ireturn, 1) := by decide +kernel
theorem dX7_undoes_0 : decode cX7_undoes 0 = .ok (.aload_n 0, 1) := by decide +kernel
theorem dX7_undoes_1 : decode cX7_undoes 1 = .ok (.dup, 1) := by decide +kernel
theorem dX7_undoes_2 : decode cX7_undoes 2 = .ok (.getfield 136, 3) := by decide +kernel
theorem dX7_undoes_5 : decode cX7_undoes 5 = .ok (.iconst 1, 1) := by decide +kernel
theorem dX7_undoes_6 : decode cX7_undoes 6 = .ok (.iload_n 1, 1) := by decide +kernel
theorem dX7_undoes_7 : decode cX7_undoes 7 = .ok (.ishl, 1) := by decide +kernel
theorem dX7_undoes_8 : decode cX7_undoes 8 = .ok (.iconst (-1), 1) := by decide +kernel
theorem dX7_undoes_9 : decode cX7_undoes 9 = .ok (.ixor, 1) := by decide +kernel
theorem dX7_undoes_10 : decode cX7_undoes 10 = .ok (.iand, 1) := by decide +kernel
theorem dX7_undoes_11 : decode cX7_undoes 11 = .ok (.putfield 136, 3) := by decide +kernel
theorem dX7_undoes_14 : decode cX7_undoes 14 = .ok (.aload_n 0, 1) := by decide +kernel
theorem dX7_undoes_15 : decode cX7_undoes 15 = .ok (.dup, 1) := by decide +kernel
theorem dX7_undoes_16 : decode cX7_undoes 16 = .ok (.getfield 139, 3) := by decide +kernel
theorem dX7_undoes_19 : decode cX7_undoes 19 = .ok (.iconst 1, 1) := by decide +kernel
theorem dX7_undoes_20 : decode cX7_undoes 20 = .ok (.iload_n 1, 1) := by decide +kernel
theorem dX7_undoes_21 : decode cX7_undoes 21 = .ok (.ishl, 1) := by decide +kernel
theorem dX7_undoes_22 : decode cX7_undoes 22 = .ok (.ior, 1) := by decide +kernel
theorem dX7_undoes_23 : decode cX7_undoes 23 = .ok (.putfield 139, 3) := by decide +kernel
theorem dX7_undoes_26 : decode cX7_undoes 26 = .ok (.aload_n 0, 1) := by decide +kernel
theorem dX7_undoes_27 : decode cX7_undoes 27 = .ok (.dup, 1) := by decide +kernel
theorem dX7_undoes_28 : decode cX7_undoes 28 = .ok (.getfield 142, 3) := by decide +kernel
theorem dX7_undoes_31 : decode cX7_undoes 31 = .ok (.iload_n 2, 1) := by decide +kernel
theorem dX7_undoes_32 : decode cX7_undoes 32 = .ok (.ifCond .eq 12, 3) := by decide +kernel
theorem dX7_undoes_35 : decode cX7_undoes 35 = .ok (.aload_n 0, 1) := by decide +kernel
theorem dX7_undoes_36 : decode cX7_undoes 36 = .ok (.getfield 19, 3) := by decide +kernel
theorem dX7_undoes_39 : decode cX7_undoes 39 = .ok (.iload_n 1, 1) := by decide +kernel
theorem dX7_undoes_40 : decode cX7_undoes 40 = .ok (.iaload, 1) := by decide +kernel
theorem dX7_undoes_41 : decode cX7_undoes 41 = .ok (.goto 4, 3) := by decide +kernel
theorem dX7_undoes_44 : decode cX7_undoes 44 = .ok (.iconst 0, 1) := by decide +kernel
theorem dX7_undoes_45 : decode cX7_undoes 45 = .ok (.ior, 1) := by decide +kernel
theorem dX7_undoes_46 : decode cX7_undoes 46 = .ok (.putfield 142, 3) := by decide +kernel
theorem dX7_undoes_49 : decode cX7_undoes 49 = .ok (.return_, 1) := by decide +kernel
theorem dX7_quarrel_0 : decode cX7_quarrel 0 = .ok (.aload_n 0, 1) := by decide +kernel
theorem dX7_quarrel_1 : decode cX7_quarrel 1 = .ok (.getfield 16, 3) := by decide +kernel
theorem dX7_quarrel_4 : decode cX7_quarrel 4 = .ok (.iload_n 1, 1) := by decide +kernel
theorem dX7_quarrel_5 : decode cX7_quarrel 5 = .ok (.iaload, 1) := by decide +kernel
theorem dX7_quarrel_6 : decode cX7_quarrel 6 = .ok (.iconst 1, 1) := by decide +kernel
theorem dX7_quarrel_7 : decode cX7_quarrel 7 = .ok (.if_icmp .ne 13, 3) := by decide +kernel
theorem dX7_quarrel_10 : decode cX7_quarrel 10 = .ok (.aload_n 0, 1) := by decide +kernel
theorem dX7_quarrel_11 : decode cX7_quarrel 11 = .ok (.getfield 28, 3) := by decide +kernel
theorem dX7_quarrel_14 : decode cX7_quarrel 14 = .ok (.iload_n 1, 1) := by decide +kernel
theorem dX7_quarrel_15 : decode cX7_quarrel 15 = .ok (.iaload, 1) := by decide +kernel
theorem dX7_quarrel_16 : decode cX7_quarrel 16 = .ok (.iload_n 2, 1) := by decide +kernel
theorem dX7_quarrel_17 : decode cX7_quarrel 17 = .ok (.if_icmp .eq 23, 3) := by decide +kernel
theorem dX7_quarrel_20 : decode cX7_quarrel 20 = .ok (.aload_n 0, 1) := by decide +kernel
theorem dX7_quarrel_21 : decode cX7_quarrel 21 = .ok (.getfield 16, 3) := by decide +kernel
theorem dX7_quarrel_24 : decode cX7_quarrel 24 = .ok (.iload_n 2, 1) := by decide +kernel
theorem dX7_quarrel_25 : decode cX7_quarrel 25 = .ok (.iaload, 1) := by decide +kernel
theorem dX7_quarrel_26 : decode cX7_quarrel 26 = .ok (.iconst 1, 1) := by decide +kernel
theorem dX7_quarrel_27 : decode cX7_quarrel 27 = .ok (.if_icmp .ne 17, 3) := by decide +kernel
theorem dX7_quarrel_30 : decode cX7_quarrel 30 = .ok (.aload_n 0, 1) := by decide +kernel
theorem dX7_quarrel_31 : decode cX7_quarrel 31 = .ok (.getfield 28, 3) := by decide +kernel
theorem dX7_quarrel_34 : decode cX7_quarrel 34 = .ok (.iload_n 2, 1) := by decide +kernel
theorem dX7_quarrel_35 : decode cX7_quarrel 35 = .ok (.iaload, 1) := by decide +kernel
theorem dX7_quarrel_36 : decode cX7_quarrel 36 = .ok (.iload_n 1, 1) := by decide +kernel
theorem dX7_quarrel_37 : decode cX7_quarrel 37 = .ok (.if_icmp .ne 7, 3) := by decide +kernel
theorem dX7_quarrel_40 : decode cX7_quarrel 40 = .ok (.iconst 1, 1) := by decide +kernel
theorem dX7_quarrel_41 : decode cX7_quarrel 41 = .ok (.goto 4, 3) := by decide +kernel
theorem dX7_quarrel_44 : decode cX7_quarrel 44 = .ok (.iconst 0, 1) := by decide +kernel
theorem dX7_quarrel_45 : decode cX7_quarrel 45 = .ok (.ireturn, 1) := by decide +kernel
theorem dX7_hears_0 : decode cX7_hears 0 = .ok (.aload_n 0, 1) := by decide +kernel
theorem dX7_hears_1 : decode cX7_hears 1 = .ok (.getfield 40, 3) := by decide +kernel
theorem dX7_hears_4 : decode cX7_hears 4 = .ok (.iconst 4, 1) := by decide +kernel
theorem dX7_hears_5 : decode cX7_hears 5 = .ok (.iload_n 1, 1) := by decide +kernel
theorem dX7_hears_6 : decode cX7_hears 6 = .ok (.imul, 1) := by decide +kernel
theorem dX7_hears_7 : decode cX7_hears 7 = .ok (.iaload, 1) := by decide +kernel
theorem dX7_hears_8 : decode cX7_hears 8 = .ok (.istore_n 2, 1) := by decide +kernel
theorem dX7_hears_9 : decode cX7_hears 9 = .ok (.aload_n 0, 1) := by decide +kernel
theorem dX7_hears_10 : decode cX7_hears 10 = .ok (.getfield 40, 3) := by decide +kernel
theorem dX7_hears_13 : decode cX7_hears 13 = .ok (.iconst 4, 1) := by decide +kernel
theorem dX7_hears_14 : decode cX7_hears 14 = .ok (.iload_n 1, 1) := by decide +kernel
theorem dX7_hears_15 : decode cX7_hears 15 = .ok (.imul, 1) := by decide +kernel
theorem dX7_hears_16 : decode cX7_hears 16 = .ok (.iconst 1, 1) := by decide +kernel
theorem dX7_hears_17 : decode cX7_hears 17 = .ok (.iadd, 1) := by decide +kernel
theorem dX7_hears_18 : decode cX7_hears 18 = .ok (.iaload, 1) := by decide +kernel
theorem dX7_hears_19 : decode cX7_hears 19 = .ok (.istore_n 3, 1) := by decide +kernel
theorem dX7_hears_20 : decode cX7_hears 20 = .ok (.aload_n 0, 1) := by decide +kernel
theorem dX7_hears_21 : decode cX7_hears 21 = .ok (.getfield 40, 3) := by decide +kernel
theorem dX7_hears_24 : decode cX7_hears 24 = .ok (.iconst 4, 1) := by decide +kernel
theorem dX7_hears_25 : decode cX7_hears 25 = .ok (.iload_n 1, 1) := by decide +kernel
theorem dX7_hears_26 : decode cX7_hears 26 = .ok (.imul, 1) := by decide +kernel
theorem dX7_hears_27 : decode cX7_hears 27 = .ok (.iconst 2, 1) := by decide +kernel
theorem dX7_hears_28 : decode cX7_hears 28 = .ok (.iadd, 1) := by decide +kernel
theorem dX7_hears_29 : decode cX7_hears 29 = .ok (.iaload, 1) := by decide +kernel
theorem dX7_hears_30 : decode cX7_hears 30 = .ok (.iconst 1, 1) := by decide +kernel
theorem dX7_hears_31 : decode cX7_hears 31 = .ok (.if_icmp .ne 7, 3) := by decide +kernel
theorem dX7_hears_34 : decode cX7_hears 34 = .ok (.iconst 1, 1) := by decide +kernel
theorem dX7_hears_35 : decode cX7_hears 35 = .ok (.goto 4, 3) := by decide +kernel
theorem dX7_hears_38 : decode cX7_hears 38 = .ok (.iconst 0, 1) := by decide +kernel
theorem dX7_hears_39 : decode cX7_hears 39 = .ok (.istore 4, 2) := by decide +kernel
theorem dX7_hears_41 : decode cX7_hears 41 = .ok (.aload_n 0, 1) := by decide +kernel
theorem dX7_hears_42 : decode cX7_hears 42 = .ok (.getfield 40, 3) := by decide +kernel
theorem dX7_hears_45 : decode cX7_hears 45 = .ok (.iconst 4, 1) := by decide +kernel
theorem dX7_hears_46 : decode cX7_hears 46 = .ok (.iload_n 1, 1) := by decide +kernel
theorem dX7_hears_47 : decode cX7_hears 47 = .ok (.imul, 1) := by decide +kernel
theorem dX7_hears_48 : decode cX7_hears 48 = .ok (.iconst 3, 1) := by decide +kernel
theorem dX7_hears_49 : decode cX7_hears 49 = .ok (.iadd, 1) := by decide +kernel
theorem dX7_hears_50 : decode cX7_hears 50 = .ok (.iaload, 1) := by decide +kernel
theorem dX7_hears_51 : decode cX7_hears 51 = .ok (.iconst 1, 1) := by decide +kernel
theorem dX7_hears_52 : decode cX7_hears 52 = .ok (.if_icmp .ne 7, 3) := by decide +kernel
theorem dX7_hears_55 : decode cX7_hears 55 = .ok (.iconst 1, 1) := by decide +kernel
theorem dX7_hears_56 : decode cX7_hears 56 = .ok (.goto 4, 3) := by decide +kernel
theorem dX7_hears_59 : decode cX7_hears 59 = .ok (.iconst 0, 1) := by decide +kernel
theorem dX7_hears_60 : decode cX7_hears 60 = .ok (.istore 5, 2) := by decide +kernel
theorem dX7_hears_62 : decode cX7_hears 62 = .ok (.aload_n 0, 1) := by decide +kernel
theorem dX7_hears_63 : decode cX7_hears 63 = .ok (.iconst 0, 1) := by decide +kernel
theorem dX7_hears_64 : decode cX7_hears 64 = .ok (.putfield 136, 3) := by decide +kernel
theorem dX7_hears_67 : decode cX7_hears 67 = .ok (.aload_n 0, 1) := by decide +kernel
theorem dX7_hears_68 : decode cX7_hears 68 = .ok (.iconst 0, 1) := by decide +kernel
theorem dX7_hears_69 : decode cX7_hears 69 = .ok (.putfield 139, 3) := by decide +kernel
theorem dX7_hears_72 : decode cX7_hears 72 = .ok (.aload_n 0, 1) := by decide +kernel
theorem dX7_hears_73 : decode cX7_hears 73 = .ok (.iconst 0, 1) := by decide +kernel
theorem dX7_hears_74 : decode cX7_hears 74 = .ok (.putfield 142, 3) := by decide +kernel
theorem dX7_hears_77 : decode cX7_hears 77 = .ok (.iconst 0, 1) := by decide +kernel
theorem dX7_hears_78 : decode cX7_hears 78 = .ok (.istore 6, 2) := by decide +kernel
theorem dX7_hears_80 : decode cX7_hears 80 = .ok (.iload 6, 2) := by decide +kernel
theorem dX7_hears_82 : decode cX7_hears 82 = .ok (.aload_n 0, 1) := by decide +kernel
theorem dX7_hears_83 : decode cX7_hears 83 = .ok (.getfield 145, 3) := by decide +kernel
theorem dX7_hears_86 : decode cX7_hears 86 = .ok (.if_icmp .ge 382, 3) := by decide +kernel
theorem dX7_hears_89 : decode cX7_hears 89 = .ok (.aload_n 0, 1) := by decide +kernel
theorem dX7_hears_90 : decode cX7_hears 90 = .ok (.getfield 43, 3) := by decide +kernel
theorem dX7_hears_93 : decode cX7_hears 93 = .ok (.iload 6, 2) := by decide +kernel
theorem dX7_hears_95 : decode cX7_hears 95 = .ok (.iaload, 1) := by decide +kernel
theorem dX7_hears_96 : decode cX7_hears 96 = .ok (.istore 7, 2) := by decide +kernel
theorem dX7_hears_98 : decode cX7_hears 98 = .ok (.aload_n 0, 1) := by decide +kernel
theorem dX7_hears_99 : decode cX7_hears 99 = .ok (.getfield 19, 3) := by decide +kernel
theorem dX7_hears_102 : decode cX7_hears 102 = .ok (.iload 7, 2) := by decide +kernel
theorem dX7_hears_104 : decode cX7_hears 104 = .ok (.iaload, 1) := by decide +kernel
theorem dX7_hears_105 : decode cX7_hears 105 = .ok (.aload_n 0, 1) := by decide +kernel
theorem dX7_hears_106 : decode cX7_hears 106 = .ok (.getfield 142, 3) := by decide +kernel
theorem dX7_hears_109 : decode cX7_hears 109 = .ok (.iconst (-1), 1) := by decide +kernel
theorem dX7_hears_110 : decode cX7_hears 110 = .ok (.ixor, 1) := by decide +kernel
theorem dX7_hears_111 : decode cX7_hears 111 = .ok (.iand, 1) := by decide +kernel
theorem dX7_hears_112 : decode cX7_hears 112 = .ok (.invokestatic 148, 3) := by decide +kernel
theorem dX7_hears_115 : decode cX7_hears 115 = .ok (.iload_n 2, 1) := by decide +kernel
theorem dX7_hears_116 : decode cX7_hears 116 = .ok (.if_icmp .lt 346, 3) := by decide +kernel
theorem dX7_hears_119 : decode cX7_hears 119 = .ok (.iload 5, 2) := by decide +kernel
theorem dX7_hears_121 : decode cX7_hears 121 = .ok (.ifCond .ne 21, 3) := by decide +kernel
theorem dX7_hears_124 : decode cX7_hears 124 = .ok (.aload_n 0, 1) := by decide +kernel
theorem dX7_hears_125 : decode cX7_hears 125 = .ok (.getfield 19, 3) := by decide +kernel
theorem dX7_hears_128 : decode cX7_hears 128 = .ok (.iload 7, 2) := by decide +kernel
theorem dX7_hears_130 : decode cX7_hears 130 = .ok (.iaload, 1) := by decide +kernel
theorem dX7_hears_131 : decode cX7_hears 131 = .ok (.aload_n 0, 1) := by decide +kernel
theorem dX7_hears_132 : decode cX7_hears 132 = .ok (.getfield 142, 3) := by decide +kernel
theorem dX7_hears_135 : decode cX7_hears 135 = .ok (.iand, 1) := by decide +kernel
theorem dX7_hears_136 : decode cX7_hears 136 = .ok (.ifCond .eq 6, 3) := by decide +kernel
theorem dX7_hears_139 : decode cX7_hears 139 = .ok (.goto 323, 3) := by decide +kernel
theorem dX7_hears_142 : decode cX7_hears 142 = .ok (.aload_n 0, 1) := by decide +kernel
theorem dX7_hears_143 : decode cX7_hears 143 = .ok (.getfield 136, 3) := by decide +kernel
theorem dX7_hears_146 : decode cX7_hears 146 = .ok (.istore 8, 2) := by decide +kernel
theorem dX7_hears_148 : decode cX7_hears 148 = .ok (.aload_n 0, 1) := by decide +kernel
theorem dX7_hears_149 : decode cX7_hears 149 = .ok (.dup, 1) := by decide +kernel
theorem dX7_hears_150 : decode cX7_hears 150 = .ok (.getfield 136, 3) := by decide +kernel
theorem dX7_hears_153 : decode cX7_hears 153 = .ok (.iconst 1, 1) := by decide +kernel
theorem dX7_hears_154 : decode cX7_hears 154 = .ok (.iload 7, 2) := by decide +kernel
theorem dX7_hears_156 : decode cX7_hears 156 = .ok (.ishl, 1) := by decide +kernel
theorem dX7_hears_157 : decode cX7_hears 157 = .ok (.ior, 1) := by decide +kernel
theorem dX7_hears_158 : decode cX7_hears 158 = .ok (.putfield 136, 3) := by decide +kernel
theorem dX7_hears_161 : decode cX7_hears 161 = .ok (.iconst 0, 1) := by decide +kernel
theorem dX7_hears_162 : decode cX7_hears 162 = .ok (.istore 9, 2) := by decide +kernel
theorem dX7_hears_164 : decode cX7_hears 164 = .ok (.iload 9, 2) := by decide +kernel
theorem dX7_hears_166 : decode cX7_hears 166 = .ok (.aload_n 0, 1) := by decide +kernel
theorem dX7_hears_167 : decode cX7_hears 167 = .ok (.getfield 82, 3) := by decide +kernel
theorem dX7_hears_170 : decode cX7_hears 170 = .ok (.if_icmp .ge 153, 3) := by decide +kernel
theorem dX7_hears_173 : decode cX7_hears 173 = .ok (.iload 8, 2) := by decide +kernel
theorem dX7_hears_175 : decode cX7_hears 175 = .ok (.iload 9, 2) := by decide +kernel
theorem dX7_hears_177 : decode cX7_hears 177 = .ok (.invokestatic 151, 3) := by decide +kernel
theorem dX7_hears_180 : decode cX7_hears 180 = .ok (.ifCond .eq 137, 3) := by decide +kernel
theorem dX7_hears_183 : decode cX7_hears 183 = .ok (.aload_n 0, 1) := by decide +kernel
theorem dX7_hears_184 : decode cX7_hears 184 = .ok (.getfield 136, 3) := by decide +kernel
theorem dX7_hears_187 : decode cX7_hears 187 = .ok (.iload 7, 2) := by decide +kernel
theorem dX7_hears_189 : decode cX7_hears 189 = .ok (.invokestatic 151, 3) := by decide +kernel
theorem dX7_hears_192 : decode cX7_hears 192 = .ok (.ifCond .eq 125, 3) := by decide +kernel
theorem dX7_hears_195 : decode cX7_hears 195 = .ok (.aload_n 0, 1) := by decide +kernel
theorem dX7_hears_196 : decode cX7_hears 196 = .ok (.iload 7, 2) := by decide +kernel
theorem dX7_hears_198 : decode cX7_hears 198 = .ok (.iload 9, 2) := by decide +kernel
theorem dX7_hears_200 : decode cX7_hears 200 = .ok (.invokevirtual 155, 3) := by decide +kernel
theorem dX7_hears_203 : decode cX7_hears 203 = .ok (.ifCond .eq 114, 3) := by decide +kernel
theorem dX7_hears_206 : decode cX7_hears 206 = .ok (.aload_n 0, 1) := by decide +kernel
theorem dX7_hears_207 : decode cX7_hears 207 = .ok (.getfield 19, 3) := by decide +kernel
theorem dX7_hears_210 : decode cX7_hears 210 = .ok (.iload 7, 2) := by decide +kernel
theorem dX7_hears_212 : decode cX7_hears 212 = .ok (.iaload, 1) := by decide +kernel
theorem dX7_hears_213 : decode cX7_hears 213 = .ok (.invokestatic 148, 3) := by decide +kernel
theorem dX7_hears_216 : decode cX7_hears 216 = .ok (.istore 10, 2) := by decide +kernel
theorem dX7_hears_218 : decode cX7_hears 218 = .ok (.aload_n 0, 1) := by decide +kernel
theorem dX7_hears_219 : decode cX7_hears 219 = .ok (.getfield 19, 3) := by decide +kernel
theorem dX7_hears_222 : decode cX7_hears 222 = .ok (.iload 9, 2) := by decide +kernel
theorem dX7_hears_224 : decode cX7_hears 224 = .ok (.iaload, 1) := by decide +kernel
theorem dX7_hears_225 : decode cX7_hears 225 = .ok (.invokestatic 148, 3) := by decide +kernel
theorem dX7_hears_228 : decode cX7_hears 228 = .ok (.istore 11, 2) := by decide +kernel
theorem dX7_hears_230 : decode cX7_hears 230 = .ok (.iload_n 3, 1) := by decide +kernel
theorem dX7_hears_231 : decode cX7_hears 231 = .ok (.ifCond .eq 15, 3) := by decide +kernel
theorem dX7_hears_234 : decode cX7_hears 234 = .ok (.iload_n 3, 1) := by decide +kernel
theorem dX7_hears_235 : decode cX7_hears 235 = .ok (.iconst 2, 1) := by decide +kernel
theorem dX7_hears_236 : decode cX7_hears 236 = .ok (.if_icmp .ne 14, 3) := by decide +kernel
theorem dX7_hears_239 : decode cX7_hears 239 = .ok (.iload 10, 2) := by decide +kernel
theorem dX7_hears_241 : decode cX7_hears 241 = .ok (.iload 11, 2) := by decide +kernel
theorem dX7_hears_243 : decode cX7_hears 243 = .ok (.if_icmp .ne 7, 3) := by decide +kernel
theorem dX7_hears_246 : decode cX7_hears 246 = .ok (.iconst 1, 1) := by decide +kernel
theorem dX7_hears_247 : decode cX7_hears 247 = .ok (.goto 4, 3) := by decide +kernel
theorem dX7_hears_250 : decode cX7_hears 250 = .ok (.iconst 0, 1) := by decide +kernel
theorem dX7_hears_251 : decode cX7_hears 251 = .ok (.istore 12, 2) := by decide +kernel
theorem dX7_hears_253 : decode cX7_hears 253 = .ok (.iload 12, 2) := by decide +kernel
theorem dX7_hears_255 : decode cX7_hears 255 = .ok (.ifCond .ne 15, 3) := by decide +kernel
theorem dX7_hears_258 : decode cX7_hears 258 = .ok (.iload_n 3, 1) := by decide +kernel
theorem dX7_hears_259 : decode cX7_hears 259 = .ok (.iconst 1, 1) := by decide +kernel
theorem dX7_hears_260 : decode cX7_hears 260 = .ok (.if_icmp .eq 10, 3) := by decide +kernel
theorem dX7_hears_263 : decode cX7_hears 263 = .ok (.iload 10, 2) := by decide +kernel
theorem dX7_hears_265 : decode cX7_hears 265 = .ok (.iload 11, 2) := by decide +kernel
theorem dX7_hears_267 : decode cX7_hears 267 = .ok (.if_icmp .ge 18, 3) := by decide +kernel
theorem dX7_hears_270 : decode cX7_hears 270 = .ok (.aload_n 0, 1) := by decide +kernel
theorem dX7_hears_271 : decode cX7_hears 271 = .ok (.dup, 1) := by decide +kernel
theorem dX7_hears_272 : decode cX7_hears 272 = .ok (.getfield 136, 3) := by decide +kernel
theorem dX7_hears_275 : decode cX7_hears 275 = .ok (.iconst 1, 1) := by decide +kernel
theorem dX7_hears_276 : decode cX7_hears 276 = .ok (.iload 7, 2) := by decide +kernel
theorem dX7_hears_278 : decode cX7_hears 278 = .ok (.ishl, 1) := by decide +kernel
theorem dX7_hears_279 : decode cX7_hears 279 = .ok (.iconst (-1), 1) := by decide +kernel
theorem dX7_hears_280 : decode cX7_hears 280 = .ok (.ixor, 1) := by decide +kernel
theorem dX7_hears_281 : decode cX7_hears 281 = .ok (.iand, 1) := by decide +kernel
theorem dX7_hears_282 : decode cX7_hears 282 = .ok (.putfield 136, 3) := by decide +kernel
theorem dX7_hears_285 : decode cX7_hears 285 = .ok (.iload 12, 2) := by decide +kernel
theorem dX7_hears_287 : decode cX7_hears 287 = .ok (.ifCond .ne 15, 3) := by decide +kernel
theorem dX7_hears_290 : decode cX7_hears 290 = .ok (.iload_n 3, 1) := by decide +kernel
theorem dX7_hears_291 : decode cX7_hears 291 = .ok (.iconst 2, 1) := by decide +kernel
theorem dX7_hears_292 : decode cX7_hears 292 = .ok (.if_icmp .ne 25, 3) := by decide +kernel
theorem dX7_hears_295 : decode cX7_hears 295 = .ok (.iload 11, 2) := by decide +kernel
theorem dX7_hears_297 : decode cX7_hears 297 = .ok (.iload 10, 2) := by decide +kernel
theorem dX7_hears_299 : decode cX7_hears 299 = .ok (.if_icmp .ge 18, 3) := by decide +kernel
theorem dX7_hears_302 : decode cX7_hears 302 = .ok (.aload_n 0, 1) := by decide +kernel
theorem dX7_hears_303 : decode cX7_hears 303 = .ok (.dup, 1) := by decide +kernel
theorem dX7_hears_304 : decode cX7_hears 304 = .ok (.getfield 136, 3) := by decide +kernel
theorem dX7_hears_307 : decode cX7_hears 307 = .ok (.iconst 1, 1) := by decide +kernel
theorem dX7_hears_308 : decode cX7_hears 308 = .ok (.iload 9, 2) := by decide +kernel
theorem dX7_hears_310 : decode cX7_hears 310 = .ok (.ishl, 1) := by decide +kernel
theorem dX7_hears_311 : decode cX7_hears 311 = .ok (.iconst (-1), 1) := by decide +kernel
theorem dX7_hears_312 : decode cX7_hears 312 = .ok (.ixor, 1) := by decide +kernel
theorem dX7_hears_313 : decode cX7_hears 313 = .ok (.iand, 1) := by decide +kernel
theorem dX7_hears_314 : decode cX7_hears 314 = .ok (.putfield 136, 3) := by decide +kernel
theorem dX7_hears_317 : decode cX7_hears 317 = .ok (.iinc 9 1, 3) := by decide +kernel
theorem dX7_hears_320 : decode cX7_hears 320 = .ok (.goto (-156), 3) := by decide +kernel
theorem dX7_hears_323 : decode cX7_hears 323 = .ok (.aload_n 0, 1) := by decide +kernel
theorem dX7_hears_324 : decode cX7_hears 324 = .ok (.getfield 136, 3) := by decide +kernel
theorem dX7_hears_327 : decode cX7_hears 327 = .ok (.iload 7, 2) := by decide +kernel
theorem dX7_hears_329 : decode cX7_hears 329 = .ok (.invokestatic 151, 3) := by decide +kernel
theorem dX7_hears_332 : decode cX7_hears 332 = .ok (.ifCond .eq 130, 3) := by decide +kernel
theorem dX7_hears_335 : decode cX7_hears 335 = .ok (.aload_n 0, 1) := by decide +kernel
theorem dX7_hears_336 : decode cX7_hears 336 = .ok (.getfield 104, 3) := by decide +kernel
theorem dX7_hears_339 : decode cX7_hears 339 = .ok (.iload 7, 2) := by decide +kernel
theorem dX7_hears_341 : decode cX7_hears 341 = .ok (.invokestatic 151, 3) := by decide +kernel
theorem dX7_hears_344 : decode cX7_hears 344 = .ok (.ifCond .eq 36, 3) := by decide +kernel
theorem dX7_hears_347 : decode cX7_hears 347 = .ok (.aload_n 0, 1) := by decide +kernel
theorem dX7_hears_348 : decode cX7_hears 348 = .ok (.getfield 136, 3) := by decide +kernel
theorem dX7_hears_351 : decode cX7_hears 351 = .ok (.aload_n 0, 1) := by decide +kernel
theorem dX7_hears_352 : decode cX7_hears 352 = .ok (.getfield 28, 3) := by decide +kernel
theorem dX7_hears_355 : decode cX7_hears 355 = .ok (.iload 7, 2) := by decide +kernel
theorem dX7_hears_357 : decode cX7_hears 357 = .ok (.iaload, 1) := by decide +kernel
theorem dX7_hears_358 : decode cX7_hears 358 = .ok (.invokestatic 151, 3) := by decide +kernel
theorem dX7_hears_361 : decode cX7_hears 361 = .ok (.ifCond .eq 19, 3) := by decide +kernel
theorem dX7_hears_364 : decode cX7_hears 364 = .ok (.aload_n 0, 1) := by decide +kernel
theorem dX7_hears_365 : decode cX7_hears 365 = .ok (.aload_n 0, 1) := by decide +kernel
theorem dX7_hears_366 : decode cX7_hears 366 = .ok (.getfield 28, 3) := by decide +kernel
theorem dX7_hears_369 : decode cX7_hears 369 = .ok (.iload 7, 2) := by decide +kernel
theorem dX7_hears_371 : decode cX7_hears 371 = .ok (.iaload, 1) := by decide +kernel
theorem dX7_hears_372 : decode cX7_hears 372 = .ok (.iload 4, 2) := by decide +kernel
theorem dX7_hears_374 : decode cX7_hears 374 = .ok (.invokevirtual 158, 3) := by decide +kernel
theorem dX7_hears_377 : decode cX7_hears 377 = .ok (.goto 85, 3) := by decide +kernel
theorem dX7_hears_380 : decode cX7_hears 380 = .ok (.iconst 0, 1) := by decide +kernel
theorem dX7_hears_381 : decode cX7_hears 381 = .ok (.istore 9, 2) := by decide +kernel
theorem dX7_hears_383 : decode cX7_hears 383 = .ok (.iconst 0, 1) := by decide +kernel
theorem dX7_hears_384 : decode cX7_hears 384 = .ok (.istore 10, 2) := by decide +kernel
theorem dX7_hears_386 : decode cX7_hears 386 = .ok (.iload 10, 2) := by decide +kernel
theorem dX7_hears_388 : decode cX7_hears 388 = .ok (.aload_n 0, 1) := by decide +kernel
theorem dX7_hears_389 : decode cX7_hears 389 = .ok (.getfield 82, 3) := by decide +kernel
theorem dX7_hears_392 : decode cX7_hears 392 = .ok (.if_icmp .ge 57, 3) := by decide +kernel
theorem dX7_hears_395 : decode cX7_hears 395 = .ok (.iload 9, 2) := by decide +kernel
theorem dX7_hears_397 : decode cX7_hears 397 = .ok (.ifCond .ne 39, 3) := by decide +kernel
theorem dX7_hears_400 : decode cX7_hears 400 = .ok (.aload_n 0, 1) := by decide +kernel
theorem dX7_hears_401 : decode cX7_hears 401 = .ok (.getfield 136, 3) := by decide +kernel
theorem dX7_hears_404 : decode cX7_hears 404 = .ok (.iload 10, 2) := by decide +kernel
theorem dX7_hears_406 : decode cX7_hears 406 = .ok (.invokestatic 151, 3) := by decide +kernel
theorem dX7_hears_409 : decode cX7_hears 409 = .ok (.ifCond .eq 31, 3) := by decide +kernel
theorem dX7_hears_412 : decode cX7_hears 412 = .ok (.aload_n 0, 1) := by decide +kernel
theorem dX7_hears_413 : decode cX7_hears 413 = .ok (.getfield 104, 3) := by decide +kernel
theorem dX7_hears_416 : decode cX7_hears 416 = .ok (.iload 10, 2) := by decide +kernel
theorem dX7_hears_418 : decode cX7_hears 418 = .ok (.invokestatic 151, 3) := by decide +kernel
theorem dX7_hears_421 : decode cX7_hears 421 = .ok (.ifCond .eq 19, 3) := by decide +kernel
theorem dX7_hears_424 : decode cX7_hears 424 = .ok (.aload_n 0, 1) := by decide +kernel
theorem dX7_hears_425 : decode cX7_hears 425 = .ok (.getfield 28, 3) := by decide +kernel
theorem dX7_hears_428 : decode cX7_hears 428 = .ok (.iload 10, 2) := by decide +kernel
theorem dX7_hears_430 : decode cX7_hears 430 = .ok (.iaload, 1) := by decide +kernel
theorem dX7_hears_431 : decode cX7_hears 431 = .ok (.iload 7, 2) := by decide +kernel
theorem dX7_hears_433 : decode cX7_hears 433 = .ok (.if_icmp .ne 7, 3) := by decide +kernel
theorem dX7_hears_436 : decode cX7_hears 436 = .ok (.iconst 1, 1) := by decide +kernel
theorem dX7_hears_437 : decode cX7_hears 437 = .ok (.goto 4, 3) := by decide +kernel
theorem dX7_hears_440 : decode cX7_hears 440 = .ok (.iconst 0, 1) := by decide +kernel
theorem dX7_hears_441 : decode cX7_hears 441 = .ok (.istore 9, 2) := by decide +kernel
theorem dX7_hears_443 : decode cX7_hears 443 = .ok (.iinc 10 1, 3) := by decide +kernel
theorem dX7_hears_446 : decode cX7_hears 446 = .ok (.goto (-60), 3) := by decide +kernel
theorem dX7_hears_449 : decode cX7_hears 449 = .ok (.iload 9, 2) := by decide +kernel
theorem dX7_hears_451 : decode cX7_hears 451 = .ok (.ifCond .eq 11, 3) := by decide +kernel
theorem dX7_hears_454 : decode cX7_hears 454 = .ok (.aload_n 0, 1) := by decide +kernel
theorem dX7_hears_455 : decode cX7_hears 455 = .ok (.iload 7, 2) := by decide +kernel
theorem dX7_hears_457 : decode cX7_hears 457 = .ok (.iload 4, 2) := by decide +kernel
theorem dX7_hears_459 : decode cX7_hears 459 = .ok (.invokevirtual 158, 3) := by decide +kernel
theorem dX7_hears_462 : decode cX7_hears 462 = .ok (.iinc 6 1, 3) := by decide +kernel
theorem dX7_hears_465 : decode cX7_hears 465 = .ok (.goto (-385), 3) := by decide +kernel
theorem dX7_hears_468 : decode cX7_hears 468 = .ok (.return_, 1) := by decide +kernel
theorem dX7_lines_0 : decode cX7_lines 0 = .ok (.aload_n 0, 1) := by decide +kernel
theorem dX7_lines_1 : decode cX7_lines 1 = .ok (.iconst 0, 1) := by decide +kernel
theorem dX7_lines_2 : decode cX7_lines 2 = .ok (.putfield 145, 3) := by decide +kernel
theorem dX7_lines_5 : decode cX7_lines 5 = .ok (.iconst 0, 1) := by decide +kernel
theorem dX7_lines_6 : decode cX7_lines 6 = .ok (.istore_n 2, 1) := by decide +kernel
theorem dX7_lines_7 : decode cX7_lines 7 = .ok (.iload_n 2, 1) := by decide +kernel
theorem dX7_lines_8 : decode cX7_lines 8 = .ok (.aload_n 0, 1) := by decide +kernel
theorem dX7_lines_9 : decode cX7_lines 9 = .ok (.getfield 82, 3) := by decide +kernel
theorem dX7_lines_12 : decode cX7_lines 12 = .ok (.if_icmp .ge 37, 3) := by decide +kernel
theorem dX7_lines_15 : decode cX7_lines 15 = .ok (.iload_n 1, 1) := by decide +kernel
theorem dX7_lines_16 : decode cX7_lines 16 = .ok (.iload_n 2, 1) := by decide +kernel
theorem dX7_lines_17 : decode cX7_lines 17 = .ok (.invokestatic 151, 3) := by decide +kernel
theorem dX7_lines_20 : decode cX7_lines 20 = .ok (.ifCond .eq 23, 3) := by decide +kernel
theorem dX7_lines_23 : decode cX7_lines 23 = .ok (.aload_n 0, 1) := by decide +kernel
theorem dX7_lines_24 : decode cX7_lines 24 = .ok (.getfield 43, 3) := by decide +kernel
theorem dX7_lines_27 : decode cX7_lines 27 = .ok (.aload_n 0, 1) := by decide +kernel
theorem dX7_lines_28 : decode cX7_lines 28 = .ok (.getfield 145, 3) := by decide +kernel
theorem dX7_lines_31 : decode cX7_lines 31 = .ok (.iload_n 2, 1) := by decide +kernel
theorem dX7_lines_32 : decode cX7_lines 32 = .ok (.iastore, 1) := by decide +kernel
theorem dX7_lines_33 : decode cX7_lines 33 = .ok (.aload_n 0, 1) := by decide +kernel
theorem dX7_lines_34 : decode cX7_lines 34 = .ok (.dup, 1) := by decide +kernel
theorem dX7_lines_35 : decode cX7_lines 35 = .ok (.getfield 145, 3) := by decide +kernel
theorem dX7_lines_38 : decode cX7_lines 38 = .ok (.iconst 1, 1) := by decide +kernel
theorem dX7_lines_39 : decode cX7_lines 39 = .ok (.iadd, 1) := by decide +kernel
theorem dX7_lines_40 : decode cX7_lines 40 = .ok (.putfield 145, 3) := by decide +kernel
theorem dX7_lines_43 : decode cX7_lines 43 = .ok (.iinc 2 1, 3) := by decide +kernel
theorem dX7_lines_46 : decode cX7_lines 46 = .ok (.goto (-39), 3) := by decide +kernel
theorem dX7_lines_49 : decode cX7_lines 49 = .ok (.return_, 1) := by decide +kernel
theorem dX7_tells_0 : decode cX7_tells 0 = .ok (.iload_n 1, 1) := by decide +kernel
theorem dX7_tells_1 : decode cX7_tells 1 = .ok (.ifCond .ne 10, 3) := by decide +kernel
theorem dX7_tells_4 : decode cX7_tells 4 = .ok (.aload_n 0, 1) := by decide +kernel
theorem dX7_tells_5 : decode cX7_tells 5 = .ok (.getfield 136, 3) := by decide +kernel
theorem dX7_tells_8 : decode cX7_tells 8 = .ok (.goto 19, 3) := by decide +kernel
theorem dX7_tells_11 : decode cX7_tells 11 = .ok (.iload_n 1, 1) := by decide +kernel
theorem dX7_tells_12 : decode cX7_tells 12 = .ok (.iconst 1, 1) := by decide +kernel
theorem dX7_tells_13 : decode cX7_tells 13 = .ok (.if_icmp .ne 10, 3) := by decide +kernel
theorem dX7_tells_16 : decode cX7_tells 16 = .ok (.aload_n 0, 1) := by decide +kernel
theorem dX7_tells_17 : decode cX7_tells 17 = .ok (.getfield 139, 3) := by decide +kernel
theorem dX7_tells_20 : decode cX7_tells 20 = .ok (.goto 7, 3) := by decide +kernel
theorem dX7_tells_23 : decode cX7_tells 23 = .ok (.aload_n 0, 1) := by decide +kernel
theorem dX7_tells_24 : decode cX7_tells 24 = .ok (.getfield 142, 3) := by decide +kernel
theorem dX7_tells_27 : decode cX7_tells 27 = .ok (.ireturn, 1) := by decide +kernel
theorem dX7_hearsAll_0 : decode cX7_hearsAll 0 = .ok (.aload_n 0, 1) := by decide +kernel
theorem dX7_hearsAll_1 : decode cX7_hearsAll 1 = .ok (.iload_n 1, 1) := by decide +kernel
theorem dX7_hearsAll_2 : decode cX7_hearsAll 2 = .ok (.invokevirtual 133, 3) := by decide +kernel
theorem dX7_hearsAll_5 : decode cX7_hearsAll 5 = .ok (.aload_n 0, 1) := by decide +kernel
theorem dX7_hearsAll_6 : decode cX7_hearsAll 6 = .ok (.invokevirtual 114, 3) := by decide +kernel
theorem dX7_hearsAll_9 : decode cX7_hearsAll 9 = .ok (.aload_n 0, 1) := by decide +kernel
theorem dX7_hearsAll_10 : decode cX7_hearsAll 10 = .ok (.aload_n 0, 1) := by decide +kernel
theorem dX7_hearsAll_11 : decode cX7_hearsAll 11 = .ok (.invokevirtual 162, 3) := by decide +kernel
theorem dX7_hearsAll_14 : decode cX7_hearsAll 14 = .ok (.invokevirtual 165, 3) := by decide +kernel
theorem dX7_hearsAll_17 : decode cX7_hearsAll 17 = .ok (.aload_n 0, 1) := by decide +kernel
theorem dX7_hearsAll_18 : decode cX7_hearsAll 18 = .ok (.iload_n 1, 1) := by decide +kernel
theorem dX7_hearsAll_19 : decode cX7_hearsAll 19 = .ok (.invokevirtual 168, 3) := by decide +kernel
theorem dX7_hearsAll_22 : decode cX7_hearsAll 22 = .ok (.return_, 1) := by decide +kernel
theorem dX7_heardNow_0 : decode cX7_heardNow 0 = .ok (.aload_n 0, 1) := by decide +kernel
theorem dX7_heardNow_1 : decode cX7_heardNow 1 = .ok (.iload_n 1, 1) := by decide +kernel
theorem dX7_heardNow_2 : decode cX7_heardNow 2 = .ok (.invokevirtual 171, 3) := by decide +kernel
theorem dX7_heardNow_5 : decode cX7_heardNow 5 = .ok (.aload_n 0, 1) := by decide +kernel
theorem dX7_heardNow_6 : decode cX7_heardNow 6 = .ok (.iload_n 2, 1) := by decide +kernel
theorem dX7_heardNow_7 : decode cX7_heardNow 7 = .ok (.invokevirtual 174, 3) := by decide +kernel
theorem dX7_heardNow_10 : decode cX7_heardNow 10 = .ok (.ireturn, 1) := by decide +kernel
theorem dX7_heard_0 : decode cX7_heard 0 = .ok (.iload_n 1, 1) := by decide +kernel
theorem dX7_heard_1 : decode cX7_heard 1 = .ok (.invokestatic 120, 3) := by decide +kernel
theorem dX7_heard_4 : decode cX7_heard 4 = .ok (.ifCond .eq 21, 3) := by decide +kernel
theorem dX7_heard_7 : decode cX7_heard 7 = .ok (.iload_n 2, 1) := by decide +kernel
theorem dX7_heard_8 : decode cX7_heard 8 = .ok (.iconst 0, 1) := by decide +kernel
theorem dX7_heard_9 : decode cX7_heard 9 = .ok (.iconst 2, 1) := by decide +kernel
theorem dX7_heard_10 : decode cX7_heard 10 = .ok (.invokestatic 71, 3) := by decide +kernel
theorem dX7_heard_13 : decode cX7_heard 13 = .ok (.ifCond .eq 12, 3) := by decide +kernel
theorem dX7_heard_16 : decode cX7_heard 16 = .ok (.aload_n 0, 1) := by decide +kernel
theorem dX7_heard_17 : decode cX7_heard 17 = .ok (.iload_n 1, 1) := by decide +kernel
theorem dX7_heard_18 : decode cX7_heard 18 = .ok (.iload_n 2, 1) := by decide +kernel
theorem dX7_heard_19 : decode cX7_heard 19 = .ok (.invokevirtual 177, 3) := by decide +kernel
theorem dX7_heard_22 : decode cX7_heard 22 = .ok (.goto 5, 3) := by decide +kernel
theorem dX7_heard_25 : decode cX7_heard 25 = .ok (.bipush (-2), 2) := by decide +kernel
theorem dX7_heard_27 : decode cX7_heard 27 = .ok (.ireturn, 1) := by decide +kernel
