theorem dX7_ordered_0 : decode cX7_ordered 0 = .ok (.iload_n 1, 1) := by decide +kernel
theorem dX7_ordered_1 : decode cX7_ordered 1 = .ok (.invokestatic 120, 3) := by decide +kernel
theorem dX7_ordered_4 : decode cX7_ordered 4 = .ok (.ifCond .eq 19, 3) := by decide +kernel
theorem dX7_ordered_7 : decode cX7_ordered 7 = .ok (.iload_n 2, 1) := by decide +kernel
theorem dX7_ordered_8 : decode cX7_ordered 8 = .ok (.invokestatic 90, 3) := by decide +kernel
theorem dX7_ordered_11 : decode cX7_ordered 11 = .ok (.ifCond .eq 12, 3) := by decide +kernel
theorem dX7_ordered_14 : decode cX7_ordered 14 = .ok (.iload_n 3, 1) := by decide +kernel
theorem dX7_ordered_15 : decode cX7_ordered 15 = .ok (.iconst 0, 1) := by decide +kernel
theorem dX7_ordered_16 : decode cX7_ordered 16 = .ok (.iconst 2, 1) := by decide +kernel
theorem dX7_ordered_17 : decode cX7_ordered 17 = .ok (.invokestatic 71, 3) := by decide +kernel
theorem dX7_ordered_20 : decode cX7_ordered 20 = .ok (.ifCond .ne 6, 3) := by decide +kernel
theorem dX7_ordered_23 : decode cX7_ordered 23 = .ok (.bipush (-2), 2) := by decide +kernel
theorem dX7_ordered_25 : decode cX7_ordered 25 = .ok (.ireturn, 1) := by decide +kernel
theorem dX7_ordered_26 : decode cX7_ordered 26 = .ok (.aload_n 0, 1) := by decide +kernel
theorem dX7_ordered_27 : decode cX7_ordered 27 = .ok (.getfield 56, 3) := by decide +kernel
theorem dX7_ordered_30 : decode cX7_ordered 30 = .ok (.iload_n 2, 1) := by decide +kernel
theorem dX7_ordered_31 : decode cX7_ordered 31 = .ok (.baload, 1) := by decide +kernel
theorem dX7_ordered_32 : decode cX7_ordered 32 = .ok (.ifCond .ne 9, 3) := by decide +kernel
theorem dX7_ordered_35 : decode cX7_ordered 35 = .ok (.aload_n 0, 1) := by decide +kernel
theorem dX7_ordered_36 : decode cX7_ordered 36 = .ok (.iconst 1, 1) := by decide +kernel
theorem dX7_ordered_37 : decode cX7_ordered 37 = .ok (.invokevirtual 93, 3) := by decide +kernel
theorem dX7_ordered_40 : decode cX7_ordered 40 = .ok (.ireturn, 1) := by decide +kernel
theorem dX7_ordered_41 : decode cX7_ordered 41 = .ok (.iconst 0, 1) := by decide +kernel
theorem dX7_ordered_42 : decode cX7_ordered 42 = .ok (.istore 4, 2) := by decide +kernel
theorem dX7_ordered_44 : decode cX7_ordered 44 = .ok (.iconst 0, 1) := by decide +kernel
theorem dX7_ordered_45 : decode cX7_ordered 45 = .ok (.istore 5, 2) := by decide +kernel
theorem dX7_ordered_47 : decode cX7_ordered 47 = .ok (.iload 5, 2) := by decide +kernel
theorem dX7_ordered_49 : decode cX7_ordered 49 = .ok (.aload_n 0, 1) := by decide +kernel
theorem dX7_ordered_50 : decode cX7_ordered 50 = .ok (.getfield 62, 3) := by decide +kernel
theorem dX7_ordered_53 : decode cX7_ordered 53 = .ok (.iload_n 2, 1) := by decide +kernel
theorem dX7_ordered_54 : decode cX7_ordered 54 = .ok (.iaload, 1) := by decide +kernel
theorem dX7_ordered_55 : decode cX7_ordered 55 = .ok (.if_icmp .ge 75, 3) := by decide +kernel
theorem dX7_ordered_58 : decode cX7_ordered 58 = .ok (.aload_n 0, 1) := by decide +kernel
theorem dX7_ordered_59 : decode cX7_ordered 59 = .ok (.getfield 65, 3) := by decide +kernel
theorem dX7_ordered_62 : decode cX7_ordered 62 = .ok (.bipush 40, 2) := by decide +kernel
theorem dX7_ordered_64 : decode cX7_ordered 64 = .ok (.iload_n 2, 1) := by decide +kernel
theorem dX7_ordered_65 : decode cX7_ordered 65 = .ok (.imul, 1) := by decide +kernel
theorem dX7_ordered_66 : decode cX7_ordered 66 = .ok (.iload 5, 2) := by decide +kernel
theorem dX7_ordered_68 : decode cX7_ordered 68 = .ok (.iadd, 1) := by decide +kernel
theorem dX7_ordered_69 : decode cX7_ordered 69 = .ok (.iaload, 1) := by decide +kernel
theorem dX7_ordered_70 : decode cX7_ordered 70 = .ok (.istore 6, 2) := by decide +kernel
theorem dX7_ordered_72 : decode cX7_ordered 72 = .ok (.aload_n 0, 1) := by decide +kernel
theorem dX7_ordered_73 : decode cX7_ordered 73 = .ok (.iload 6, 2) := by decide +kernel
theorem dX7_ordered_75 : decode cX7_ordered 75 = .ok (.invokevirtual 111, 3) := by decide +kernel
theorem dX7_ordered_78 : decode cX7_ordered 78 = .ok (.ifCond .eq 25, 3) := by decide +kernel
theorem dX7_ordered_81 : decode cX7_ordered 81 = .ok (.aload_n 0, 1) := by decide +kernel
theorem dX7_ordered_82 : decode cX7_ordered 82 = .ok (.getfield 101, 3) := by decide +kernel
theorem dX7_ordered_85 : decode cX7_ordered 85 = .ok (.iload 6, 2) := by decide +kernel
theorem dX7_ordered_87 : decode cX7_ordered 87 = .ok (.invokestatic 151, 3) := by decide +kernel
theorem dX7_ordered_90 : decode cX7_ordered 90 = .ok (.ifCond .ne 13, 3) := by decide +kernel
theorem dX7_ordered_93 : decode cX7_ordered 93 = .ok (.iload 4, 2) := by decide +kernel
theorem dX7_ordered_95 : decode cX7_ordered 95 = .ok (.iload 6, 2) := by decide +kernel
theorem dX7_ordered_97 : decode cX7_ordered 97 = .ok (.invokestatic 151, 3) := by decide +kernel
theorem dX7_ordered_100 : decode cX7_ordered 100 = .ok (.ifCond .eq 6, 3) := by decide +kernel
theorem dX7_ordered_103 : decode cX7_ordered 103 = .ok (.bipush (-3), 2) := by decide +kernel
theorem dX7_ordered_105 : decode cX7_ordered 105 = .ok (.ireturn, 1) := by decide +kernel
theorem dX7_ordered_106 : decode cX7_ordered 106 = .ok (.iload 4, 2) := by decide +kernel
theorem dX7_ordered_108 : decode cX7_ordered 108 = .ok (.iconst 1, 1) := by decide +kernel
theorem dX7_ordered_109 : decode cX7_ordered 109 = .ok (.iload 6, 2) := by decide +kernel
theorem dX7_ordered_111 : decode cX7_ordered 111 = .ok (.ishl, 1) := by decide +kernel
theorem dX7_ordered_112 : decode cX7_ordered 112 = .ok (.ior, 1) := by decide +kernel
theorem dX7_ordered_113 : decode cX7_ordered 113 = .ok (.istore 4, 2) := by decide +kernel
theorem dX7_ordered_115 : decode cX7_ordered 115 = .ok (.aload_n 0, 1) := by decide +kernel
theorem dX7_ordered_116 : decode cX7_ordered 116 = .ok (.getfield 43, 3) := by decide +kernel
theorem dX7_ordered_119 : decode cX7_ordered 119 = .ok (.iload 5, 2) := by decide +kernel
theorem dX7_ordered_121 : decode cX7_ordered 121 = .ok (.iload 6, 2) := by decide +kernel
theorem dX7_ordered_123 : decode cX7_ordered 123 = .ok (.iastore, 1) := by decide +kernel
theorem dX7_ordered_124 : decode cX7_ordered 124 = .ok (.iinc 5 1, 3) := by decide +kernel
theorem dX7_ordered_127 : decode cX7_ordered 127 = .ok (.goto (-80), 3) := by decide +kernel
theorem dX7_ordered_130 : decode cX7_ordered 130 = .ok (.aload_n 0, 1) := by decide +kernel
theorem dX7_ordered_131 : decode cX7_ordered 131 = .ok (.aload_n 0, 1) := by decide +kernel
theorem dX7_ordered_132 : decode cX7_ordered 132 = .ok (.getfield 62, 3) := by decide +kernel
theorem dX7_ordered_135 : decode cX7_ordered 135 = .ok (.iload_n 2, 1) := by decide +kernel
theorem dX7_ordered_136 : decode cX7_ordered 136 = .ok (.iaload, 1) := by decide +kernel
theorem dX7_ordered_137 : decode cX7_ordered 137 = .ok (.putfield 145, 3) := by decide +kernel
theorem dX7_ordered_140 : decode cX7_ordered 140 = .ok (.aload_n 0, 1) := by decide +kernel
theorem dX7_ordered_141 : decode cX7_ordered 141 = .ok (.iload_n 1, 1) := by decide +kernel
theorem dX7_ordered_142 : decode cX7_ordered 142 = .ok (.invokevirtual 133, 3) := by decide +kernel
theorem dX7_ordered_145 : decode cX7_ordered 145 = .ok (.aload_n 0, 1) := by decide +kernel
theorem dX7_ordered_146 : decode cX7_ordered 146 = .ok (.invokevirtual 114, 3) := by decide +kernel
theorem dX7_ordered_149 : decode cX7_ordered 149 = .ok (.aload_n 0, 1) := by decide +kernel
theorem dX7_ordered_150 : decode cX7_ordered 150 = .ok (.iload_n 1, 1) := by decide +kernel
theorem dX7_ordered_151 : decode cX7_ordered 151 = .ok (.invokevirtual 168, 3) := by decide +kernel
theorem dX7_ordered_154 : decode cX7_ordered 154 = .ok (.aload_n 0, 1) := by decide +kernel
theorem dX7_ordered_155 : decode cX7_ordered 155 = .ok (.iload_n 3, 1) := by decide +kernel
theorem dX7_ordered_156 : decode cX7_ordered 156 = .ok (.invokevirtual 174, 3) := by decide +kernel
theorem dX7_ordered_159 : decode cX7_ordered 159 = .ok (.ireturn, 1) := by decide +kernel
theorem dX7_headNow_0 : decode cX7_headNow 0 = .ok (.iconst 0, 1) := by decide +kernel
theorem dX7_headNow_1 : decode cX7_headNow 1 = .ok (.istore_n 2, 1) := by decide +kernel
theorem dX7_headNow_2 : decode cX7_headNow 2 = .ok (.iconst 0, 1) := by decide +kernel
theorem dX7_headNow_3 : decode cX7_headNow 3 = .ok (.istore_n 3, 1) := by decide +kernel
theorem dX7_headNow_4 : decode cX7_headNow 4 = .ok (.iload_n 3, 1) := by decide +kernel
theorem dX7_headNow_5 : decode cX7_headNow 5 = .ok (.aload_n 0, 1) := by decide +kernel
theorem dX7_headNow_6 : decode cX7_headNow 6 = .ok (.getfield 82, 3) := by decide +kernel
theorem dX7_headNow_9 : decode cX7_headNow 9 = .ok (.if_icmp .ge 55, 3) := by decide +kernel
theorem dX7_headNow_12 : decode cX7_headNow 12 = .ok (.iload_n 2, 1) := by decide +kernel
theorem dX7_headNow_13 : decode cX7_headNow 13 = .ok (.aload_n 0, 1) := by decide +kernel
theorem dX7_headNow_14 : decode cX7_headNow 14 = .ok (.getfield 16, 3) := by decide +kernel
theorem dX7_headNow_17 : decode cX7_headNow 17 = .ok (.iload_n 3, 1) := by decide +kernel
theorem dX7_headNow_18 : decode cX7_headNow 18 = .ok (.iaload, 1) := by decide +kernel
theorem dX7_headNow_19 : decode cX7_headNow 19 = .ok (.ifCond .ne 36, 3) := by decide +kernel
theorem dX7_headNow_22 : decode cX7_headNow 22 = .ok (.aload_n 0, 1) := by decide +kernel
theorem dX7_headNow_23 : decode cX7_headNow 23 = .ok (.getfield 139, 3) := by decide +kernel
theorem dX7_headNow_26 : decode cX7_headNow 26 = .ok (.iload_n 3, 1) := by decide +kernel
theorem dX7_headNow_27 : decode cX7_headNow 27 = .ok (.invokestatic 151, 3) := by decide +kernel
theorem dX7_headNow_30 : decode cX7_headNow 30 = .ok (.ifCond .eq 25, 3) := by decide +kernel
theorem dX7_headNow_33 : decode cX7_headNow 33 = .ok (.aload_n 0, 1) := by decide +kernel
theorem dX7_headNow_34 : decode cX7_headNow 34 = .ok (.getfield 19, 3) := by decide +kernel
theorem dX7_headNow_37 : decode cX7_headNow 37 = .ok (.iload_n 3, 1) := by decide +kernel
theorem dX7_headNow_38 : decode cX7_headNow 38 = .ok (.iaload, 1) := by decide +kernel
theorem dX7_headNow_39 : decode cX7_headNow 39 = .ok (.iload_n 1, 1) := by decide +kernel
theorem dX7_headNow_40 : decode cX7_headNow 40 = .ok (.invokestatic 151, 3) := by decide +kernel
theorem dX7_headNow_43 : decode cX7_headNow 43 = .ok (.ifCond .eq 12, 3) := by decide +kernel
theorem dX7_headNow_46 : decode cX7_headNow 46 = .ok (.aload_n 0, 1) := by decide +kernel
theorem dX7_headNow_47 : decode cX7_headNow 47 = .ok (.getfield 28, 3) := by decide +kernel
theorem dX7_headNow_50 : decode cX7_headNow 50 = .ok (.iload_n 3, 1) := by decide +kernel
theorem dX7_headNow_51 : decode cX7_headNow 51 = .ok (.iaload, 1) := by decide +kernel
theorem dX7_headNow_52 : decode cX7_headNow 52 = .ok (.goto 4, 3) := by decide +kernel
theorem dX7_headNow_55 : decode cX7_headNow 55 = .ok (.iconst 0, 1) := by decide +kernel
theorem dX7_headNow_56 : decode cX7_headNow 56 = .ok (.iadd, 1) := by decide +kernel
theorem dX7_headNow_57 : decode cX7_headNow 57 = .ok (.istore_n 2, 1) := by decide +kernel
theorem dX7_headNow_58 : decode cX7_headNow 58 = .ok (.iinc 3 1, 3) := by decide +kernel
theorem dX7_headNow_61 : decode cX7_headNow 61 = .ok (.goto (-57), 3) := by decide +kernel
theorem dX7_headNow_64 : decode cX7_headNow 64 = .ok (.iload_n 2, 1) := by decide +kernel
theorem dX7_headNow_65 : decode cX7_headNow 65 = .ok (.ireturn, 1) := by decide +kernel
theorem dX7_head_0 : decode cX7_head 0 = .ok (.iload_n 1, 1) := by decide +kernel
theorem dX7_head_1 : decode cX7_head 1 = .ok (.invokestatic 120, 3) := by decide +kernel
theorem dX7_head_4 : decode cX7_head 4 = .ok (.ifCond .eq 13, 3) := by decide +kernel
theorem dX7_head_7 : decode cX7_head 7 = .ok (.iload_n 2, 1) := by decide +kernel
theorem dX7_head_8 : decode cX7_head 8 = .ok (.iconst 0, 1) := by decide +kernel
theorem dX7_head_9 : decode cX7_head 9 = .ok (.bipush 9, 2) := by decide +kernel
theorem dX7_head_11 : decode cX7_head 11 = .ok (.invokestatic 71, 3) := by decide +kernel
theorem dX7_head_14 : decode cX7_head 14 = .ok (.ifCond .ne 6, 3) := by decide +kernel
theorem dX7_head_17 : decode cX7_head 17 = .ok (.bipush (-2), 2) := by decide +kernel
theorem dX7_head_19 : decode cX7_head 19 = .ok (.ireturn, 1) := by decide +kernel
theorem dX7_head_20 : decode cX7_head 20 = .ok (.aload_n 0, 1) := by decide +kernel
theorem dX7_head_21 : decode cX7_head 21 = .ok (.iload_n 1, 1) := by decide +kernel
theorem dX7_head_22 : decode cX7_head 22 = .ok (.invokevirtual 171, 3) := by decide +kernel
theorem dX7_head_25 : decode cX7_head 25 = .ok (.aload_n 0, 1) := by decide +kernel
theorem dX7_head_26 : decode cX7_head 26 = .ok (.iload_n 2, 1) := by decide +kernel
theorem dX7_head_27 : decode cX7_head 27 = .ok (.invokevirtual 180, 3) := by decide +kernel
theorem dX7_head_30 : decode cX7_head 30 = .ok (.ireturn, 1) := by decide +kernel
theorem dX7_turns_0 : decode cX7_turns 0 = .ok (.aload_n 0, 1) := by decide +kernel
theorem dX7_turns_1 : decode cX7_turns 1 = .ok (.getfield 145, 3) := by decide +kernel
theorem dX7_turns_4 : decode cX7_turns 4 = .ok (.iconst 2, 1) := by decide +kernel
theorem dX7_turns_5 : decode cX7_turns 5 = .ok (.isub, 1) := by decide +kernel
theorem dX7_turns_6 : decode cX7_turns 6 = .ok (.istore_n 1, 1) := by decide +kernel
theorem dX7_turns_7 : decode cX7_turns 7 = .ok (.iload_n 1, 1) := by decide +kernel
theorem dX7_turns_8 : decode cX7_turns 8 = .ok (.ifCond .lt 26, 3) := by decide +kernel
theorem dX7_turns_11 : decode cX7_turns 11 = .ok (.aload_n 0, 1) := by decide +kernel
theorem dX7_turns_12 : decode cX7_turns 12 = .ok (.getfield 43, 3) := by decide +kernel
theorem dX7_turns_15 : decode cX7_turns 15 = .ok (.iload_n 1, 1) := by decide +kernel
theorem dX7_turns_16 : decode cX7_turns 16 = .ok (.iaload, 1) := by decide +kernel
theorem dX7_turns_17 : decode cX7_turns 17 = .ok (.aload_n 0, 1) := by decide +kernel
theorem dX7_turns_18 : decode cX7_turns 18 = .ok (.getfield 43, 3) := by decide +kernel
theorem dX7_turns_21 : decode cX7_turns 21 = .ok (.iload_n 1, 1) := by decide +kernel
theorem dX7_turns_22 : decode cX7_turns 22 = .ok (.iconst 1, 1) := by decide +kernel
theorem dX7_turns_23 : decode cX7_turns 23 = .ok (.iadd, 1) := by decide +kernel
theorem dX7_turns_24 : decode cX7_turns 24 = .ok (.iaload, 1) := by decide +kernel
theorem dX7_turns_25 : decode cX7_turns 25 = .ok (.if_icmp .le 9, 3) := by decide +kernel
theorem dX7_turns_28 : decode cX7_turns 28 = .ok (.iinc 1 (-1), 3) := by decide +kernel
theorem dX7_turns_31 : decode cX7_turns 31 = .ok (.goto (-24), 3) := by decide +kernel
theorem dX7_turns_34 : decode cX7_turns 34 = .ok (.iload_n 1, 1) := by decide +kernel
theorem dX7_turns_35 : decode cX7_turns 35 = .ok (.ifCond .ge 5, 3) := by decide +kernel
theorem dX7_turns_38 : decode cX7_turns 38 = .ok (.iconst 0, 1) := by decide +kernel
theorem dX7_turns_39 : decode cX7_turns 39 = .ok (.ireturn, 1) := by decide +kernel
theorem dX7_turns_40 : decode cX7_turns 40 = .ok (.aload_n 0, 1) := by decide +kernel
theorem dX7_turns_41 : decode cX7_turns 41 = .ok (.getfield 145, 3) := by decide +kernel
theorem dX7_turns_44 : decode cX7_turns 44 = .ok (.iconst 1, 1) := by decide +kernel
theorem dX7_turns_45 : decode cX7_turns 45 = .ok (.isub, 1) := by decide +kernel
theorem dX7_turns_46 : decode cX7_turns 46 = .ok (.istore_n 2, 1) := by decide +kernel
theorem dX7_turns_47 : decode cX7_turns 47 = .ok (.aload_n 0, 1) := by decide +kernel
theorem dX7_turns_48 : decode cX7_turns 48 = .ok (.getfield 43, 3) := by decide +kernel
theorem dX7_turns_51 : decode cX7_turns 51 = .ok (.iload_n 2, 1) := by decide +kernel
theorem dX7_turns_52 : decode cX7_turns 52 = .ok (.iaload, 1) := by decide +kernel
theorem dX7_turns_53 : decode cX7_turns 53 = .ok (.aload_n 0, 1) := by decide +kernel
theorem dX7_turns_54 : decode cX7_turns 54 = .ok (.getfield 43, 3) := by decide +kernel
theorem dX7_turns_57 : decode cX7_turns 57 = .ok (.iload_n 1, 1) := by decide +kernel
theorem dX7_turns_58 : decode cX7_turns 58 = .ok (.iaload, 1) := by decide +kernel
theorem dX7_turns_59 : decode cX7_turns 59 = .ok (.if_icmp .ge 9, 3) := by decide +kernel
theorem dX7_turns_62 : decode cX7_turns 62 = .ok (.iinc 2 (-1), 3) := by decide +kernel
theorem dX7_turns_65 : decode cX7_turns 65 = .ok (.goto (-18), 3) := by decide +kernel
theorem dX7_turns_68 : decode cX7_turns 68 = .ok (.aload_n 0, 1) := by decide +kernel
theorem dX7_turns_69 : decode cX7_turns 69 = .ok (.getfield 43, 3) := by decide +kernel
theorem dX7_turns_72 : decode cX7_turns 72 = .ok (.iload_n 1, 1) := by decide +kernel
theorem dX7_turns_73 : decode cX7_turns 73 = .ok (.iaload, 1) := by decide +kernel
theorem dX7_turns_74 : decode cX7_turns 74 = .ok (.istore_n 3, 1) := by decide +kernel
theorem dX7_turns_75 : decode cX7_turns 75 = .ok (.aload_n 0, 1) := by decide +kernel
theorem dX7_turns_76 : decode cX7_turns 76 = .ok (.getfield 43, 3) := by decide +kernel
theorem dX7_turns_79 : decode cX7_turns 79 = .ok (.iload_n 1, 1) := by decide +kernel
theorem dX7_turns_80 : decode cX7_turns 80 = .ok (.aload_n 0, 1) := by decide +kernel
theorem dX7_turns_81 : decode cX7_turns 81 = .ok (.getfield 43, 3) := by decide +kernel
theorem dX7_turns_84 : decode cX7_turns 84 = .ok (.iload_n 2, 1) := by decide +kernel
theorem dX7_turns_85 : decode cX7_turns 85 = .ok (.iaload, 1) := by decide +kernel
theorem dX7_turns_86 : decode cX7_turns 86 = .ok (.iastore, 1) := by decide +kernel
theorem dX7_turns_87 : decode cX7_turns 87 = .ok (.aload_n 0, 1) := by decide +kernel
theorem dX7_turns_88 : decode cX7_turns 88 = .ok (.getfield 43, 3) := by decide +kernel
theorem dX7_turns_91 : decode cX7_turns 91 = .ok (.iload_n 2, 1) := by decide +kernel
theorem dX7_turns_92 : decode cX7_turns 92 = .ok (.iload_n 3, 1) := by decide +kernel
theorem dX7_turns_93 : decode cX7_turns 93 = .ok (.iastore, 1) := by decide +kernel
theorem dX7_turns_94 : decode cX7_turns 94 = .ok (.iload_n 1, 1) := by decide +kernel
theorem dX7_turns_95 : decode cX7_turns 95 = .ok (.iconst 1, 1) := by decide +kernel
theorem dX7_turns_96 : decode cX7_turns 96 = .ok (.iadd, 1) := by decide +kernel
theorem dX7_turns_97 : decode cX7_turns 97 = .ok (.istore 4, 2) := by decide +kernel
theorem dX7_turns_99 : decode cX7_turns 99 = .ok (.aload_n 0, 1) := by decide +kernel
theorem dX7_turns_100 : decode cX7_turns 100 = .ok (.getfield 145, 3) := by decide +kernel
theorem dX7_turns_103 : decode cX7_turns 103 = .ok (.iconst 1, 1) := by decide +kernel
theorem dX7_turns_104 : decode cX7_turns 104 = .ok (.isub, 1) := by decide +kernel
theorem dX7_turns_105 : decode cX7_turns 105 = .ok (.istore 5, 2) := by decide +kernel
theorem dX7_turns_107 : decode cX7_turns 107 = .ok (.iload 4, 2) := by decide +kernel
theorem dX7_turns_109 : decode cX7_turns 109 = .ok (.iload 5, 2) := by decide +kernel
theorem dX7_turns_111 : decode cX7_turns 111 = .ok (.if_icmp .ge 42, 3) := by decide +kernel
theorem dX7_turns_114 : decode cX7_turns 114 = .ok (.aload_n 0, 1) := by decide +kernel
theorem dX7_turns_115 : decode cX7_turns 115 = .ok (.getfield 43, 3) := by decide +kernel
theorem dX7_turns_118 : decode cX7_turns 118 = .ok (.iload 4, 2) := by decide +kernel
theorem dX7_turns_120 : decode cX7_turns 120 = .ok (.iaload, 1) := by decide +kernel
theorem dX7_turns_121 : decode cX7_turns 121 = .ok (.istore_n 3, 1) := by decide +kernel
theorem dX7_turns_122 : decode cX7_turns 122 = .ok (.aload_n 0, 1) := by decide +kernel
theorem dX7_turns_123 : decode cX7_turns 123 = .ok (.getfield 43, 3) := by decide +kernel
theorem dX7_turns_126 : decode cX7_turns 126 = .ok (.iload 4, 2) := by decide +kernel
theorem dX7_turns_128 : decode cX7_turns 128 = .ok (.aload_n 0, 1) := by decide +kernel
theorem dX7_turns_129 : decode cX7_turns 129 = .ok (.getfield 43, 3) := by decide +kernel
theorem dX7_turns_132 : decode cX7_turns 132 = .ok (.iload 5, 2) := by decide +kernel
theorem dX7_turns_134 : decode cX7_turns 134 = .ok (.iaload, 1) := by decide +kernel
theorem dX7_turns_135 : decode cX7_turns 135 = .ok (.iastore, 1) := by decide +kernel
theorem dX7_turns_136 : decode cX7_turns 136 = .ok (.aload_n 0, 1) := by decide +kernel
theorem dX7_turns_137 : decode cX7_turns 137 = .ok (.getfield 43, 3) := by decide +kernel
theorem dX7_turns_140 : decode cX7_turns 140 = .ok (.iload 5, 2) := by decide +kernel
theorem dX7_turns_142 : decode cX7_turns 142 = .ok (.iload_n 3, 1) := by decide +kernel
theorem dX7_turns_143 : decode cX7_turns 143 = .ok (.iastore, 1) := by decide +kernel
theorem dX7_turns_144 : decode cX7_turns 144 = .ok (.iinc 4 1, 3) := by decide +kernel
theorem dX7_turns_147 : decode cX7_turns 147 = .ok (.iinc 5 (-1), 3) := by decide +kernel
theorem dX7_turns_150 : decode cX7_turns 150 = .ok (.goto (-43), 3) := by decide +kernel
theorem dX7_turns_153 : decode cX7_turns 153 = .ok (.iconst 1, 1) := by decide +kernel
theorem dX7_turns_154 : decode cX7_turns 154 = .ok (.ireturn, 1) := by decide +kernel
theorem dX7_orders_0 : decode cX7_orders 0 = .ok (.iload_n 1, 1) := by decide +kernel
theorem dX7_orders_1 : decode cX7_orders 1 = .ok (.invokestatic 120, 3) := by decide +kernel
theorem dX7_orders_4 : decode cX7_orders 4 = .ok (.ifCond .eq 16, 3) := by decide +kernel
theorem dX7_orders_7 : decode cX7_orders 7 = .ok (.iload_n 2, 1) := by decide +kernel
theorem dX7_orders_8 : decode cX7_orders 8 = .ok (.iconst (-1), 1) := by decide +kernel
theorem dX7_orders_9 : decode cX7_orders 9 = .ok (.if_icmp .eq 14, 3) := by decide +kernel
theorem dX7_orders_12 : decode cX7_orders 12 = .ok (.aload_n 0, 1) := by decide +kernel
theorem dX7_orders_13 : decode cX7_orders 13 = .ok (.iload_n 2, 1) := by decide +kernel
theorem dX7_orders_14 : decode cX7_orders 14 = .ok (.invokevirtual 111, 3) := by decide +kernel
theorem dX7_orders_17 : decode cX7_orders 17 = .ok (.ifCond .ne 6, 3) := by decide +kernel
theorem dX7_orders_20 : decode cX7_orders 20 = .ok (.bipush (-2), 2) := by decide +kernel
theorem dX7_orders_22 : decode cX7_orders 22 = .ok (.ireturn, 1) := by decide +kernel
theorem dX7_orders_23 : decode cX7_orders 23 = .ok (.aload_n 0, 1) := by decide +kernel
theorem dX7_orders_24 : decode cX7_orders 24 = .ok (.iload_n 1, 1) := by decide +kernel
theorem dX7_orders_25 : decode cX7_orders 25 = .ok (.invokevirtual 133, 3) := by decide +kernel
theorem dX7_orders_28 : decode cX7_orders 28 = .ok (.aload_n 0, 1) := by decide +kernel
theorem dX7_orders_29 : decode cX7_orders 29 = .ok (.invokevirtual 114, 3) := by decide +kernel
theorem dX7_orders_32 : decode cX7_orders 32 = .ok (.aload_n 0, 1) := by decide +kernel
theorem dX7_orders_33 : decode cX7_orders 33 = .ok (.aload_n 0, 1) := by decide +kernel
theorem dX7_orders_34 : decode cX7_orders 34 = .ok (.invokevirtual 162, 3) := by decide +kernel
theorem dX7_orders_37 : decode cX7_orders 37 = .ok (.invokevirtual 165, 3) := by decide +kernel
theorem dX7_orders_40 : decode cX7_orders 40 = .ok (.aload_n 0, 1) := by decide +kernel
theorem dX7_orders_41 : decode cX7_orders 41 = .ok (.getfield 145, 3) := by decide +kernel
theorem dX7_orders_44 : decode cX7_orders 44 = .ok (.bipush 7, 2) := by decide +kernel
theorem dX7_orders_46 : decode cX7_orders 46 = .ok (.if_icmp .le 6, 3) := by decide +kernel
theorem dX7_orders_49 : decode cX7_orders 49 = .ok (.bipush (-4), 2) := by decide +kernel
theorem dX7_orders_51 : decode cX7_orders 51 = .ok (.ireturn, 1) := by decide +kernel
theorem dX7_orders_52 : decode cX7_orders 52 = .ok (.iconst 0, 1) := by decide +kernel
theorem dX7_orders_53 : decode cX7_orders 53 = .ok (.istore_n 3, 1) := by decide +kernel
theorem dX7_orders_54 : decode cX7_orders 54 = .ok (.iconst 1, 1) := by decide +kernel
theorem dX7_orders_55 : decode cX7_orders 55 = .ok (.istore 4, 2) := by decide +kernel
theorem dX7_orders_57 : decode cX7_orders 57 = .ok (.iload 4, 2) := by decide +kernel
theorem dX7_orders_59 : decode cX7_orders 59 = .ok (.ifCond .eq 41, 3) := by decide +kernel
theorem dX7_orders_62 : decode cX7_orders 62 = .ok (.aload_n 0, 1) := by decide +kernel
theorem dX7_orders_63 : decode cX7_orders 63 = .ok (.iload_n 1, 1) := by decide +kernel
theorem dX7_orders_64 : decode cX7_orders 64 = .ok (.invokevirtual 168, 3) := by decide +kernel
theorem dX7_orders_67 : decode cX7_orders 67 = .ok (.iload_n 3, 1) := by decide +kernel
theorem dX7_orders_68 : decode cX7_orders 68 = .ok (.iload_n 2, 1) := by decide +kernel
theorem dX7_orders_69 : decode cX7_orders 69 = .ok (.iconst (-1), 1) := by decide +kernel
theorem dX7_orders_70 : decode cX7_orders 70 = .ok (.if_icmp .eq 14, 3) := by decide +kernel
theorem dX7_orders_73 : decode cX7_orders 73 = .ok (.aload_n 0, 1) := by decide +kernel
theorem dX7_orders_74 : decode cX7_orders 74 = .ok (.getfield 136, 3) := by decide +kernel
theorem dX7_orders_77 : decode cX7_orders 77 = .ok (.iload_n 2, 1) := by decide +kernel
theorem dX7_orders_78 : decode cX7_orders 78 = .ok (.invokestatic 151, 3) := by decide +kernel
theorem dX7_orders_81 : decode cX7_orders 81 = .ok (.ifCond .eq 7, 3) := by decide +kernel
theorem dX7_orders_84 : decode cX7_orders 84 = .ok (.iconst 1, 1) := by decide +kernel
theorem dX7_orders_85 : decode cX7_orders 85 = .ok (.goto 4, 3) := by decide +kernel
theorem dX7_orders_88 : decode cX7_orders 88 = .ok (.iconst 0, 1) := by decide +kernel
theorem dX7_orders_89 : decode cX7_orders 89 = .ok (.iadd, 1) := by decide +kernel
theorem dX7_orders_90 : decode cX7_orders 90 = .ok (.istore_n 3, 1) := by decide +kernel
theorem dX7_orders_91 : decode cX7_orders 91 = .ok (.aload_n 0, 1) := by decide +kernel
theorem dX7_orders_92 : decode cX7_orders 92 = .ok (.invokevirtual 183, 3) := by decide +kernel
theorem dX7_orders_95 : decode cX7_orders 95 = .ok (.istore 4, 2) := by decide +kernel
theorem dX7_orders_97 : decode cX7_orders 97 = .ok (.goto (-40), 3) := by decide +kernel
theorem dX7_orders_100 : decode cX7_orders 100 = .ok (.iload_n 3, 1) := by decide +kernel
theorem dX7_orders_101 : decode cX7_orders 101 = .ok (.ireturn, 1) := by decide +kernel
theorem dX7_hits_0 : decode cX7_hits 0 = .ok (.aload_n 0, 1) := by decide +kernel
theorem dX7_hits_1 : decode cX7_hits 1 = .ok (.getfield 104, 3) := by decide +kernel
theorem dX7_hits_4 : decode cX7_hits 4 = .ok (.iload_n 1, 1) := by decide +kernel
theorem dX7_hits_5 : decode cX7_hits 5 = .ok (.invokestatic 151, 3) := by decide +kernel
theorem dX7_hits_8 : decode cX7_hits 8 = .ok (.ifCond .eq 15, 3) := by decide +kernel
theorem dX7_hits_11 : decode cX7_hits 11 = .ok (.aload_n 0, 1) := by decide +kernel
theorem dX7_hits_12 : decode cX7_hits 12 = .ok (.getfield 28, 3) := by decide +kernel
theorem dX7_hits_15 : decode cX7_hits 15 = .ok (.iload_n 1, 1) := by decide +kernel
theorem dX7_hits_16 : decode cX7_hits 16 = .ok (.iaload, 1) := by decide +kernel
theorem dX7_hits_17 : decode cX7_hits 17 = .ok (.iload_n 2, 1) := by decide +kernel
theorem dX7_hits_18 : decode cX7_hits 18 = .ok (.if_icmp .ne 5, 3) := by decide +kernel
theorem dX7_hits_21 : decode cX7_hits 21 = .ok (.iconst 1, 1) := by decide +kernel
theorem dX7_hits_22 : decode cX7_hits 22 = .ok (.ireturn, 1) := by decide +kernel
theorem dX7_hits_23 : decode cX7_hits 23 = .ok (.aload_n 0, 1) := by decide +kernel
theorem dX7_hits_24 : decode cX7_hits 24 = .ok (.iload_n 1, 1) := by decide +kernel
theorem dX7_hits_25 : decode cX7_hits 25 = .ok (.iload_n 2, 1) := by decide +kernel
theorem dX7_hits_26 : decode cX7_hits 26 = .ok (.invokevirtual 155, 3) := by decide +kernel
theorem dX7_hits_29 : decode cX7_hits 29 = .ok (.ifCond .ne 5, 3) := by decide +kernel
theorem dX7_hits_32 : decode cX7_hits 32 = .ok (.iconst 0, 1) := by decide +kernel
theorem dX7_hits_33 : decode cX7_hits 33 = .ok (.ireturn, 1) := by decide +kernel
theorem dX7_hits_34 : decode cX7_hits 34 = .ok (.aload_n 0, 1) := by decide +kernel
theorem dX7_hits_35 : decode cX7_hits 35 = .ok (.getfield 19, 3) := by decide +kernel
theorem dX7_hits_38 : decode cX7_hits 38 = .ok (.iload_n 1, 1) := by decide +kernel
theorem dX7_hits_39 : decode cX7_hits 39 = .ok (.iaload, 1) := by decide +kernel
theorem dX7_hits_40 : decode cX7_hits 40 = .ok (.invokestatic 148, 3) := by decide +kernel
theorem dX7_hits_43 : decode cX7_hits 43 = .ok (.istore 4, 2) := by decide +kernel
theorem dX7_hits_45 : decode cX7_hits 45 = .ok (.aload_n 0, 1) := by decide +kernel
theorem dX7_hits_46 : decode cX7_hits 46 = .ok (.getfield 19, 3) := by decide +kernel
theorem dX7_hits_49 : decode cX7_hits 49 = .ok (.iload_n 2, 1) := by decide +kernel
theorem dX7_hits_50 : decode cX7_hits 50 = .ok (.iaload, 1) := by decide +kernel
theorem dX7_hits_51 : decode cX7_hits 51 = .ok (.invokestatic 148, 3) := by decide +kernel
theorem dX7_hits_54 : decode cX7_hits 54 = .ok (.istore 5, 2) := by decide +kernel
theorem dX7_hits_56 : decode cX7_hits 56 = .ok (.iload_n 3, 1) := by decide +kernel
theorem dX7_hits_57 : decode cX7_hits 57 = .ok (.ifCond .eq 25, 3) := by decide +kernel
theorem dX7_hits_60 : decode cX7_hits 60 = .ok (.iload_n 3, 1) := by decide +kernel
theorem dX7_hits_61 : decode cX7_hits 61 = .ok (.iconst 1, 1) := by decide +kernel
theorem dX7_hits_62 : decode cX7_hits 62 = .ok (.if_icmp .ne 8, 3) := by decide +kernel
theorem dX7_hits_65 : decode cX7_hits 65 = .ok (.iload_n 1, 1) := by decide +kernel
theorem dX7_hits_66 : decode cX7_hits 66 = .ok (.iload_n 2, 1) := by decide +kernel
theorem dX7_hits_67 : decode cX7_hits 67 = .ok (.if_icmp .lt 15, 3) := by decide +kernel
theorem dX7_hits_70 : decode cX7_hits 70 = .ok (.iload_n 3, 1) := by decide +kernel
theorem dX7_hits_71 : decode cX7_hits 71 = .ok (.iconst 2, 1) := by decide +kernel
theorem dX7_hits_72 : decode cX7_hits 72 = .ok (.if_icmp .ne 14, 3) := by decide +kernel
theorem dX7_hits_75 : decode cX7_hits 75 = .ok (.iload 4, 2) := by decide +kernel
theorem dX7_hits_77 : decode cX7_hits 77 = .ok (.iload 5, 2) := by decide +kernel
theorem dX7_hits_79 : decode cX7_hits 79 = .ok (.if_icmp .lt 7, 3) := by decide +kernel
theorem dX7_hits_82 : decode cX7_hits 82 = .ok (.iconst 1, 1) := by decide +kernel
theorem dX7_hits_83 : decode cX7_hits 83 = .ok (.goto 4, 3) := by decide +kernel
theorem dX7_hits_86 : decode cX7_hits 86 = .ok (.iconst 0, 1) := by decide +kernel
theorem dX7_hits_87 : decode cX7_hits 87 = .ok (.ireturn, 1) := by decide +kernel
theorem dX7_meetsAll_0 : decode cX7_meetsAll 0 = .ok (.aload_n 0, 1) := by decide +kernel
theorem dX7_meetsAll_1 : decode cX7_meetsAll 1 = .ok (.iload_n 1, 1) := by decide +kernel
theorem dX7_meetsAll_2 : decode cX7_meetsAll 2 = .ok (.invokevirtual 133, 3) := by decide +kernel
theorem dX7_meetsAll_5 : decode cX7_meetsAll 5 = .ok (.aload_n 0, 1) := by decide +kernel
theorem dX7_meetsAll_6 : decode cX7_meetsAll 6 = .ok (.invokevirtual 114, 3) := by decide +kernel
theorem dX7_meetsAll_9 : decode cX7_meetsAll 9 = .ok (.aload_n 0, 1) := by decide +kernel
theorem dX7_meetsAll_10 : decode cX7_meetsAll 10 = .ok (.iconst 0, 1) := by decide +kernel
theorem dX7_meetsAll_11 : decode cX7_meetsAll 11 = .ok (.putfield 187, 3) := by decide +kernel
theorem dX7_meetsAll_14 : decode cX7_meetsAll 14 = .ok (.iconst 0, 1) := by decide +kernel
theorem dX7_meetsAll_15 : decode cX7_meetsAll 15 = .ok (.istore_n 3, 1) := by decide +kernel
theorem dX7_meetsAll_16 : decode cX7_meetsAll 16 = .ok (.iload_n 3, 1) := by decide +kernel
theorem dX7_meetsAll_17 : decode cX7_meetsAll 17 = .ok (.aload_n 0, 1) := by decide +kernel
theorem dX7_meetsAll_18 : decode cX7_meetsAll 18 = .ok (.getfield 82, 3) := by decide +kernel
theorem dX7_meetsAll_21 : decode cX7_meetsAll 21 = .ok (.if_icmp .ge 53, 3) := by decide +kernel
theorem dX7_meetsAll_24 : decode cX7_meetsAll 24 = .ok (.aload_n 0, 1) := by decide +kernel
theorem dX7_meetsAll_25 : decode cX7_meetsAll 25 = .ok (.dup, 1) := by decide +kernel
theorem dX7_meetsAll_26 : decode cX7_meetsAll 26 = .ok (.getfield 187, 3) := by decide +kernel
theorem dX7_meetsAll_29 : decode cX7_meetsAll 29 = .ok (.iload_n 2, 1) := by decide +kernel
theorem dX7_meetsAll_30 : decode cX7_meetsAll 30 = .ok (.iload_n 3, 1) := by decide +kernel
theorem dX7_meetsAll_31 : decode cX7_meetsAll 31 = .ok (.invokestatic 151, 3) := by decide +kernel
theorem dX7_meetsAll_34 : decode cX7_meetsAll 34 = .ok (.ifCond .eq 29, 3) := by decide +kernel
theorem dX7_meetsAll_37 : decode cX7_meetsAll 37 = .ok (.aload_n 0, 1) := by decide +kernel
theorem dX7_meetsAll_38 : decode cX7_meetsAll 38 = .ok (.getfield 19, 3) := by decide +kernel
theorem dX7_meetsAll_41 : decode cX7_meetsAll 41 = .ok (.iload_n 3, 1) := by decide +kernel
theorem dX7_meetsAll_42 : decode cX7_meetsAll 42 = .ok (.iaload, 1) := by decide +kernel
theorem dX7_meetsAll_43 : decode cX7_meetsAll 43 = .ok (.invokestatic 148, 3) := by decide +kernel
theorem dX7_meetsAll_46 : decode cX7_meetsAll 46 = .ok (.aload_n 0, 1) := by decide +kernel
theorem dX7_meetsAll_47 : decode cX7_meetsAll 47 = .ok (.getfield 40, 3) := by decide +kernel
theorem dX7_meetsAll_50 : decode cX7_meetsAll 50 = .ok (.iconst 4, 1) := by decide +kernel
theorem dX7_meetsAll_51 : decode cX7_meetsAll 51 = .ok (.iload_n 1, 1) := by decide +kernel
theorem dX7_meetsAll_52 : decode cX7_meetsAll 52 = .ok (.imul, 1) := by decide +kernel
theorem dX7_meetsAll_53 : decode cX7_meetsAll 53 = .ok (.iaload, 1) := by decide +kernel
theorem dX7_meetsAll_54 : decode cX7_meetsAll 54 = .ok (.if_icmp .lt 9, 3) := by decide +kernel
theorem dX7_meetsAll_57 : decode cX7_meetsAll 57 = .ok (.iconst 1, 1) := by decide +kernel
theorem dX7_meetsAll_58 : decode cX7_meetsAll 58 = .ok (.iload_n 3, 1) := by decide +kernel
theorem dX7_meetsAll_59 : decode cX7_meetsAll 59 = .ok (.ishl, 1) := by decide +kernel
theorem dX7_meetsAll_60 : decode cX7_meetsAll 60 = .ok (.goto 4, 3) := by decide +kernel
theorem dX7_meetsAll_63 : decode cX7_meetsAll 63 = .ok (.iconst 0, 1) := by decide +kernel
theorem dX7_meetsAll_64 : decode cX7_meetsAll 64 = .ok (.ior, 1) := by decide +kernel
theorem dX7_meetsAll_65 : decode cX7_meetsAll 65 = .ok (.putfield 187, 3) := by decide +kernel
theorem dX7_meetsAll_68 : decode cX7_meetsAll 68 = .ok (.iinc 3 1, 3) := by decide +kernel
theorem dX7_meetsAll_71 : decode cX7_meetsAll 71 = .ok (.goto (-55), 3) := by decide +kernel
theorem dX7_meetsAll_74 : decode cX7_meetsAll 74 = .ok (.iconst 0, 1) := by decide +kernel
theorem dX7_meetsAll_75 : decode cX7_meetsAll 75 = .ok (.istore_n 3, 1) := by decide +kernel
theorem dX7_meetsAll_76 : decode cX7_meetsAll 76 = .ok (.iload_n 3, 1) := by decide +kernel
theorem dX7_meetsAll_77 : decode cX7_meetsAll 77 = .ok (.aload_n 0, 1) := by decide +kernel
theorem dX7_meetsAll_78 : decode cX7_meetsAll 78 = .ok (.getfield 82, 3) := by decide +kernel
theorem dX7_meetsAll_81 : decode cX7_meetsAll 81 = .ok (.if_icmp .ge 112, 3) := by decide +kernel
theorem dX7_meetsAll_84 : decode cX7_meetsAll 84 = .ok (.aload_n 0, 1) := by decide +kernel
theorem dX7_meetsAll_85 : decode cX7_meetsAll 85 = .ok (.getfield 46, 3) := by decide +kernel
theorem dX7_meetsAll_88 : decode cX7_meetsAll 88 = .ok (.iload_n 3, 1) := by decide +kernel
theorem dX7_meetsAll_89 : decode cX7_meetsAll 89 = .ok (.iconst 0, 1) := by decide +kernel
theorem dX7_meetsAll_90 : decode cX7_meetsAll 90 = .ok (.iastore, 1) := by decide +kernel
theorem dX7_meetsAll_91 : decode cX7_meetsAll 91 = .ok (.iconst 0, 1) := by decide +kernel
theorem dX7_meetsAll_92 : decode cX7_meetsAll 92 = .ok (.istore 4, 2) := by decide +kernel
theorem dX7_meetsAll_94 : decode cX7_meetsAll 94 = .ok (.iload 4, 2) := by decide +kernel
theorem dX7_meetsAll_96 : decode cX7_meetsAll 96 = .ok (.aload_n 0, 1) := by decide +kernel
theorem dX7_meetsAll_97 : decode cX7_meetsAll 97 = .ok (.getfield 82, 3) := by decide +kernel
theorem dX7_meetsAll_100 : decode cX7_meetsAll 100 = .ok (.if_icmp .ge 87, 3) := by decide +kernel
theorem dX7_meetsAll_103 : decode cX7_meetsAll 103 = .ok (.iload 4, 2) := by decide +kernel
theorem dX7_meetsAll_105 : decode cX7_meetsAll 105 = .ok (.iload_n 3, 1) := by decide +kernel
theorem dX7_meetsAll_106 : decode cX7_meetsAll 106 = .ok (.if_icmp .eq 30, 3) := by decide +kernel
theorem dX7_meetsAll_109 : decode cX7_meetsAll 109 = .ok (.aload_n 0, 1) := by decide +kernel
theorem dX7_meetsAll_110 : decode cX7_meetsAll 110 = .ok (.getfield 187, 3) := by decide +kernel
theorem dX7_meetsAll_113 : decode cX7_meetsAll 113 = .ok (.iload_n 3, 1) := by decide +kernel
theorem dX7_meetsAll_114 : decode cX7_meetsAll 114 = .ok (.invokestatic 151, 3) := by decide +kernel
theorem dX7_meetsAll_117 : decode cX7_meetsAll 117 = .ok (.ifCond .eq 19, 3) := by decide +kernel
theorem dX7_meetsAll_120 : decode cX7_meetsAll 120 = .ok (.aload_n 0, 1) := by decide +kernel
theorem dX7_meetsAll_121 : decode cX7_meetsAll 121 = .ok (.getfield 187, 3) := by decide +kernel
theorem dX7_meetsAll_124 : decode cX7_meetsAll 124 = .ok (.iload 4, 2) := by decide +kernel
theorem dX7_meetsAll_126 : decode cX7_meetsAll 126 = .ok (.invokestatic 151, 3) := by decide +kernel
theorem dX7_meetsAll_129 : decode cX7_meetsAll 129 = .ok (.ifCond .eq 7, 3) := by decide +kernel
theorem dX7_meetsAll_132 : decode cX7_meetsAll 132 = .ok (.iconst 1, 1) := by decide +kernel
theorem dX7_meetsAll_133 : decode cX7_meetsAll 133 = .ok (.goto 4, 3) := by decide +kernel
theorem dX7_meetsAll_136 : decode cX7_meetsAll 136 = .ok (.iconst 0, 1) := by decide +kernel
theorem dX7_meetsAll_137 : decode cX7_meetsAll 137 = .ok (.istore 5, 2) := by decide +kernel
theorem dX7_meetsAll_139 : decode cX7_meetsAll 139 = .ok (.aload_n 0, 1) := by decide +kernel
theorem dX7_meetsAll_140 : decode cX7_meetsAll 140 = .ok (.getfield 46, 3) := by decide +kernel
theorem dX7_meetsAll_143 : decode cX7_meetsAll 143 = .ok (.iload_n 3, 1) := by decide +kernel
theorem dX7_meetsAll_144 : decode cX7_meetsAll 144 = .ok (.dup2, 1) := by decide +kernel
theorem dX7_meetsAll_145 : decode cX7_meetsAll 145 = .ok (.iaload, 1) := by decide +kernel
theorem dX7_meetsAll_146 : decode cX7_meetsAll 146 = .ok (.iload 5, 2) := by decide +kernel
theorem dX7_meetsAll_148 : decode cX7_meetsAll 148 = .ok (.ifCond .eq 30, 3) := by decide +kernel
theorem dX7_meetsAll_151 : decode cX7_meetsAll 151 = .ok (.aload_n 0, 1) := by decide +kernel
theorem dX7_meetsAll_152 : decode cX7_meetsAll 152 = .ok (.iload 4, 2) := by decide +kernel
theorem dX7_meetsAll_154 : decode cX7_meetsAll 154 = .ok (.iload_n 3, 1) := by decide +kernel
theorem dX7_meetsAll_155 : decode cX7_meetsAll 155 = .ok (.aload_n 0, 1) := by decide +kernel
theorem dX7_meetsAll_156 : decode cX7_meetsAll 156 = .ok (.getfield 40, 3) := by decide +kernel
theorem dX7_meetsAll_159 : decode cX7_meetsAll 159 = .ok (.iconst 4, 1) := by decide +kernel
theorem dX7_meetsAll_160 : decode cX7_meetsAll 160 = .ok (.iload_n 1, 1) := by decide +kernel
theorem dX7_meetsAll_161 : decode cX7_meetsAll 161 = .ok (.imul, 1) := by decide +kernel
theorem dX7_meetsAll_162 : decode cX7_meetsAll 162 = .ok (.iconst 1, 1) := by decide +kernel
theorem dX7_meetsAll_163 : decode cX7_meetsAll 163 = .ok (.iadd, 1) := by decide +kernel
theorem dX7_meetsAll_164 : decode cX7_meetsAll 164 = .ok (.iaload, 1) := by decide +kernel
theorem dX7_meetsAll_165 : decode cX7_meetsAll 165 = .ok (.invokevirtual 190, 3) := by decide +kernel
theorem dX7_meetsAll_168 : decode cX7_meetsAll 168 = .ok (.ifCond .eq 10, 3) := by decide +kernel
theorem dX7_meetsAll_171 : decode cX7_meetsAll 171 = .ok (.iconst 1, 1) := by decide +kernel
theorem dX7_meetsAll_172 : decode cX7_meetsAll 172 = .ok (.iload 4, 2) := by decide +kernel
theorem dX7_meetsAll_174 : decode cX7_meetsAll 174 = .ok (.ishl, 1) := by decide +kernel
theorem dX7_meetsAll_175 : decode cX7_meetsAll 175 = .ok (.goto 4, 3) := by decide +kernel
theorem dX7_meetsAll_178 : decode cX7_meetsAll 178 = .ok (.iconst 0, 1) := by decide +kernel
theorem dX7_meetsAll_179 : decode cX7_meetsAll 179 = .ok (.ior, 1) := by decide +kernel
theorem dX7_meetsAll_180 : decode cX7_meetsAll 180 = .ok (.iastore, 1) := by decide +kernel
theorem dX7_meetsAll_181 : decode cX7_meetsAll 181 = .ok (.iinc 4 1, 3) := by decide +kernel
theorem dX7_meetsAll_184 : decode cX7_meetsAll 184 = .ok (.goto (-90), 3) := by decide +kernel
theorem dX7_meetsAll_187 : decode cX7_meetsAll 187 = .ok (.iinc 3 1, 3) := by decide +kernel
theorem dX7_meetsAll_190 : decode cX7_meetsAll 190 = .ok (.goto (-114), 3) := by decide +kernel
theorem dX7_meetsAll_193 : decode cX7_meetsAll 193 = .ok (.return_, 1) := by decide +kernel
theorem dX7_strikes_0 : decode cX7_strikes 0 = .ok (.iload_n 1, 1) := by decide +kernel
theorem dX7_strikes_1 : decode cX7_strikes 1 = .ok (.invokestatic 120, 3) := by decide +kernel
theorem dX7_strikes_4 : decode cX7_strikes 4 = .ok (.ifCond .eq 19, 3) := by decide +kernel
theorem dX7_strikes_7 : decode cX7_strikes 7 = .ok (.aload_n 0, 1) := by decide +kernel
theorem dX7_strikes_8 : decode cX7_strikes 8 = .ok (.iload_n 2, 1) := by decide +kernel
theorem dX7_strikes_9 : decode cX7_strikes 9 = .ok (.invokevirtual 111, 3) := by decide +kernel
theorem dX7_strikes_12 : decode cX7_strikes 12 = .ok (.ifCond .eq 11, 3) := by decide +kernel
theorem dX7_strikes_15 : decode cX7_strikes 15 = .ok (.aload_n 0, 1) := by decide +kernel
theorem dX7_strikes_16 : decode cX7_strikes 16 = .ok (.iload_n 3, 1) := by decide +kernel
theorem dX7_strikes_17 : decode cX7_strikes 17 = .ok (.invokevirtual 111, 3) := by decide +kernel
theorem dX7_strikes_20 : decode cX7_strikes 20 = .ok (.ifCond .ne 6, 3) := by decide +kernel
theorem dX7_strikes_23 : decode cX7_strikes 23 = .ok (.bipush (-2), 2) := by decide +kernel
theorem dX7_strikes_25 : decode cX7_strikes 25 = .ok (.ireturn, 1) := by decide +kernel
theorem dX7_strikes_26 : decode cX7_strikes 26 = .ok (.aload_n 0, 1) := by decide +kernel
theorem dX7_strikes_27 : decode cX7_strikes 27 = .ok (.iload_n 1, 1) := by decide +kernel
theorem dX7_strikes_28 : decode cX7_strikes 28 = .ok (.aload_n 0, 1) := by decide +kernel
theorem dX7_strikes_29 : decode cX7_strikes 29 = .ok (.invokevirtual 162, 3) := by decide +kernel
theorem dX7_strikes_32 : decode cX7_strikes 32 = .ok (.invokevirtual 193, 3) := by decide +kernel
theorem dX7_strikes_35 : decode cX7_strikes 35 = .ok (.aload_n 0, 1) := by decide +kernel
theorem dX7_strikes_36 : decode cX7_strikes 36 = .ok (.getfield 46, 3) := by decide +kernel
theorem dX7_strikes_39 : decode cX7_strikes 39 = .ok (.iload_n 3, 1) := by decide +kernel
theorem dX7_strikes_40 : decode cX7_strikes 40 = .ok (.iaload, 1) := by decide +kernel
theorem dX7_strikes_41 : decode cX7_strikes 41 = .ok (.iload_n 2, 1) := by decide +kernel
theorem dX7_strikes_42 : decode cX7_strikes 42 = .ok (.ishr, 1) := by decide +kernel
theorem dX7_strikes_43 : decode cX7_strikes 43 = .ok (.iconst 1, 1) := by decide +kernel
theorem dX7_strikes_44 : decode cX7_strikes 44 = .ok (.iand, 1) := by decide +kernel
theorem dX7_strikes_45 : decode cX7_strikes 45 = .ok (.ireturn, 1) := by decide +kernel
theorem dX7_answers_0 : decode cX7_answers 0 = .ok (.iconst 0, 1) := by decide +kernel
theorem dX7_answers_1 : decode cX7_answers 1 = .ok (.istore_n 3, 1) := by decide +kernel
theorem dX7_answers_2 : decode cX7_answers 2 = .ok (.iload_n 3, 1) := by decide +kernel
theorem dX7_answers_3 : decode cX7_answers 3 = .ok (.aload_n 0, 1) := by decide +kernel
theorem dX7_answers_4 : decode cX7_answers 4 = .ok (.getfield 82, 3) := by decide +kernel
theorem dX7_answers_7 : decode cX7_answers 7 = .ok (.if_icmp .ge 35, 3) := by decide +kernel
theorem dX7_answers_10 : decode cX7_answers 10 = .ok (.aload_n 0, 1) := by decide +kernel
theorem dX7_answers_11 : decode cX7_answers 11 = .ok (.getfield 46, 3) := by decide +kernel
theorem dX7_answers_14 : decode cX7_answers 14 = .ok (.iload_n 2, 1) := by decide +kernel
theorem dX7_answers_15 : decode cX7_answers 15 = .ok (.iaload, 1) := by decide +kernel
theorem dX7_answers_16 : decode cX7_answers 16 = .ok (.iload_n 3, 1) := by decide +kernel
theorem dX7_answers_17 : decode cX7_answers 17 = .ok (.invokestatic 151, 3) := by decide +kernel
theorem dX7_answers_20 : decode cX7_answers 20 = .ok (.ifCond .eq 16, 3) := by decide +kernel
theorem dX7_answers_23 : decode cX7_answers 23 = .ok (.aload_n 0, 1) := by decide +kernel
theorem dX7_answers_24 : decode cX7_answers 24 = .ok (.getfield 46, 3) := by decide +kernel
theorem dX7_answers_27 : decode cX7_answers 27 = .ok (.iload_n 3, 1) := by decide +kernel
theorem dX7_answers_28 : decode cX7_answers 28 = .ok (.iaload, 1) := by decide +kernel
theorem dX7_answers_29 : decode cX7_answers 29 = .ok (.iload_n 1, 1) := by decide +kernel
theorem dX7_answers_30 : decode cX7_answers 30 = .ok (.iand, 1) := by decide +kernel
theorem dX7_answers_31 : decode cX7_answers 31 = .ok (.ifCond .ne 5, 3) := by decide +kernel
theorem dX7_answers_34 : decode cX7_answers 34 = .ok (.iconst 0, 1) := by decide +kernel
theorem dX7_answers_35 : decode cX7_answers 35 = .ok (.ireturn, 1) := by decide +kernel
theorem dX7_answers_36 : decode cX7_answers 36 = .ok (.iinc 3 1, 3) := by decide +kernel
theorem dX7_answers_39 : decode cX7_answers 39 = .ok (.goto (-37), 3) := by decide +kernel
theorem dX7_answers_42 : decode cX7_answers 42 = .ok (.iconst 1, 1) := by decide +kernel
theorem dX7_answers_43 : decode cX7_answers 43 = .ok (.ireturn, 1) := by decide +kernel
theorem dX7_isSound_0 : decode cX7_isSound 0 = .ok (.iload_n 1, 1) := by decide +kernel
theorem dX7_isSound_1 : decode cX7_isSound 1 = .ok (.aload_n 0, 1) := by decide +kernel
theorem dX7_isSound_2 : decode cX7_isSound 2 = .ok (.getfield 187, 3) := by decide +kernel
theorem dX7_isSound_5 : decode cX7_isSound 5 = .ok (.iconst (-1), 1) := by decide +kernel
theorem dX7_isSound_6 : decode cX7_isSound 6 = .ok (.ixor, 1) := by decide +kernel
theorem dX7_isSound_7 : decode cX7_isSound 7 = .ok (.iand, 1) := by decide +kernel
theorem dX7_isSound_8 : decode cX7_isSound 8 = .ok (.ifCond .eq 5, 3) := by decide +kernel
theorem dX7_isSound_11 : decode cX7_isSound 11 = .ok (.iconst 0, 1) := by decide +kernel
theorem dX7_isSound_12 : decode cX7_isSound 12 = .ok (.ireturn, 1) := by decide +kernel
theorem dX7_isSound_13 : decode cX7_isSound 13 = .ok (.iconst 0, 1) := by decide +kernel
theorem dX7_isSound_14 : decode cX7_isSound 14 = .ok (.istore_n 2, 1) := by decide +kernel
theorem dX7_isSound_15 : decode cX7_isSound 15 = .ok (.iload_n 2, 1) := by decide +kernel
theorem dX7_isSound_16 : decode cX7_isSound 16 = .ok (.aload_n 0, 1) := by decide +kernel
theorem dX7_isSound_17 : decode cX7_isSound 17 = .ok (.getfield 82, 3) := by decide +kernel
theorem dX7_isSound_20 : decode cX7_isSound 20 = .ok (.if_icmp .ge 39, 3) := by decide +kernel
theorem dX7_isSound_23 : decode cX7_isSound 23 = .ok (.iload_n 1, 1) := by decide +kernel
theorem dX7_isSound_24 : decode cX7_isSound 24 = .ok (.iload_n 2, 1) := by decide +kernel
theorem dX7_isSound_25 : decode cX7_isSound 25 = .ok (.invokestatic 151, 3) := by decide +kernel
theorem dX7_isSound_28 : decode cX7_isSound 28 = .ok (.ifCond .eq 25, 3) := by decide +kernel
theorem dX7_isSound_31 : decode cX7_isSound 31 = .ok (.aload_n 0, 1) := by decide +kernel
theorem dX7_isSound_32 : decode cX7_isSound 32 = .ok (.getfield 46, 3) := by decide +kernel
theorem dX7_isSound_35 : decode cX7_isSound 35 = .ok (.iload_n 2, 1) := by decide +kernel
theorem dX7_isSound_36 : decode cX7_isSound 36 = .ok (.iaload, 1) := by decide +kernel
theorem dX7_isSound_37 : decode cX7_isSound 37 = .ok (.iload_n 1, 1) := by decide +kernel
theorem dX7_isSound_38 : decode cX7_isSound 38 = .ok (.iand, 1) := by decide +kernel
theorem dX7_isSound_39 : decode cX7_isSound 39 = .ok (.ifCond .ne 12, 3) := by decide +kernel
theorem dX7_isSound_42 : decode cX7_isSound 42 = .ok (.aload_n 0, 1) := by decide +kernel
theorem dX7_isSound_43 : decode cX7_isSound 43 = .ok (.iload_n 1, 1) := by decide +kernel
theorem dX7_isSound_44 : decode cX7_isSound 44 = .ok (.iload_n 2, 1) := by decide +kernel
theorem dX7_isSound_45 : decode cX7_isSound 45 = .ok (.invokevirtual 197, 3) := by decide +kernel
theorem dX7_isSound_48 : decode cX7_isSound 48 = .ok (.ifCond .ne 5, 3) := by decide +kernel
theorem dX7_isSound_51 : decode cX7_isSound 51 = .ok (.iconst 0, 1) := by decide +kernel
theorem dX7_isSound_52 : decode cX7_isSound 52 = .ok (.ireturn, 1) := by decide +kernel
theorem dX7_isSound_53 : decode cX7_isSound 53 = .ok (.iinc 2 1, 3) := by decide +kernel
theorem dX7_isSound_56 : decode cX7_isSound 56 = .ok (.goto (-41), 3) := by decide +kernel
theorem dX7_isSound_59 : decode cX7_isSound 59 = .ok (.iconst 1, 1) := by decide +kernel
theorem dX7_isSound_60 : decode cX7_isSound 60 = .ok (.ireturn, 1) := by decide +kernel
theorem dX7_sound_0 : decode cX7_sound 0 = .ok (.iload_n 1, 1) := by decide +kernel
theorem dX7_sound_1 : decode cX7_sound 1 = .ok (.invokestatic 120, 3) := by decide +kernel
theorem dX7_sound_4 : decode cX7_sound 4 = .ok (.ifCond .eq 15, 3) := by decide +kernel
theorem dX7_sound_7 : decode cX7_sound 7 = .ok (.iload_n 2, 1) := by decide +kernel
theorem dX7_sound_8 : decode cX7_sound 8 = .ok (.iconst 0, 1) := by decide +kernel
theorem dX7_sound_9 : decode cX7_sound 9 = .ok (.aload_n 0, 1) := by decide +kernel
theorem dX7_sound_10 : decode cX7_sound 10 = .ok (.invokevirtual 97, 3) := by decide +kernel
theorem dX7_sound_13 : decode cX7_sound 13 = .ok (.invokestatic 71, 3) := by decide +kernel
theorem dX7_sound_16 : decode cX7_sound 16 = .ok (.ifCond .ne 6, 3) := by decide +kernel
theorem dX7_sound_19 : decode cX7_sound 19 = .ok (.bipush (-2), 2) := by decide +kernel
theorem dX7_sound_21 : decode cX7_sound 21 = .ok (.ireturn, 1) := by decide +kernel
theorem dX7_sound_22 : decode cX7_sound 22 = .ok (.aload_n 0, 1) := by decide +kernel
theorem dX7_sound_23 : decode cX7_sound 23 = .ok (.iload_n 1, 1) := by decide +kernel
theorem dX7_sound_24 : decode cX7_sound 24 = .ok (.aload_n 0, 1) := by decide +kernel
theorem dX7_sound_25 : decode cX7_sound 25 = .ok (.invokevirtual 162, 3) := by decide +kernel
theorem dX7_sound_28 : decode cX7_sound 28 = .ok (.invokevirtual 193, 3) := by decide +kernel
theorem dX7_sound_31 : decode cX7_sound 31 = .ok (.aload_n 0, 1) := by decide +kernel
theorem dX7_sound_32 : decode cX7_sound 32 = .ok (.iload_n 2, 1) := by decide +kernel
theorem dX7_sound_33 : decode cX7_sound 33 = .ok (.invokevirtual 200, 3) := by decide +kernel
theorem dX7_sound_36 : decode cX7_sound 36 = .ok (.ifCond .eq 7, 3) := by decide +kernel
theorem dX7_sound_39 : decode cX7_sound 39 = .ok (.iconst 1, 1) := by decide +kernel
theorem dX7_sound_40 : decode cX7_sound 40 = .ok (.goto 4, 3) := by decide +kernel
theorem dX7_sound_43 : decode cX7_sound 43 = .ok (.iconst 0, 1) := by decide +kernel
theorem dX7_sound_44 : decode cX7_sound 44 = .ok (.ireturn, 1) := by decide +kernel
theorem dX7_leastNow_0 : decode cX7_leastNow 0 = .ok (.iconst 0, 1) := by decide +kernel
theorem dX7_leastNow_1 : decode cX7_leastNow 1 = .ok (.istore_n 1, 1) := by decide +kernel
theorem dX7_leastNow_2 : decode cX7_leastNow 2 = .ok (.iconst 1, 1) := by decide +kernel
theorem dX7_leastNow_3 : decode cX7_leastNow 3 = .ok (.istore_n 2, 1) := by decide +kernel
theorem dX7_leastNow_4 : decode cX7_leastNow 4 = .ok (.iload_n 2, 1) := by decide +kernel
theorem dX7_leastNow_5 : decode cX7_leastNow 5 = .ok (.ifCond .eq 72, 3) := by decide +kernel
theorem dX7_leastNow_8 : decode cX7_leastNow 8 = .ok (.iload_n 1, 1) := by decide +kernel
theorem dX7_leastNow_9 : decode cX7_leastNow 9 = .ok (.istore_n 3, 1) := by decide +kernel
theorem dX7_leastNow_10 : decode cX7_leastNow 10 = .ok (.iconst 0, 1) := by decide +kernel
theorem dX7_leastNow_11 : decode cX7_leastNow 11 = .ok (.istore 4, 2) := by decide +kernel
theorem dX7_leastNow_13 : decode cX7_leastNow 13 = .ok (.iload 4, 2) := by decide +kernel
theorem dX7_leastNow_15 : decode cX7_leastNow 15 = .ok (.aload_n 0, 1) := by decide +kernel
theorem dX7_leastNow_16 : decode cX7_leastNow 16 = .ok (.getfield 82, 3) := by decide +kernel
theorem dX7_leastNow_19 : decode cX7_leastNow 19 = .ok (.if_icmp .ge 42, 3) := by decide +kernel
theorem dX7_leastNow_22 : decode cX7_leastNow 22 = .ok (.iload_n 3, 1) := by decide +kernel
theorem dX7_leastNow_23 : decode cX7_leastNow 23 = .ok (.aload_n 0, 1) := by decide +kernel
theorem dX7_leastNow_24 : decode cX7_leastNow 24 = .ok (.getfield 187, 3) := by decide +kernel
theorem dX7_leastNow_27 : decode cX7_leastNow 27 = .ok (.iload 4, 2) := by decide +kernel
theorem dX7_leastNow_29 : decode cX7_leastNow 29 = .ok (.invokestatic 151, 3) := by decide +kernel
theorem dX7_leastNow_32 : decode cX7_leastNow 32 = .ok (.ifCond .eq 20, 3) := by decide +kernel
theorem dX7_leastNow_35 : decode cX7_leastNow 35 = .ok (.aload_n 0, 1) := by decide +kernel
theorem dX7_leastNow_36 : decode cX7_leastNow 36 = .ok (.iload_n 1, 1) := by decide +kernel
theorem dX7_leastNow_37 : decode cX7_leastNow 37 = .ok (.iload 4, 2) := by decide +kernel
theorem dX7_leastNow_39 : decode cX7_leastNow 39 = .ok (.invokevirtual 197, 3) := by decide +kernel
theorem dX7_leastNow_42 : decode cX7_leastNow 42 = .ok (.ifCond .eq 10, 3) := by decide +kernel
theorem dX7_leastNow_45 : decode cX7_leastNow 45 = .ok (.iconst 1, 1) := by decide +kernel
theorem dX7_leastNow_46 : decode cX7_leastNow 46 = .ok (.iload 4, 2) := by decide +kernel
theorem dX7_leastNow_48 : decode cX7_leastNow 48 = .ok (.ishl, 1) := by decide +kernel
theorem dX7_leastNow_49 : decode cX7_leastNow 49 = .ok (.goto 4, 3) := by decide +kernel
theorem dX7_leastNow_52 : decode cX7_leastNow 52 = .ok (.iconst 0, 1) := by decide +kernel
theorem dX7_leastNow_53 : decode cX7_leastNow 53 = .ok (.ior, 1) := by decide +kernel
theorem dX7_leastNow_54 : decode cX7_leastNow 54 = .ok (.istore_n 3, 1) := by decide +kernel
theorem dX7_leastNow_55 : decode cX7_leastNow 55 = .ok (.iinc 4 1, 3) := by decide +kernel
theorem dX7_leastNow_58 : decode cX7_leastNow 58 = .ok (.goto (-45), 3) := by decide +kernel
theorem dX7_leastNow_61 : decode cX7_leastNow 61 = .ok (.iload_n 3, 1) := by decide +kernel
theorem dX7_leastNow_62 : decode cX7_leastNow 62 = .ok (.iload_n 1, 1) := by decide +kernel
theorem dX7_leastNow_63 : decode cX7_leastNow 63 = .ok (.if_icmp .eq 7, 3) := by decide +kernel
theorem dX7_leastNow_66 : decode cX7_leastNow 66 = .ok (.iconst 1, 1) := by decide +kernel
theorem dX7_leastNow_67 : decode cX7_leastNow 67 = .ok (.goto 4, 3) := by decide +kernel
theorem dX7_leastNow_70 : decode cX7_leastNow 70 = .ok (.iconst 0, 1) := by decide +kernel
theorem dX7_leastNow_71 : decode cX7_leastNow 71 = .ok (.istore_n 2, 1) := by decide +kernel
theorem dX7_leastNow_72 : decode cX7_leastNow 72 = .ok (.iload_n 3, 1) := by decide +kernel
theorem dX7_leastNow_73 : decode cX7_leastNow 73 = .ok (.istore_n 1, 1) := by decide +kernel
theorem dX7_leastNow_74 : decode cX7_leastNow 74 = .ok (.goto (-70), 3) := by decide +kernel
theorem dX7_leastNow_77 : decode cX7_leastNow 77 = .ok (.iload_n 1, 1) := by decide +kernel
theorem dX7_leastNow_78 : decode cX7_leastNow 78 = .ok (.ireturn, 1) := by decide +kernel
theorem dX7_leastOf_0 : decode cX7_leastOf 0 = .ok (.aload_n 0, 1) := by decide +kernel
theorem dX7_leastOf_1 : decode cX7_leastOf 1 = .ok (.iload_n 1, 1) := by decide +kernel
theorem dX7_leastOf_2 : decode cX7_leastOf 2 = .ok (.aload_n 0, 1) := by decide +kernel
theorem dX7_leastOf_3 : decode cX7_leastOf 3 = .ok (.invokevirtual 162, 3) := by decide +kernel
theorem dX7_leastOf_6 : decode cX7_leastOf 6 = .ok (.invokevirtual 193, 3) := by decide +kernel
theorem dX7_leastOf_9 : decode cX7_leastOf 9 = .ok (.aload_n 0, 1) := by decide +kernel
theorem dX7_leastOf_10 : decode cX7_leastOf 10 = .ok (.invokevirtual 203, 3) := by decide +kernel
theorem dX7_leastOf_13 : decode cX7_leastOf 13 = .ok (.ireturn, 1) := by decide +kernel
theorem dX7_least_0 : decode cX7_least 0 = .ok (.iload_n 1, 1) := by decide +kernel
theorem dX7_least_1 : decode cX7_least 1 = .ok (.invokestatic 120, 3) := by decide +kernel
theorem dX7_least_4 : decode cX7_least 4 = .ok (.ifCond .eq 11, 3) := by decide +kernel
theorem dX7_least_7 : decode cX7_least 7 = .ok (.aload_n 0, 1) := by decide +kernel
theorem dX7_least_8 : decode cX7_least 8 = .ok (.iload_n 1, 1) := by decide +kernel
theorem dX7_least_9 : decode cX7_least 9 = .ok (.invokevirtual 206, 3) := by decide +kernel
theorem dX7_least_12 : decode cX7_least 12 = .ok (.goto 5, 3) := by decide +kernel
theorem dX7_least_15 : decode cX7_least 15 = .ok (.bipush (-2), 2) := by decide +kernel
theorem dX7_least_17 : decode cX7_least 17 = .ok (.ireturn, 1) := by decide +kernel
theorem dX7_laysSounds_0 : decode cX7_laysSounds 0 = .ok (.iconst 0, 1) := by decide +kernel
theorem dX7_laysSounds_1 : decode cX7_laysSounds 1 = .ok (.istore_n 1, 1) := by decide +kernel
theorem dX7_laysSounds_2 : decode cX7_laysSounds 2 = .ok (.iload_n 1, 1) := by decide +kernel
theorem dX7_laysSounds_3 : decode cX7_laysSounds 3 = .ok (.aload_n 0, 1) := by decide +kernel
theorem dX7_laysSounds_4 : decode cX7_laysSounds 4 = .ok (.invokevirtual 97, 3) := by decide +kernel
theorem dX7_laysSounds_7 : decode cX7_laysSounds 7 = .ok (.if_icmp .gt 20, 3) := by decide +kernel
theorem dX7_laysSounds_10 : decode cX7_laysSounds 10 = .ok (.aload_n 0, 1) := by decide +kernel
theorem dX7_laysSounds_11 : decode cX7_laysSounds 11 = .ok (.getfield 49, 3) := by decide +kernel
theorem dX7_laysSounds_14 : decode cX7_laysSounds 14 = .ok (.iload_n 1, 1) := by decide +kernel
theorem dX7_laysSounds_15 : decode cX7_laysSounds 15 = .ok (.aload_n 0, 1) := by decide +kernel
theorem dX7_laysSounds_16 : decode cX7_laysSounds 16 = .ok (.iload_n 1, 1) := by decide +kernel
theorem dX7_laysSounds_17 : decode cX7_laysSounds 17 = .ok (.invokevirtual 200, 3) := by decide +kernel
theorem dX7_laysSounds_20 : decode cX7_laysSounds 20 = .ok (.bastore, 1) := by decide +kernel
theorem dX7_laysSounds_21 : decode cX7_laysSounds 21 = .ok (.iinc 1 1, 3) := by decide +kernel
theorem dX7_laysSounds_24 : decode cX7_laysSounds 24 = .ok (.goto (-22), 3) := by decide +kernel
theorem dX7_laysSounds_27 : decode cX7_laysSounds 27 = .ok (.return_, 1) := by decide +kernel
theorem dX7_isFull_0 : decode cX7_isFull 0 = .ok (.iload_n 1, 1) := by decide +kernel
theorem dX7_isFull_1 : decode cX7_isFull 1 = .ok (.iconst 1, 1) := by decide +kernel
theorem dX7_isFull_2 : decode cX7_isFull 2 = .ok (.iadd, 1) := by decide +kernel
theorem dX7_isFull_3 : decode cX7_isFull 3 = .ok (.istore_n 2, 1) := by decide +kernel
theorem dX7_isFull_4 : decode cX7_isFull 4 = .ok (.iload_n 2, 1) := by decide +kernel
theorem dX7_isFull_5 : decode cX7_isFull 5 = .ok (.aload_n 0, 1) := by decide +kernel
theorem dX7_isFull_6 : decode cX7_isFull 6 = .ok (.invokevirtual 97, 3) := by decide +kernel
theorem dX7_isFull_9 : decode cX7_isFull 9 = .ok (.if_icmp .gt 37, 3) := by decide +kernel
theorem dX7_isFull_12 : decode cX7_isFull 12 = .ok (.aload_n 0, 1) := by decide +kernel
theorem dX7_isFull_13 : decode cX7_isFull 13 = .ok (.getfield 49, 3) := by decide +kernel
theorem dX7_isFull_16 : decode cX7_isFull 16 = .ok (.iload_n 1, 1) := by decide +kernel
theorem dX7_isFull_17 : decode cX7_isFull 17 = .ok (.baload, 1) := by decide +kernel
theorem dX7_isFull_18 : decode cX7_isFull 18 = .ok (.ifCond .eq 28, 3) := by decide +kernel
theorem dX7_isFull_21 : decode cX7_isFull 21 = .ok (.aload_n 0, 1) := by decide +kernel
theorem dX7_isFull_22 : decode cX7_isFull 22 = .ok (.getfield 49, 3) := by decide +kernel
theorem dX7_isFull_25 : decode cX7_isFull 25 = .ok (.iload_n 2, 1) := by decide +kernel
theorem dX7_isFull_26 : decode cX7_isFull 26 = .ok (.baload, 1) := by decide +kernel
theorem dX7_isFull_27 : decode cX7_isFull 27 = .ok (.ifCond .eq 13, 3) := by decide +kernel
theorem dX7_isFull_30 : decode cX7_isFull 30 = .ok (.iload_n 1, 1) := by decide +kernel
theorem dX7_isFull_31 : decode cX7_isFull 31 = .ok (.iload_n 2, 1) := by decide +kernel
theorem dX7_isFull_32 : decode cX7_isFull 32 = .ok (.iconst (-1), 1) := by decide +kernel
theorem dX7_isFull_33 : decode cX7_isFull 33 = .ok (.ixor, 1) := by decide +kernel
theorem dX7_isFull_34 : decode cX7_isFull 34 = .ok (.iand, 1) := by decide +kernel
theorem dX7_isFull_35 : decode cX7_isFull 35 = .ok (.ifCond .ne 5, 3) := by decide +kernel
theorem dX7_isFull_38 : decode cX7_isFull 38 = .ok (.iconst 0, 1) := by decide +kernel
theorem dX7_isFull_39 : decode cX7_isFull 39 = .ok (.ireturn, 1) := by decide +kernel
theorem dX7_isFull_40 : decode cX7_isFull 40 = .ok (.iinc 2 1, 3) := by decide +kernel
theorem dX7_isFull_43 : decode cX7_isFull 43 = .ok (.goto (-39), 3) := by decide +kernel
theorem dX7_isFull_46 : decode cX7_isFull 46 = .ok (.aload_n 0, 1) := by decide +kernel
theorem dX7_isFull_47 : decode cX7_isFull 47 = .ok (.getfield 49, 3) := by decide +kernel
theorem dX7_isFull_50 : decode cX7_isFull 50 = .ok (.iload_n 1, 1) := by decide +kernel
theorem dX7_isFull_51 : decode cX7_isFull 51 = .ok (.baload, 1) := by decide +kernel
theorem dX7_isFull_52 : decode cX7_isFull 52 = .ok (.ireturn, 1) := by decide +kernel
theorem dX7_fullNow_0 : decode cX7_fullNow 0 = .ok (.aload_n 0, 1) := by decide +kernel
theorem dX7_fullNow_1 : decode cX7_fullNow 1 = .ok (.iload_n 1, 1) := by decide +kernel
theorem dX7_fullNow_2 : decode cX7_fullNow 2 = .ok (.aload_n 0, 1) := by decide +kernel
theorem dX7_fullNow_3 : decode cX7_fullNow 3 = .ok (.invokevirtual 162, 3) := by decide +kernel
theorem dX7_fullNow_6 : decode cX7_fullNow 6 = .ok (.invokevirtual 193, 3) := by decide +kernel
theorem dX7_fullNow_9 : decode cX7_fullNow 9 = .ok (.aload_n 0, 1) := by decide +kernel
theorem dX7_fullNow_10 : decode cX7_fullNow 10 = .ok (.invokevirtual 209, 3) := by decide +kernel
theorem dX7_fullNow_13 : decode cX7_fullNow 13 = .ok (.iconst 0, 1) := by decide +kernel
theorem dX7_fullNow_14 : decode cX7_fullNow 14 = .ok (.istore_n 3, 1) := by decide +kernel
theorem dX7_fullNow_15 : decode cX7_fullNow 15 = .ok (.iconst 0, 1) := by decide +kernel
theorem dX7_fullNow_16 : decode cX7_fullNow 16 = .ok (.istore 4, 2) := by decide +kernel
theorem dX7_fullNow_18 : decode cX7_fullNow 18 = .ok (.iload 4, 2) := by decide +kernel
theorem dX7_fullNow_20 : decode cX7_fullNow 20 = .ok (.aload_n 0, 1) := by decide +kernel
theorem dX7_fullNow_21 : decode cX7_fullNow 21 = .ok (.invokevirtual 97, 3) := by decide +kernel
theorem dX7_fullNow_24 : decode cX7_fullNow 24 = .ok (.if_icmp .gt 29, 3) := by decide +kernel
theorem dX7_fullNow_27 : decode cX7_fullNow 27 = .ok (.aload_n 0, 1) := by decide +kernel
theorem dX7_fullNow_28 : decode cX7_fullNow 28 = .ok (.iload 4, 2) := by decide +kernel
theorem dX7_fullNow_30 : decode cX7_fullNow 30 = .ok (.invokevirtual 212, 3) := by decide +kernel
theorem dX7_fullNow_33 : decode cX7_fullNow 33 = .ok (.ifCond .eq 14, 3) := by decide +kernel
theorem dX7_fullNow_36 : decode cX7_fullNow 36 = .ok (.iload_n 3, 1) := by decide +kernel
theorem dX7_fullNow_37 : decode cX7_fullNow 37 = .ok (.iload_n 2, 1) := by decide +kernel
theorem dX7_fullNow_38 : decode cX7_fullNow 38 = .ok (.if_icmp .ne 6, 3) := by decide +kernel
theorem dX7_fullNow_41 : decode cX7_fullNow 41 = .ok (.iload 4, 2) := by decide +kernel
theorem dX7_fullNow_43 : decode cX7_fullNow 43 = .ok (.ireturn, 1) := by decide +kernel
theorem dX7_fullNow_44 : decode cX7_fullNow 44 = .ok (.iinc 3 1, 3) := by decide +kernel
theorem dX7_fullNow_47 : decode cX7_fullNow 47 = .ok (.iinc 4 1, 3) := by decide +kernel
theorem dX7_fullNow_50 : decode cX7_fullNow 50 = .ok (.goto (-32), 3) := by decide +kernel
theorem dX7_fullNow_53 : decode cX7_fullNow 53 = .ok (.iload_n 2, 1) := by decide +kernel
theorem dX7_fullNow_54 : decode cX7_fullNow 54 = .ok (.iconst (-1), 1) := by decide +kernel
theorem dX7_fullNow_55 : decode cX7_fullNow 55 = .ok (.if_icmp .ne 7, 3) := by decide +kernel
theorem dX7_fullNow_58 : decode cX7_fullNow 58 = .ok (.iload_n 3, 1) := by decide +kernel
theorem dX7_fullNow_59 : decode cX7_fullNow 59 = .ok (.goto 4, 3) := by decide +kernel
theorem dX7_fullNow_62 : decode cX7_fullNow 62 = .ok (.iconst (-1), 1) := by decide +kernel
theorem dX7_fullNow_63 : decode cX7_fullNow 63 = .ok (.ireturn, 1) := by decide +kernel
theorem dX7_full_0 : decode cX7_full 0 = .ok (.iload_n 1, 1) := by decide +kernel
theorem dX7_full_1 : decode cX7_full 1 = .ok (.invokestatic 120, 3) := by decide +kernel
theorem dX7_full_4 : decode cX7_full 4 = .ok (.ifCond .eq 17, 3) := by decide +kernel
theorem dX7_full_7 : decode cX7_full 7 = .ok (.iload_n 2, 1) := by decide +kernel
theorem dX7_full_8 : decode cX7_full 8 = .ok (.iconst (-1), 1) := by decide +kernel
theorem dX7_full_9 : decode cX7_full 9 = .ok (.if_icmp .lt 12, 3) := by decide +kernel
theorem dX7_full_12 : decode cX7_full 12 = .ok (.aload_n 0, 1) := by decide +kernel
theorem dX7_full_13 : decode cX7_full 13 = .ok (.iload_n 1, 1) := by decide +kernel
theorem dX7_full_14 : decode cX7_full 14 = .ok (.iload_n 2, 1) := by decide +kernel
theorem dX7_full_15 : decode cX7_full 15 = .ok (.invokevirtual 215, 3) := by decide +kernel
theorem dX7_full_18 : decode cX7_full 18 = .ok (.goto 5, 3) := by decide +kernel
theorem dX7_full_21 : decode cX7_full 21 = .ok (.bipush (-2), 2) := by decide +kernel
theorem dX7_full_23 : decode cX7_full 23 = .ok (.ireturn, 1) := by decide +kernel
theorem dX7_firm_0 : decode cX7_firm 0 = .ok (.iload_n 1, 1) := by decide +kernel
theorem dX7_firm_1 : decode cX7_firm 1 = .ok (.invokestatic 120, 3) := by decide +kernel
theorem dX7_firm_4 : decode cX7_firm 4 = .ok (.ifCond .eq 11, 3) := by decide +kernel
theorem dX7_firm_7 : decode cX7_firm 7 = .ok (.aload_n 0, 1) := by decide +kernel
theorem dX7_firm_8 : decode cX7_firm 8 = .ok (.iload_n 2, 1) := by decide +kernel
theorem dX7_firm_9 : decode cX7_firm 9 = .ok (.invokevirtual 111, 3) := by decide +kernel
theorem dX7_firm_12 : decode cX7_firm 12 = .ok (.ifCond .ne 6, 3) := by decide +kernel
theorem dX7_firm_15 : decode cX7_firm 15 = .ok (.bipush (-2), 2) := by decide +kernel
theorem dX7_firm_17 : decode cX7_firm 17 = .ok (.ireturn, 1) := by decide +kernel
theorem dX7_firm_18 : decode cX7_firm 18 = .ok (.aload_n 0, 1) := by decide +kernel
theorem dX7_firm_19 : decode cX7_firm 19 = .ok (.iload_n 1, 1) := by decide +kernel
theorem dX7_firm_20 : decode cX7_firm 20 = .ok (.aload_n 0, 1) := by decide +kernel
theorem dX7_firm_21 : decode cX7_firm 21 = .ok (.invokevirtual 162, 3) := by decide +kernel
theorem dX7_firm_24 : decode cX7_firm 24 = .ok (.invokevirtual 193, 3) := by decide +kernel
theorem dX7_firm_27 : decode cX7_firm 27 = .ok (.aload_n 0, 1) := by decide +kernel
theorem dX7_firm_28 : decode cX7_firm 28 = .ok (.invokevirtual 209, 3) := by decide +kernel
theorem dX7_firm_31 : decode cX7_firm 31 = .ok (.iconst 0, 1) := by decide +kernel
theorem dX7_firm_32 : decode cX7_firm 32 = .ok (.istore_n 3, 1) := by decide +kernel
theorem dX7_firm_33 : decode cX7_firm 33 = .ok (.iconst 1, 1) := by decide +kernel
theorem dX7_firm_34 : decode cX7_firm 34 = .ok (.istore 4, 2) := by decide +kernel
theorem dX7_firm_36 : decode cX7_firm 36 = .ok (.iconst 0, 1) := by decide +kernel
theorem dX7_firm_37 : decode cX7_firm 37 = .ok (.istore 5, 2) := by decide +kernel
theorem dX7_firm_39 : decode cX7_firm 39 = .ok (.iload 5, 2) := by decide +kernel
theorem dX7_firm_41 : decode cX7_firm 41 = .ok (.aload_n 0, 1) := by decide +kernel
theorem dX7_firm_42 : decode cX7_firm 42 = .ok (.invokevirtual 97, 3) := by decide +kernel
theorem dX7_firm_45 : decode cX7_firm 45 = .ok (.if_icmp .gt 58, 3) := by decide +kernel
theorem dX7_firm_48 : decode cX7_firm 48 = .ok (.aload_n 0, 1) := by decide +kernel
theorem dX7_firm_49 : decode cX7_firm 49 = .ok (.iload 5, 2) := by decide +kernel
theorem dX7_firm_51 : decode cX7_firm 51 = .ok (.invokevirtual 212, 3) := by decide +kernel
theorem dX7_firm_54 : decode cX7_firm 54 = .ok (.ifCond .eq 43, 3) := by decide +kernel
theorem dX7_firm_57 : decode cX7_firm 57 = .ok (.iload_n 3, 1) := by decide +kernel
theorem dX7_firm_58 : decode cX7_firm 58 = .ok (.ifCond .ne 12, 3) := by decide +kernel
theorem dX7_firm_61 : decode cX7_firm 61 = .ok (.iload 5, 2) := by decide +kernel
theorem dX7_firm_63 : decode cX7_firm 63 = .ok (.iload_n 2, 1) := by decide +kernel
theorem dX7_firm_64 : decode cX7_firm 64 = .ok (.invokestatic 151, 3) := by decide +kernel
theorem dX7_firm_67 : decode cX7_firm 67 = .ok (.ifCond .eq 7, 3) := by decide +kernel
theorem dX7_firm_70 : decode cX7_firm 70 = .ok (.iconst 1, 1) := by decide +kernel
theorem dX7_firm_71 : decode cX7_firm 71 = .ok (.goto 4, 3) := by decide +kernel
theorem dX7_firm_74 : decode cX7_firm 74 = .ok (.iconst 0, 1) := by decide +kernel
theorem dX7_firm_75 : decode cX7_firm 75 = .ok (.istore_n 3, 1) := by decide +kernel
theorem dX7_firm_76 : decode cX7_firm 76 = .ok (.iload 4, 2) := by decide +kernel
theorem dX7_firm_78 : decode cX7_firm 78 = .ok (.ifCond .eq 16, 3) := by decide +kernel
theorem dX7_firm_81 : decode cX7_firm 81 = .ok (.iload 5, 2) := by decide +kernel
theorem dX7_firm_83 : decode cX7_firm 83 = .ok (.iload_n 2, 1) := by decide +kernel
theorem dX7_firm_84 : decode cX7_firm 84 = .ok (.invokestatic 151, 3) := by decide +kernel
theorem dX7_firm_87 : decode cX7_firm 87 = .ok (.ifCond .eq 7, 3) := by decide +kernel
theorem dX7_firm_90 : decode cX7_firm 90 = .ok (.iconst 1, 1) := by decide +kernel
theorem dX7_firm_91 : decode cX7_firm 91 = .ok (.goto 4, 3) := by decide +kernel
theorem dX7_firm_94 : decode cX7_firm 94 = .ok (.iconst 0, 1) := by decide +kernel
theorem dX7_firm_95 : decode cX7_firm 95 = .ok (.istore 4, 2) := by decide +kernel
theorem dX7_firm_97 : decode cX7_firm 97 = .ok (.iinc 5 1, 3) := by decide +kernel
theorem dX7_firm_100 : decode cX7_firm 100 = .ok (.goto (-61), 3) := by decide +kernel
theorem dX7_firm_103 : decode cX7_firm 103 = .ok (.iload 4, 2) := by decide +kernel
theorem dX7_firm_105 : decode cX7_firm 105 = .ok (.ifCond .eq 7, 3) := by decide +kernel
theorem dX7_firm_108 : decode cX7_firm 108 = .ok (.iconst 2, 1) := by decide +kernel
theorem dX7_firm_109 : decode cX7_firm 109 = .ok (.goto 12, 3) := by decide +kernel
theorem dX7_firm_112 : decode cX7_firm 112 = .ok (.iload_n 3, 1) := by decide +kernel
theorem dX7_firm_113 : decode cX7_firm 113 = .ok (.ifCond .eq 7, 3) := by decide +kernel
theorem dX7_firm_116 : decode cX7_firm 116 = .ok (.iconst 1, 1) := by decide +kernel
theorem dX7_firm_117 : decode cX7_firm 117 = .ok (.goto 4, 3) := by decide +kernel
theorem dX7_firm_120 : decode cX7_firm 120 = .ok (.iconst 0, 1) := by decide +kernel
theorem dX7_firm_121 : decode cX7_firm 121 = .ok (.ireturn, 1) := by decide +kernel
theorem dX7_ringNow_0 : decode cX7_ringNow 0 = .ok (.aload_n 0, 1) := by decide +kernel
theorem dX7_ringNow_1 : decode cX7_ringNow 1 = .ok (.iconst 0, 1) := by decide +kernel
theorem dX7_ringNow_2 : decode cX7_ringNow 2 = .ok (.aload_n 0, 1) := by decide +kernel
theorem dX7_ringNow_3 : decode cX7_ringNow 3 = .ok (.invokevirtual 162, 3) := by decide +kernel
theorem dX7_ringNow_6 : decode cX7_ringNow 6 = .ok (.invokevirtual 193, 3) := by decide +kernel
theorem dX7_ringNow_9 : decode cX7_ringNow 9 = .ok (.iconst 0, 1) := by decide +kernel
theorem dX7_ringNow_10 : decode cX7_ringNow 10 = .ok (.istore_n 1, 1) := by decide +kernel
theorem dX7_ringNow_11 : decode cX7_ringNow 11 = .ok (.iconst 0, 1) := by decide +kernel
theorem dX7_ringNow_12 : decode cX7_ringNow 12 = .ok (.istore_n 2, 1) := by decide +kernel
theorem dX7_ringNow_13 : decode cX7_ringNow 13 = .ok (.iload_n 2, 1) := by decide +kernel
theorem dX7_ringNow_14 : decode cX7_ringNow 14 = .ok (.aload_n 0, 1) := by decide +kernel
theorem dX7_ringNow_15 : decode cX7_ringNow 15 = .ok (.getfield 82, 3) := by decide +kernel
theorem dX7_ringNow_18 : decode cX7_ringNow 18 = .ok (.if_icmp .ge 83, 3) := by decide +kernel
theorem dX7_ringNow_21 : decode cX7_ringNow 21 = .ok (.aload_n 0, 1) := by decide +kernel
theorem dX7_ringNow_22 : decode cX7_ringNow 22 = .ok (.getfield 46, 3) := by decide +kernel
theorem dX7_ringNow_25 : decode cX7_ringNow 25 = .ok (.iload_n 2, 1) := by decide +kernel
theorem dX7_ringNow_26 : decode cX7_ringNow 26 = .ok (.iaload, 1) := by decide +kernel
theorem dX7_ringNow_27 : decode cX7_ringNow 27 = .ok (.istore_n 3, 1) := by decide +kernel
theorem dX7_ringNow_28 : decode cX7_ringNow 28 = .ok (.iconst 0, 1) := by decide +kernel
theorem dX7_ringNow_29 : decode cX7_ringNow 29 = .ok (.istore 4, 2) := by decide +kernel
theorem dX7_ringNow_31 : decode cX7_ringNow 31 = .ok (.iload 4, 2) := by decide +kernel
theorem dX7_ringNow_33 : decode cX7_ringNow 33 = .ok (.aload_n 0, 1) := by decide +kernel
theorem dX7_ringNow_34 : decode cX7_ringNow 34 = .ok (.getfield 82, 3) := by decide +kernel
theorem dX7_ringNow_37 : decode cX7_ringNow 37 = .ok (.if_icmp .ge 50, 3) := by decide +kernel
theorem dX7_ringNow_40 : decode cX7_ringNow 40 = .ok (.iconst 0, 1) := by decide +kernel
theorem dX7_ringNow_41 : decode cX7_ringNow 41 = .ok (.istore 5, 2) := by decide +kernel
theorem dX7_ringNow_43 : decode cX7_ringNow 43 = .ok (.iload 5, 2) := by decide +kernel
theorem dX7_ringNow_45 : decode cX7_ringNow 45 = .ok (.aload_n 0, 1) := by decide +kernel
theorem dX7_ringNow_46 : decode cX7_ringNow 46 = .ok (.getfield 82, 3) := by decide +kernel
theorem dX7_ringNow_49 : decode cX7_ringNow 49 = .ok (.if_icmp .ge 32, 3) := by decide +kernel
theorem dX7_ringNow_52 : decode cX7_ringNow 52 = .ok (.iload_n 3, 1) := by decide +kernel
theorem dX7_ringNow_53 : decode cX7_ringNow 53 = .ok (.iload_n 3, 1) := by decide +kernel
theorem dX7_ringNow_54 : decode cX7_ringNow 54 = .ok (.iload 5, 2) := by decide +kernel
theorem dX7_ringNow_56 : decode cX7_ringNow 56 = .ok (.invokestatic 151, 3) := by decide +kernel
theorem dX7_ringNow_59 : decode cX7_ringNow 59 = .ok (.ifCond .eq 13, 3) := by decide +kernel
theorem dX7_ringNow_62 : decode cX7_ringNow 62 = .ok (.aload_n 0, 1) := by decide +kernel
theorem dX7_ringNow_63 : decode cX7_ringNow 63 = .ok (.getfield 46, 3) := by decide +kernel
theorem dX7_ringNow_66 : decode cX7_ringNow 66 = .ok (.iload 5, 2) := by decide +kernel
theorem dX7_ringNow_68 : decode cX7_ringNow 68 = .ok (.iaload, 1) := by decide +kernel
theorem dX7_ringNow_69 : decode cX7_ringNow 69 = .ok (.goto 4, 3) := by decide +kernel
theorem dX7_ringNow_72 : decode cX7_ringNow 72 = .ok (.iconst 0, 1) := by decide +kernel
theorem dX7_ringNow_73 : decode cX7_ringNow 73 = .ok (.ior, 1) := by decide +kernel
theorem dX7_ringNow_74 : decode cX7_ringNow 74 = .ok (.istore_n 3, 1) := by decide +kernel
theorem dX7_ringNow_75 : decode cX7_ringNow 75 = .ok (.iinc 5 1, 3) := by decide +kernel
theorem dX7_ringNow_78 : decode cX7_ringNow 78 = .ok (.goto (-35), 3) := by decide +kernel
theorem dX7_ringNow_81 : decode cX7_ringNow 81 = .ok (.iinc 4 1, 3) := by decide +kernel
theorem dX7_ringNow_84 : decode cX7_ringNow 84 = .ok (.goto (-53), 3) := by decide +kernel
theorem dX7_ringNow_87 : decode cX7_ringNow 87 = .ok (.iload_n 1, 1) := by decide +kernel
theorem dX7_ringNow_88 : decode cX7_ringNow 88 = .ok (.iload_n 3, 1) := by decide +kernel
theorem dX7_ringNow_89 : decode cX7_ringNow 89 = .ok (.iconst 1, 1) := by decide +kernel
theorem dX7_ringNow_90 : decode cX7_ringNow 90 = .ok (.iload_n 2, 1) := by decide +kernel
theorem dX7_ringNow_91 : decode cX7_ringNow 91 = .ok (.ishl, 1) := by decide +kernel
theorem dX7_ringNow_92 : decode cX7_ringNow 92 = .ok (.iand, 1) := by decide +kernel
theorem dX7_ringNow_93 : decode cX7_ringNow 93 = .ok (.ior, 1) := by decide +kernel
theorem dX7_ringNow_94 : decode cX7_ringNow 94 = .ok (.istore_n 1, 1) := by decide +kernel
theorem dX7_ringNow_95 : decode cX7_ringNow 95 = .ok (.iinc 2 1, 3) := by decide +kernel
theorem dX7_ringNow_98 : decode cX7_ringNow 98 = .ok (.goto (-85), 3) := by decide +kernel
theorem dX7_ringNow_101 : decode cX7_ringNow 101 = .ok (.iload_n 1, 1) := by decide +kernel
theorem dX7_ringNow_102 : decode cX7_ringNow 102 = .ok (.ireturn, 1) := by decide +kernel
theorem dX7_ring_0 : decode cX7_ring 0 = .ok (.aload_n 0, 1) := by decide +kernel
theorem dX7_ring_1 : decode cX7_ring 1 = .ok (.invokevirtual 218, 3) := by decide +kernel
theorem dX7_ring_4 : decode cX7_ring 4 = .ok (.ireturn, 1) := by decide +kernel
theorem dX7_chain_0 : decode cX7_chain 0 = .ok (.aload_n 0, 1) := by decide +kernel
theorem dX7_chain_1 : decode cX7_chain 1 = .ok (.iload_n 1, 1) := by decide +kernel
theorem dX7_chain_2 : decode cX7_chain 2 = .ok (.invokevirtual 111, 3) := by decide +kernel
theorem dX7_chain_5 : decode cX7_chain 5 = .ok (.ifCond .ne 6, 3) := by decide +kernel
theorem dX7_chain_8 : decode cX7_chain 8 = .ok (.bipush (-2), 2) := by decide +kernel
theorem dX7_chain_10 : decode cX7_chain 10 = .ok (.ireturn, 1) := by decide +kernel
theorem dX7_chain_11 : decode cX7_chain 11 = .ok (.aload_n 0, 1) := by decide +kernel
theorem dX7_chain_12 : decode cX7_chain 12 = .ok (.invokevirtual 114, 3) := by decide +kernel
theorem dX7_chain_15 : decode cX7_chain 15 = .ok (.iconst 0, 1) := by decide +kernel
theorem dX7_chain_16 : decode cX7_chain 16 = .ok (.istore_n 2, 1) := by decide +kernel
theorem dX7_chain_17 : decode cX7_chain 17 = .ok (.iload_n 2, 1) := by decide +kernel
theorem dX7_chain_18 : decode cX7_chain 18 = .ok (.aload_n 0, 1) := by decide +kernel
theorem dX7_chain_19 : decode cX7_chain 19 = .ok (.getfield 82, 3) := by decide +kernel
theorem dX7_chain_22 : decode cX7_chain 22 = .ok (.if_icmp .ge 16, 3) := by decide +kernel
theorem dX7_chain_25 : decode cX7_chain 25 = .ok (.aload_n 0, 1) := by decide +kernel
theorem dX7_chain_26 : decode cX7_chain 26 = .ok (.getfield 53, 3) := by decide +kernel
theorem dX7_chain_29 : decode cX7_chain 29 = .ok (.iload_n 2, 1) := by decide +kernel
theorem dX7_chain_30 : decode cX7_chain 30 = .ok (.iconst 0, 1) := by decide +kernel
theorem dX7_chain_31 : decode cX7_chain 31 = .ok (.iastore, 1) := by decide +kernel
theorem dX7_chain_32 : decode cX7_chain 32 = .ok (.iinc 2 1, 3) := by decide +kernel
theorem dX7_chain_35 : decode cX7_chain 35 = .ok (.goto (-18), 3) := by decide +kernel
theorem dX7_chain_38 : decode cX7_chain 38 = .ok (.aload_n 0, 1) := by decide +kernel
theorem dX7_chain_39 : decode cX7_chain 39 = .ok (.getfield 82, 3) := by decide +kernel
theorem dX7_chain_42 : decode cX7_chain 42 = .ok (.iconst 1, 1) := by decide +kernel
theorem dX7_chain_43 : decode cX7_chain 43 = .ok (.isub, 1) := by decide +kernel
theorem dX7_chain_44 : decode cX7_chain 44 = .ok (.istore_n 2, 1) := by decide +kernel
theorem dX7_chain_45 : decode cX7_chain 45 = .ok (.iload_n 2, 1) := by decide +kernel
theorem dX7_chain_46 : decode cX7_chain 46 = .ok (.ifCond .le 72, 3) := by decide +kernel
theorem dX7_chain_49 : decode cX7_chain 49 = .ok (.aload_n 0, 1) := by decide +kernel
theorem dX7_chain_50 : decode cX7_chain 50 = .ok (.getfield 104, 3) := by decide +kernel
theorem dX7_chain_53 : decode cX7_chain 53 = .ok (.iload_n 2, 1) := by decide +kernel
theorem dX7_chain_54 : decode cX7_chain 54 = .ok (.invokestatic 151, 3) := by decide +kernel
theorem dX7_chain_57 : decode cX7_chain 57 = .ok (.ifCond .eq 55, 3) := by decide +kernel
theorem dX7_chain_60 : decode cX7_chain 60 = .ok (.aload_n 0, 1) := by decide +kernel
theorem dX7_chain_61 : decode cX7_chain 61 = .ok (.getfield 101, 3) := by decide +kernel
theorem dX7_chain_64 : decode cX7_chain 64 = .ok (.iload_n 2, 1) := by decide +kernel
theorem dX7_chain_65 : decode cX7_chain 65 = .ok (.invokestatic 151, 3) := by decide +kernel
theorem dX7_chain_68 : decode cX7_chain 68 = .ok (.ifCond .ne 44, 3) := by decide +kernel
theorem dX7_chain_71 : decode cX7_chain 71 = .ok (.aload_n 0, 1) := by decide +kernel
theorem dX7_chain_72 : decode cX7_chain 72 = .ok (.getfield 53, 3) := by decide +kernel
theorem dX7_chain_75 : decode cX7_chain 75 = .ok (.iload_n 2, 1) := by decide +kernel
theorem dX7_chain_76 : decode cX7_chain 76 = .ok (.iaload, 1) := by decide +kernel
theorem dX7_chain_77 : decode cX7_chain 77 = .ok (.iconst 1, 1) := by decide +kernel
theorem dX7_chain_78 : decode cX7_chain 78 = .ok (.iadd, 1) := by decide +kernel
theorem dX7_chain_79 : decode cX7_chain 79 = .ok (.aload_n 0, 1) := by decide +kernel
theorem dX7_chain_80 : decode cX7_chain 80 = .ok (.getfield 53, 3) := by decide +kernel
theorem dX7_chain_83 : decode cX7_chain 83 = .ok (.aload_n 0, 1) := by decide +kernel
theorem dX7_chain_84 : decode cX7_chain 84 = .ok (.getfield 28, 3) := by decide +kernel
theorem dX7_chain_87 : decode cX7_chain 87 = .ok (.iload_n 2, 1) := by decide +kernel
theorem dX7_chain_88 : decode cX7_chain 88 = .ok (.iaload, 1) := by decide +kernel
theorem dX7_chain_89 : decode cX7_chain 89 = .ok (.iaload, 1) := by decide +kernel
theorem dX7_chain_90 : decode cX7_chain 90 = .ok (.if_icmp .le 22, 3) := by decide +kernel
theorem dX7_chain_93 : decode cX7_chain 93 = .ok (.aload_n 0, 1) := by decide +kernel
theorem dX7_chain_94 : decode cX7_chain 94 = .ok (.getfield 53, 3) := by decide +kernel
theorem dX7_chain_97 : decode cX7_chain 97 = .ok (.aload_n 0, 1) := by decide +kernel
theorem dX7_chain_98 : decode cX7_chain 98 = .ok (.getfield 28, 3) := by decide +kernel
theorem dX7_chain_101 : decode cX7_chain 101 = .ok (.iload_n 2, 1) := by decide +kernel
theorem dX7_chain_102 : decode cX7_chain 102 = .ok (.iaload, 1) := by decide +kernel
theorem dX7_chain_103 : decode cX7_chain 103 = .ok (.aload_n 0, 1) := by decide +kernel
theorem dX7_chain_104 : decode cX7_chain 104 = .ok (.getfield 53, 3) := by decide +kernel
theorem dX7_chain_107 : decode cX7_chain 107 = .ok (.iload_n 2, 1) := by decide +kernel
theorem dX7_chain_108 : decode cX7_chain 108 = .ok (.iaload, 1) := by decide +kernel
theorem dX7_chain_109 : decode cX7_chain 109 = .ok (.iconst 1, 1) := by decide +kernel
theorem dX7_chain_110 : decode cX7_chain 110 = .ok (.iadd, 1) := by decide +kernel
theorem dX7_chain_111 : decode cX7_chain 111 = .ok (.iastore, 1) := by decide +kernel
theorem dX7_chain_112 : decode cX7_chain 112 = .ok (.iinc 2 (-1), 3) := by decide +kernel
theorem dX7_chain_115 : decode cX7_chain 115 = .ok (.goto (-70), 3) := by decide +kernel
theorem dX7_chain_118 : decode cX7_chain 118 = .ok (.aload_n 0, 1) := by decide +kernel
theorem dX7_chain_119 : decode cX7_chain 119 = .ok (.getfield 53, 3) := by decide +kernel
theorem dX7_chain_122 : decode cX7_chain 122 = .ok (.iload_n 1, 1) := by decide +kernel
theorem dX7_chain_123 : decode cX7_chain 123 = .ok (.iaload, 1) := by decide +kernel
theorem dX7_chain_124 : decode cX7_chain 124 = .ok (.ireturn, 1) := by decide +kernel
theorem dX7_hangsNow_0 : decode cX7_hangsNow 0 = .ok (.aload_n 0, 1) := by decide +kernel
theorem dX7_hangsNow_1 : decode cX7_hangsNow 1 = .ok (.iconst 0, 1) := by decide +kernel
theorem dX7_hangsNow_2 : decode cX7_hangsNow 2 = .ok (.invokevirtual 171, 3) := by decide +kernel
theorem dX7_hangsNow_5 : decode cX7_hangsNow 5 = .ok (.aload_n 0, 1) := by decide +kernel
theorem dX7_hangsNow_6 : decode cX7_hangsNow 6 = .ok (.getfield 136, 3) := by decide +kernel
theorem dX7_hangsNow_9 : decode cX7_hangsNow 9 = .ok (.istore_n 2, 1) := by decide +kernel
theorem dX7_hangsNow_10 : decode cX7_hangsNow 10 = .ok (.aload_n 0, 1) := by decide +kernel
theorem dX7_hangsNow_11 : decode cX7_hangsNow 11 = .ok (.aload_n 0, 1) := by decide +kernel
theorem dX7_hangsNow_12 : decode cX7_hangsNow 12 = .ok (.invokevirtual 162, 3) := by decide +kernel
theorem dX7_hangsNow_15 : decode cX7_hangsNow 15 = .ok (.iconst 1, 1) := by decide +kernel
theorem dX7_hangsNow_16 : decode cX7_hangsNow 16 = .ok (.iload_n 1, 1) := by decide +kernel
theorem dX7_hangsNow_17 : decode cX7_hangsNow 17 = .ok (.ishl, 1) := by decide +kernel
theorem dX7_hangsNow_18 : decode cX7_hangsNow 18 = .ok (.iconst (-1), 1) := by decide +kernel
theorem dX7_hangsNow_19 : decode cX7_hangsNow 19 = .ok (.ixor, 1) := by decide +kernel
theorem dX7_hangsNow_20 : decode cX7_hangsNow 20 = .ok (.iand, 1) := by decide +kernel
theorem dX7_hangsNow_21 : decode cX7_hangsNow 21 = .ok (.invokevirtual 165, 3) := by decide +kernel
theorem dX7_hangsNow_24 : decode cX7_hangsNow 24 = .ok (.aload_n 0, 1) := by decide +kernel
theorem dX7_hangsNow_25 : decode cX7_hangsNow 25 = .ok (.iconst 0, 1) := by decide +kernel
theorem dX7_hangsNow_26 : decode cX7_hangsNow 26 = .ok (.invokevirtual 168, 3) := by decide +kernel
theorem dX7_hangsNow_29 : decode cX7_hangsNow 29 = .ok (.iload_n 2, 1) := by decide +kernel
theorem dX7_hangsNow_30 : decode cX7_hangsNow 30 = .ok (.aload_n 0, 1) := by decide +kernel
theorem dX7_hangsNow_31 : decode cX7_hangsNow 31 = .ok (.getfield 136, 3) := by decide +kernel
theorem dX7_hangsNow_34 : decode cX7_hangsNow 34 = .ok (.ixor, 1) := by decide +kernel
theorem dX7_hangsNow_35 : decode cX7_hangsNow 35 = .ok (.iconst 1, 1) := by decide +kernel
theorem dX7_hangsNow_36 : decode cX7_hangsNow 36 = .ok (.iload_n 1, 1) := by decide +kernel
theorem dX7_hangsNow_37 : decode cX7_hangsNow 37 = .ok (.ishl, 1) := by decide +kernel
theorem dX7_hangsNow_38 : decode cX7_hangsNow 38 = .ok (.iconst (-1), 1) := by decide +kernel
theorem dX7_hangsNow_39 : decode cX7_hangsNow 39 = .ok (.ixor, 1) := by decide +kernel
theorem dX7_hangsNow_40 : decode cX7_hangsNow 40 = .ok (.iand, 1) := by decide +kernel
theorem dX7_hangsNow_41 : decode cX7_hangsNow 41 = .ok (.invokestatic 148, 3) := by decide +kernel
theorem dX7_hangsNow_44 : decode cX7_hangsNow 44 = .ok (.ireturn, 1) := by decide +kernel
theorem dX7_hangs_0 : decode cX7_hangs 0 = .ok (.aload_n 0, 1) := by decide +kernel
theorem dX7_hangs_1 : decode cX7_hangs 1 = .ok (.iload_n 1, 1) := by decide +kernel
theorem dX7_hangs_2 : decode cX7_hangs 2 = .ok (.invokevirtual 111, 3) := by decide +kernel
theorem dX7_hangs_5 : decode cX7_hangs 5 = .ok (.ifCond .eq 22, 3) := by decide +kernel
theorem dX7_hangs_8 : decode cX7_hangs 8 = .ok (.aload_n 0, 1) := by decide +kernel
theorem dX7_hangs_9 : decode cX7_hangs 9 = .ok (.getfield 101, 3) := by decide +kernel
theorem dX7_hangs_12 : decode cX7_hangs 12 = .ok (.iload_n 1, 1) := by decide +kernel
theorem dX7_hangs_13 : decode cX7_hangs 13 = .ok (.invokestatic 151, 3) := by decide +kernel
theorem dX7_hangs_16 : decode cX7_hangs 16 = .ok (.ifCond .ne 11, 3) := by decide +kernel
theorem dX7_hangs_19 : decode cX7_hangs 19 = .ok (.aload_n 0, 1) := by decide +kernel
theorem dX7_hangs_20 : decode cX7_hangs 20 = .ok (.iload_n 1, 1) := by decide +kernel
theorem dX7_hangs_21 : decode cX7_hangs 21 = .ok (.invokevirtual 221, 3) := by decide +kernel
theorem dX7_hangs_24 : decode cX7_hangs 24 = .ok (.goto 5, 3) := by decide +kernel
theorem dX7_hangs_27 : decode cX7_hangs 27 = .ok (.bipush (-2), 2) := by decide +kernel
theorem dX7_hangs_29 : decode cX7_hangs 29 = .ok (.ireturn, 1) := by decide +kernel
theorem dX7_mostNow_0 : decode cX7_mostNow 0 = .ok (.iconst (-1), 1) := by decide +kernel
theorem dX7_mostNow_1 : decode cX7_mostNow 1 = .ok (.istore_n 1, 1) := by decide +kernel
theorem dX7_mostNow_2 : decode cX7_mostNow 2 = .ok (.iconst 0, 1) := by decide +kernel
theorem dX7_mostNow_3 : decode cX7_mostNow 3 = .ok (.istore_n 2, 1) := by decide +kernel
theorem dX7_mostNow_4 : decode cX7_mostNow 4 = .ok (.iconst 0, 1) := by decide +kernel
theorem dX7_mostNow_5 : decode cX7_mostNow 5 = .ok (.istore_n 3, 1) := by decide +kernel
theorem dX7_mostNow_6 : decode cX7_mostNow 6 = .ok (.iload_n 3, 1) := by decide +kernel
theorem dX7_mostNow_7 : decode cX7_mostNow 7 = .ok (.aload_n 0, 1) := by decide +kernel
theorem dX7_mostNow_8 : decode cX7_mostNow 8 = .ok (.getfield 82, 3) := by decide +kernel
theorem dX7_mostNow_11 : decode cX7_mostNow 11 = .ok (.if_icmp .ge 43, 3) := by decide +kernel
theorem dX7_mostNow_14 : decode cX7_mostNow 14 = .ok (.aload_n 0, 1) := by decide +kernel
theorem dX7_mostNow_15 : decode cX7_mostNow 15 = .ok (.getfield 101, 3) := by decide +kernel
theorem dX7_mostNow_18 : decode cX7_mostNow 18 = .ok (.iload_n 3, 1) := by decide +kernel
theorem dX7_mostNow_19 : decode cX7_mostNow 19 = .ok (.invokestatic 151, 3) := by decide +kernel
theorem dX7_mostNow_22 : decode cX7_mostNow 22 = .ok (.ifCond .ne 26, 3) := by decide +kernel
theorem dX7_mostNow_25 : decode cX7_mostNow 25 = .ok (.aload_n 0, 1) := by decide +kernel
theorem dX7_mostNow_26 : decode cX7_mostNow 26 = .ok (.iload_n 3, 1) := by decide +kernel
theorem dX7_mostNow_27 : decode cX7_mostNow 27 = .ok (.invokevirtual 221, 3) := by decide +kernel
theorem dX7_mostNow_30 : decode cX7_mostNow 30 = .ok (.istore 4, 2) := by decide +kernel
theorem dX7_mostNow_32 : decode cX7_mostNow 32 = .ok (.iload_n 1, 1) := by decide +kernel
theorem dX7_mostNow_33 : decode cX7_mostNow 33 = .ok (.iconst (-1), 1) := by decide +kernel
theorem dX7_mostNow_34 : decode cX7_mostNow 34 = .ok (.if_icmp .eq 9, 3) := by decide +kernel
theorem dX7_mostNow_37 : decode cX7_mostNow 37 = .ok (.iload 4, 2) := by decide +kernel
theorem dX7_mostNow_39 : decode cX7_mostNow 39 = .ok (.iload_n 2, 1) := by decide +kernel
theorem dX7_mostNow_40 : decode cX7_mostNow 40 = .ok (.if_icmp .le 8, 3) := by decide +kernel
theorem dX7_mostNow_43 : decode cX7_mostNow 43 = .ok (.iload_n 3, 1) := by decide +kernel
theorem dX7_mostNow_44 : decode cX7_mostNow 44 = .ok (.istore_n 1, 1) := by decide +kernel
theorem dX7_mostNow_45 : decode cX7_mostNow 45 = .ok (.iload 4, 2) := by decide +kernel
theorem dX7_mostNow_47 : decode cX7_mostNow 47 = .ok (.istore_n 2, 1) := by decide +kernel
theorem dX7_mostNow_48 : decode cX7_mostNow 48 = .ok (.iinc 3 1, 3) := by decide +kernel
theorem dX7_mostNow_51 : decode cX7_mostNow 51 = .ok (.goto (-45), 3) := by decide +kernel
theorem dX7_mostNow_54 : decode cX7_mostNow 54 = .ok (.iload_n 1, 1) := by decide +kernel
theorem dX7_mostNow_55 : decode cX7_mostNow 55 = .ok (.ireturn, 1) := by decide +kernel
theorem dX7_most_0 : decode cX7_most 0 = .ok (.aload_n 0, 1) := by decide +kernel
theorem dX7_most_1 : decode cX7_most 1 = .ok (.invokevirtual 224, 3) := by decide +kernel
theorem dX7_most_4 : decode cX7_most 4 = .ok (.ireturn, 1) := by decide +kernel
theorem dX7_brings_0 : decode cX7_brings 0 = .ok (.aload_n 0, 1) := by decide +kernel
theorem dX7_brings_1 : decode cX7_brings 1 = .ok (.iload_n 1, 1) := by decide +kernel
theorem dX7_brings_2 : decode cX7_brings 2 = .ok (.invokevirtual 111, 3) := by decide +kernel
theorem dX7_brings_5 : decode cX7_brings 5 = .ok (.ifCond .eq 32, 3) := by decide +kernel
theorem dX7_brings_8 : decode cX7_brings 8 = .ok (.aload_n 0, 1) := by decide +kernel
theorem dX7_brings_9 : decode cX7_brings 9 = .ok (.getfield 16, 3) := by decide +kernel
theorem dX7_brings_12 : decode cX7_brings 12 = .ok (.iload_n 1, 1) := by decide +kernel
theorem dX7_brings_13 : decode cX7_brings 13 = .ok (.iaload, 1) := by decide +kernel
theorem dX7_brings_14 : decode cX7_brings 14 = .ok (.ifCond .ne 23, 3) := by decide +kernel
theorem dX7_brings_17 : decode cX7_brings 17 = .ok (.aload_n 0, 1) := by decide +kernel
theorem dX7_brings_18 : decode cX7_brings 18 = .ok (.getfield 101, 3) := by decide +kernel
theorem dX7_brings_21 : decode cX7_brings 21 = .ok (.iload_n 1, 1) := by decide +kernel
theorem dX7_brings_22 : decode cX7_brings 22 = .ok (.invokestatic 151, 3) := by decide +kernel
theorem dX7_brings_25 : decode cX7_brings 25 = .ok (.ifCond .ne 12, 3) := by decide +kernel
theorem dX7_brings_28 : decode cX7_brings 28 = .ok (.iload_n 2, 1) := by decide +kernel
theorem dX7_brings_29 : decode cX7_brings 29 = .ok (.iconst 0, 1) := by decide +kernel
theorem dX7_brings_30 : decode cX7_brings 30 = .ok (.iconst 1, 1) := by decide +kernel
theorem dX7_brings_31 : decode cX7_brings 31 = .ok (.invokestatic 71, 3) := by decide +kernel
theorem dX7_brings_34 : decode cX7_brings 34 = .ok (.ifCond .ne 6, 3) := by decide +kernel
theorem dX7_brings_37 : decode cX7_brings 37 = .ok (.bipush (-2), 2) := by decide +kernel
theorem dX7_brings_39 : decode cX7_brings 39 = .ok (.ireturn, 1) := by decide +kernel
theorem dX7_brings_40 : decode cX7_brings 40 = .ok (.iconst (-1), 1) := by decide +kernel
theorem dX7_brings_41 : decode cX7_brings 41 = .ok (.istore_n 3, 1) := by decide +kernel
theorem dX7_brings_42 : decode cX7_brings 42 = .ok (.iconst 0, 1) := by decide +kernel
theorem dX7_brings_43 : decode cX7_brings 43 = .ok (.istore 4, 2) := by decide +kernel
theorem dX7_brings_45 : decode cX7_brings 45 = .ok (.iload 4, 2) := by decide +kernel
theorem dX7_brings_47 : decode cX7_brings 47 = .ok (.aload_n 0, 1) := by decide +kernel
theorem dX7_brings_48 : decode cX7_brings 48 = .ok (.invokevirtual 97, 3) := by decide +kernel
theorem dX7_brings_51 : decode cX7_brings 51 = .ok (.if_icmp .gt 69, 3) := by decide +kernel
theorem dX7_brings_54 : decode cX7_brings 54 = .ok (.iload 4, 2) := by decide +kernel
theorem dX7_brings_56 : decode cX7_brings 56 = .ok (.aload_n 0, 1) := by decide +kernel
theorem dX7_brings_57 : decode cX7_brings 57 = .ok (.getfield 101, 3) := by decide +kernel
theorem dX7_brings_60 : decode cX7_brings 60 = .ok (.iconst (-1), 1) := by decide +kernel
theorem dX7_brings_61 : decode cX7_brings 61 = .ok (.ixor, 1) := by decide +kernel
theorem dX7_brings_62 : decode cX7_brings 62 = .ok (.iand, 1) := by decide +kernel
theorem dX7_brings_63 : decode cX7_brings 63 = .ok (.ifCond .ne 51, 3) := by decide +kernel
theorem dX7_brings_66 : decode cX7_brings 66 = .ok (.iload_n 3, 1) := by decide +kernel
theorem dX7_brings_67 : decode cX7_brings 67 = .ok (.iconst (-1), 1) := by decide +kernel
theorem dX7_brings_68 : decode cX7_brings 68 = .ok (.if_icmp .eq 15, 3) := by decide +kernel
theorem dX7_brings_71 : decode cX7_brings 71 = .ok (.iload 4, 2) := by decide +kernel
theorem dX7_brings_73 : decode cX7_brings 73 = .ok (.invokestatic 148, 3) := by decide +kernel
theorem dX7_brings_76 : decode cX7_brings 76 = .ok (.iload_n 3, 1) := by decide +kernel
theorem dX7_brings_77 : decode cX7_brings 77 = .ok (.invokestatic 148, 3) := by decide +kernel
theorem dX7_brings_80 : decode cX7_brings 80 = .ok (.if_icmp .ge 34, 3) := by decide +kernel
theorem dX7_brings_83 : decode cX7_brings 83 = .ok (.aload_n 0, 1) := by decide +kernel
theorem dX7_brings_84 : decode cX7_brings 84 = .ok (.iconst 0, 1) := by decide +kernel
theorem dX7_brings_85 : decode cX7_brings 85 = .ok (.aload_n 0, 1) := by decide +kernel
theorem dX7_brings_86 : decode cX7_brings 86 = .ok (.invokevirtual 162, 3) := by decide +kernel
theorem dX7_brings_89 : decode cX7_brings 89 = .ok (.iload 4, 2) := by decide +kernel
theorem dX7_brings_91 : decode cX7_brings 91 = .ok (.ior, 1) := by decide +kernel
theorem dX7_brings_92 : decode cX7_brings 92 = .ok (.invokevirtual 193, 3) := by decide +kernel
theorem dX7_brings_95 : decode cX7_brings 95 = .ok (.aload_n 0, 1) := by decide +kernel
theorem dX7_brings_96 : decode cX7_brings 96 = .ok (.invokevirtual 203, 3) := by decide +kernel
theorem dX7_brings_99 : decode cX7_brings 99 = .ok (.iload_n 1, 1) := by decide +kernel
theorem dX7_brings_100 : decode cX7_brings 100 = .ok (.ishr, 1) := by decide +kernel
theorem dX7_brings_101 : decode cX7_brings 101 = .ok (.iconst 1, 1) := by decide +kernel
theorem dX7_brings_102 : decode cX7_brings 102 = .ok (.iand, 1) := by decide +kernel
theorem dX7_brings_103 : decode cX7_brings 103 = .ok (.iload_n 2, 1) := by decide +kernel
theorem dX7_brings_104 : decode cX7_brings 104 = .ok (.if_icmp .ne 8, 3) := by decide +kernel
theorem dX7_brings_107 : decode cX7_brings 107 = .ok (.iload 4, 2) := by decide +kernel
theorem dX7_brings_109 : decode cX7_brings 109 = .ok (.goto 4, 3) := by decide +kernel
theorem dX7_brings_112 : decode cX7_brings 112 = .ok (.iload_n 3, 1) := by decide +kernel
theorem dX7_brings_113 : decode cX7_brings 113 = .ok (.istore_n 3, 1) := by decide +kernel
theorem dX7_brings_114 : decode cX7_brings 114 = .ok (.iinc 4 1, 3) := by decide +kernel
theorem dX7_brings_117 : decode cX7_brings 117 = .ok (.goto (-72), 3) := by decide +kernel
theorem dX7_brings_120 : decode cX7_brings 120 = .ok (.iload_n 3, 1) := by decide +kernel
theorem dX7_brings_121 : decode cX7_brings 121 = .ok (.ireturn, 1) := by decide +kernel
theorem dX7_part_0 : decode cX7_part 0 = .ok (.aload_n 0, 1) := by decide +kernel
theorem dX7_part_1 : decode cX7_part 1 = .ok (.iconst 0, 1) := by decide +kernel
theorem dX7_part_2 : decode cX7_part 2 = .ok (.invokevirtual 133, 3) := by decide +kernel
theorem dX7_part_5 : decode cX7_part 5 = .ok (.aload_n 0, 1) := by decide +kernel
theorem dX7_part_6 : decode cX7_part 6 = .ok (.iconst 1, 1) := by decide +kernel
theorem dX7_part_7 : decode cX7_part 7 = .ok (.invokevirtual 133, 3) := by decide +kernel
theorem dX7_part_10 : decode cX7_part 10 = .ok (.aload_n 0, 1) := by decide +kernel
theorem dX7_part_11 : decode cX7_part 11 = .ok (.invokevirtual 114, 3) := by decide +kernel
theorem dX7_part_14 : decode cX7_part 14 = .ok (.iconst (-1), 1) := by decide +kernel
theorem dX7_part_15 : decode cX7_part 15 = .ok (.istore_n 1, 1) := by decide +kernel
theorem dX7_part_16 : decode cX7_part 16 = .ok (.iconst 1, 1) := by decide +kernel
theorem dX7_part_17 : decode cX7_part 17 = .ok (.istore_n 2, 1) := by decide +kernel
theorem dX7_part_18 : decode cX7_part 18 = .ok (.iload_n 2, 1) := by decide +kernel
theorem dX7_part_19 : decode cX7_part 19 = .ok (.aload_n 0, 1) := by decide +kernel
theorem dX7_part_20 : decode cX7_part 20 = .ok (.invokevirtual 97, 3) := by decide +kernel
theorem dX7_part_23 : decode cX7_part 23 = .ok (.if_icmp .gt 68, 3) := by decide +kernel
theorem dX7_part_26 : decode cX7_part 26 = .ok (.iload_n 2, 1) := by decide +kernel
theorem dX7_part_27 : decode cX7_part 27 = .ok (.aload_n 0, 1) := by decide +kernel
theorem dX7_part_28 : decode cX7_part 28 = .ok (.getfield 101, 3) := by decide +kernel
theorem dX7_part_31 : decode cX7_part 31 = .ok (.iand, 1) := by decide +kernel
theorem dX7_part_32 : decode cX7_part 32 = .ok (.ifCond .ne 53, 3) := by decide +kernel
theorem dX7_part_35 : decode cX7_part 35 = .ok (.iload_n 1, 1) := by decide +kernel
theorem dX7_part_36 : decode cX7_part 36 = .ok (.iconst (-1), 1) := by decide +kernel
theorem dX7_part_37 : decode cX7_part 37 = .ok (.if_icmp .eq 14, 3) := by decide +kernel
theorem dX7_part_40 : decode cX7_part 40 = .ok (.iload_n 2, 1) := by decide +kernel
theorem dX7_part_41 : decode cX7_part 41 = .ok (.invokestatic 148, 3) := by decide +kernel
theorem dX7_part_44 : decode cX7_part 44 = .ok (.iload_n 1, 1) := by decide +kernel
theorem dX7_part_45 : decode cX7_part 45 = .ok (.invokestatic 148, 3) := by decide +kernel
theorem dX7_part_48 : decode cX7_part 48 = .ok (.if_icmp .ge 37, 3) := by decide +kernel
theorem dX7_part_51 : decode cX7_part 51 = .ok (.aload_n 0, 1) := by decide +kernel
theorem dX7_part_52 : decode cX7_part 52 = .ok (.iload_n 2, 1) := by decide +kernel
theorem dX7_part_53 : decode cX7_part 53 = .ok (.invokevirtual 165, 3) := by decide +kernel
theorem dX7_part_56 : decode cX7_part 56 = .ok (.aload_n 0, 1) := by decide +kernel
theorem dX7_part_57 : decode cX7_part 57 = .ok (.iconst 0, 1) := by decide +kernel
theorem dX7_part_58 : decode cX7_part 58 = .ok (.invokevirtual 168, 3) := by decide +kernel
theorem dX7_part_61 : decode cX7_part 61 = .ok (.aload_n 0, 1) := by decide +kernel
theorem dX7_part_62 : decode cX7_part 62 = .ok (.getfield 136, 3) := by decide +kernel
theorem dX7_part_65 : decode cX7_part 65 = .ok (.istore_n 3, 1) := by decide +kernel
theorem dX7_part_66 : decode cX7_part 66 = .ok (.aload_n 0, 1) := by decide +kernel
theorem dX7_part_67 : decode cX7_part 67 = .ok (.iconst 1, 1) := by decide +kernel
theorem dX7_part_68 : decode cX7_part 68 = .ok (.invokevirtual 168, 3) := by decide +kernel
theorem dX7_part_71 : decode cX7_part 71 = .ok (.iload_n 3, 1) := by decide +kernel
theorem dX7_part_72 : decode cX7_part 72 = .ok (.aload_n 0, 1) := by decide +kernel
theorem dX7_part_73 : decode cX7_part 73 = .ok (.getfield 136, 3) := by decide +kernel
theorem dX7_part_76 : decode cX7_part 76 = .ok (.if_icmp .eq 7, 3) := by decide +kernel
theorem dX7_part_79 : decode cX7_part 79 = .ok (.iload_n 2, 1) := by decide +kernel
theorem dX7_part_80 : decode cX7_part 80 = .ok (.goto 4, 3) := by decide +kernel
theorem dX7_part_83 : decode cX7_part 83 = .ok (.iload_n 1, 1) := by decide +kernel
theorem dX7_part_84 : decode cX7_part 84 = .ok (.istore_n 1, 1) := by decide +kernel
theorem dX7_part_85 : decode cX7_part 85 = .ok (.iinc 2 1, 3) := by decide +kernel
theorem dX7_part_88 : decode cX7_part 88 = .ok (.goto (-70), 3) := by decide +kernel
theorem dX7_part_91 : decode cX7_part 91 = .ok (.iload_n 1, 1) := by decide +kernel
theorem dX7_part_92 : decode cX7_part 92 = .ok (.ireturn, 1) := by decide +kernel
theorem dX7_meets_0 : decode cX7_meets 0 = .ok (.aload_n 0, 1) := by decide +kernel
theorem dX7_meets_1 : decode cX7_meets 1 = .ok (.iload_n 1, 1) := by decide +kernel
theorem dX7_meets_2 : decode cX7_meets 2 = .ok (.putfield 227, 3) := by decide +kernel
theorem dX7_meets_5 : decode cX7_meets 5 = .ok (.bipush (-10), 2) := by decide +kernel
theorem dX7_meets_7 : decode cX7_meets 7 = .ok (.iload_n 1, 1) := by decide +kernel
theorem dX7_meets_8 : decode cX7_meets 8 = .ok (.isub, 1) := by decide +kernel
theorem dX7_meets_9 : decode cX7_meets 9 = .ok (.ireturn, 1) := by decide +kernel
theorem dX7_isSheet_0 : decode cX7_isSheet 0 = .ok (.iload_n 0, 1) := by decide +kernel
theorem dX7_isSheet_1 : decode cX7_isSheet 1 = .ok (.iconst 0, 1) := by decide +kernel
theorem dX7_isSheet_2 : decode cX7_isSheet 2 = .ok (.iconst 3, 1) := by decide +kernel
theorem dX7_isSheet_3 : decode cX7_isSheet 3 = .ok (.invokestatic 71, 3) := by decide +kernel
theorem dX7_isSheet_6 : decode cX7_isSheet 6 = .ok (.ireturn, 1) := by decide +kernel
theorem dX7_sheet_0 : decode cX7_sheet 0 = .ok (.iload_n 1, 1) := by decide +kernel
theorem dX7_sheet_1 : decode cX7_sheet 1 = .ok (.invokestatic 90, 3) := by decide +kernel
theorem dX7_sheet_4 : decode cX7_sheet 4 = .ok (.ifCond .eq 18, 3) := by decide +kernel
theorem dX7_sheet_7 : decode cX7_sheet 7 = .ok (.iload_n 2, 1) := by decide +kernel
theorem dX7_sheet_8 : decode cX7_sheet 8 = .ok (.iconst 0, 1) := by decide +kernel
theorem dX7_sheet_9 : decode cX7_sheet 9 = .ok (.iconst 2, 1) := by decide +kernel
theorem dX7_sheet_10 : decode cX7_sheet 10 = .ok (.invokestatic 71, 3) := by decide +kernel
theorem dX7_sheet_13 : decode cX7_sheet 13 = .ok (.ifCond .eq 9, 3) := by decide +kernel
theorem dX7_sheet_16 : decode cX7_sheet 16 = .ok (.iload_n 3, 1) := by decide +kernel
theorem dX7_sheet_17 : decode cX7_sheet 17 = .ok (.bipush 40, 2) := by decide +kernel
theorem dX7_sheet_19 : decode cX7_sheet 19 = .ok (.if_icmp .le 6, 3) := by decide +kernel
theorem dX7_sheet_22 : decode cX7_sheet 22 = .ok (.bipush (-2), 2) := by decide +kernel
theorem dX7_sheet_24 : decode cX7_sheet 24 = .ok (.ireturn, 1) := by decide +kernel
theorem dX7_sheet_25 : decode cX7_sheet 25 = .ok (.iload_n 3, 1) := by decide +kernel
theorem dX7_sheet_26 : decode cX7_sheet 26 = .ok (.ifCond .ge 9, 3) := by decide +kernel
theorem dX7_sheet_29 : decode cX7_sheet 29 = .ok (.aload_n 0, 1) := by decide +kernel
theorem dX7_sheet_30 : decode cX7_sheet 30 = .ok (.iconst 5, 1) := by decide +kernel
theorem dX7_sheet_31 : decode cX7_sheet 31 = .ok (.invokevirtual 93, 3) := by decide +kernel
theorem dX7_sheet_34 : decode cX7_sheet 34 = .ok (.ireturn, 1) := by decide +kernel
theorem dX7_sheet_35 : decode cX7_sheet 35 = .ok (.aload_n 0, 1) := by decide +kernel
theorem dX7_sheet_36 : decode cX7_sheet 36 = .ok (.getfield 56, 3) := by decide +kernel
theorem dX7_sheet_39 : decode cX7_sheet 39 = .ok (.iload_n 1, 1) := by decide +kernel
theorem dX7_sheet_40 : decode cX7_sheet 40 = .ok (.iconst 1, 1) := by decide +kernel
theorem dX7_sheet_41 : decode cX7_sheet 41 = .ok (.bastore, 1) := by decide +kernel
theorem dX7_sheet_42 : decode cX7_sheet 42 = .ok (.aload_n 0, 1) := by decide +kernel
theorem dX7_sheet_43 : decode cX7_sheet 43 = .ok (.getfield 59, 3) := by decide +kernel
theorem dX7_sheet_46 : decode cX7_sheet 46 = .ok (.iload_n 1, 1) := by decide +kernel
theorem dX7_sheet_47 : decode cX7_sheet 47 = .ok (.iload_n 2, 1) := by decide +kernel
theorem dX7_sheet_48 : decode cX7_sheet 48 = .ok (.iastore, 1) := by decide +kernel
theorem dX7_sheet_49 : decode cX7_sheet 49 = .ok (.aload_n 0, 1) := by decide +kernel
theorem dX7_sheet_50 : decode cX7_sheet 50 = .ok (.getfield 62, 3) := by decide +kernel
theorem dX7_sheet_53 : decode cX7_sheet 53 = .ok (.iload_n 1, 1) := by decide +kernel
theorem dX7_sheet_54 : decode cX7_sheet 54 = .ok (.iload_n 3, 1) := by decide +kernel
theorem dX7_sheet_55 : decode cX7_sheet 55 = .ok (.iastore, 1) := by decide +kernel
theorem dX7_sheet_56 : decode cX7_sheet 56 = .ok (.iconst 0, 1) := by decide +kernel
theorem dX7_sheet_57 : decode cX7_sheet 57 = .ok (.istore 4, 2) := by decide +kernel
theorem dX7_sheet_59 : decode cX7_sheet 59 = .ok (.iload 4, 2) := by decide +kernel
theorem dX7_sheet_61 : decode cX7_sheet 61 = .ok (.bipush 40, 2) := by decide +kernel
theorem dX7_sheet_63 : decode cX7_sheet 63 = .ok (.if_icmp .ge 22, 3) := by decide +kernel
theorem dX7_sheet_66 : decode cX7_sheet 66 = .ok (.aload_n 0, 1) := by decide +kernel
theorem dX7_sheet_67 : decode cX7_sheet 67 = .ok (.getfield 65, 3) := by decide +kernel
theorem dX7_sheet_70 : decode cX7_sheet 70 = .ok (.bipush 40, 2) := by decide +kernel
theorem dX7_sheet_72 : decode cX7_sheet 72 = .ok (.iload_n 1, 1) := by decide +kernel
theorem dX7_sheet_73 : decode cX7_sheet 73 = .ok (.imul, 1) := by decide +kernel
theorem dX7_sheet_74 : decode cX7_sheet 74 = .ok (.iload 4, 2) := by decide +kernel
theorem dX7_sheet_76 : decode cX7_sheet 76 = .ok (.iadd, 1) := by decide +kernel
theorem dX7_sheet_77 : decode cX7_sheet 77 = .ok (.iconst 0, 1) := by decide +kernel
theorem dX7_sheet_78 : decode cX7_sheet 78 = .ok (.iastore, 1) := by decide +kernel
theorem dX7_sheet_79 : decode cX7_sheet 79 = .ok (.iinc 4 1, 3) := by decide +kernel
theorem dX7_sheet_82 : decode cX7_sheet 82 = .ok (.goto (-23), 3) := by decide +kernel
theorem dX7_sheet_85 : decode cX7_sheet 85 = .ok (.iload_n 3, 1) := by decide +kernel
theorem dX7_sheet_86 : decode cX7_sheet 86 = .ok (.ireturn, 1) := by decide +kernel
theorem dX7_lose_0 : decode cX7_lose 0 = .ok (.iload_n 1, 1) := by decide +kernel
theorem dX7_lose_1 : decode cX7_lose 1 = .ok (.invokestatic 90, 3) := by decide +kernel
theorem dX7_lose_4 : decode cX7_lose 4 = .ok (.ifCond .ne 6, 3) := by decide +kernel
theorem dX7_lose_7 : decode cX7_lose 7 = .ok (.bipush (-2), 2) := by decide +kernel
theorem dX7_lose_9 : decode cX7_lose 9 = .ok (.ireturn, 1) := by decide +kernel
theorem dX7_lose_10 : decode cX7_lose 10 = .ok (.aload_n 0, 1) := by decide +kernel
theorem dX7_lose_11 : decode cX7_lose 11 = .ok (.getfield 56, 3) := by decide +kernel
theorem dX7_lose_14 : decode cX7_lose 14 = .ok (.iload_n 1, 1) := by decide +kernel
theorem dX7_lose_15 : decode cX7_lose 15 = .ok (.baload, 1) := by decide +kernel
theorem dX7_lose_16 : decode cX7_lose 16 = .ok (.ifCond .ne 9, 3) := by decide +kernel
theorem dX7_lose_19 : decode cX7_lose 19 = .ok (.aload_n 0, 1) := by decide +kernel
theorem dX7_lose_20 : decode cX7_lose 20 = .ok (.iconst 1, 1) := by decide +kernel
theorem dX7_lose_21 : decode cX7_lose 21 = .ok (.invokevirtual 93, 3) := by decide +kernel
theorem dX7_lose_24 : decode cX7_lose 24 = .ok (.ireturn, 1) := by decide +kernel
theorem dX7_lose_25 : decode cX7_lose 25 = .ok (.aload_n 0, 1) := by decide +kernel
theorem dX7_lose_26 : decode cX7_lose 26 = .ok (.getfield 56, 3) := by decide +kernel
theorem dX7_lose_29 : decode cX7_lose 29 = .ok (.iload_n 1, 1) := by decide +kernel
theorem dX7_lose_30 : decode cX7_lose 30 = .ok (.iconst 0, 1) := by decide +kernel
theorem dX7_lose_31 : decode cX7_lose 31 = .ok (.bastore, 1) := by decide +kernel
theorem dX7_lose_32 : decode cX7_lose 32 = .ok (.aload_n 0, 1) := by decide +kernel
theorem dX7_lose_33 : decode cX7_lose 33 = .ok (.getfield 62, 3) := by decide +kernel
theorem dX7_lose_36 : decode cX7_lose 36 = .ok (.iload_n 1, 1) := by decide +kernel
theorem dX7_lose_37 : decode cX7_lose 37 = .ok (.iaload, 1) := by decide +kernel
theorem dX7_lose_38 : decode cX7_lose 38 = .ok (.ireturn, 1) := by decide +kernel
theorem dX7_lacks_0 : decode cX7_lacks 0 = .ok (.aload_n 0, 1) := by decide +kernel
theorem dX7_lacks_1 : decode cX7_lacks 1 = .ok (.getfield 56, 3) := by decide +kernel
theorem dX7_lacks_4 : decode cX7_lacks 4 = .ok (.iload_n 1, 1) := by decide +kernel
theorem dX7_lacks_5 : decode cX7_lacks 5 = .ok (.baload, 1) := by decide +kernel
theorem dX7_lacks_6 : decode cX7_lacks 6 = .ok (.ifCond .ne 7, 3) := by decide +kernel
theorem dX7_lacks_9 : decode cX7_lacks 9 = .ok (.iconst 1, 1) := by decide +kernel
theorem dX7_lacks_10 : decode cX7_lacks 10 = .ok (.goto 38, 3) := by decide +kernel
theorem dX7_lacks_13 : decode cX7_lacks 13 = .ok (.aload_n 0, 1) := by decide +kernel
theorem dX7_lacks_14 : decode cX7_lacks 14 = .ok (.getfield 59, 3) := by decide +kernel
theorem dX7_lacks_17 : decode cX7_lacks 17 = .ok (.iload_n 1, 1) := by decide +kernel
theorem dX7_lacks_18 : decode cX7_lacks 18 = .ok (.iaload, 1) := by decide +kernel
theorem dX7_lacks_19 : decode cX7_lacks 19 = .ok (.iload_n 2, 1) := by decide +kernel
theorem dX7_lacks_20 : decode cX7_lacks 20 = .ok (.if_icmp .eq 7, 3) := by decide +kernel
theorem dX7_lacks_23 : decode cX7_lacks 23 = .ok (.iconst 3, 1) := by decide +kernel
theorem dX7_lacks_24 : decode cX7_lacks 24 = .ok (.goto 24, 3) := by decide +kernel
theorem dX7_lacks_27 : decode cX7_lacks 27 = .ok (.iload_n 3, 1) := by decide +kernel
theorem dX7_lacks_28 : decode cX7_lacks 28 = .ok (.iconst 0, 1) := by decide +kernel
theorem dX7_lacks_29 : decode cX7_lacks 29 = .ok (.aload_n 0, 1) := by decide +kernel
theorem dX7_lacks_30 : decode cX7_lacks 30 = .ok (.getfield 62, 3) := by decide +kernel
theorem dX7_lacks_33 : decode cX7_lacks 33 = .ok (.iload_n 1, 1) := by decide +kernel
theorem dX7_lacks_34 : decode cX7_lacks 34 = .ok (.iaload, 1) := by decide +kernel
theorem dX7_lacks_35 : decode cX7_lacks 35 = .ok (.iconst 1, 1) := by decide +kernel
theorem dX7_lacks_36 : decode cX7_lacks 36 = .ok (.isub, 1) := by decide +kernel
theorem dX7_lacks_37 : decode cX7_lacks 37 = .ok (.invokestatic 71, 3) := by decide +kernel
theorem dX7_lacks_40 : decode cX7_lacks 40 = .ok (.ifCond .eq 7, 3) := by decide +kernel
theorem dX7_lacks_43 : decode cX7_lacks 43 = .ok (.iconst 0, 1) := by decide +kernel
theorem dX7_lacks_44 : decode cX7_lacks 44 = .ok (.goto 4, 3) := by decide +kernel
theorem dX7_lacks_47 : decode cX7_lacks 47 = .ok (.iconst 2, 1) := by decide +kernel
theorem dX7_lacks_48 : decode cX7_lacks 48 = .ok (.ireturn, 1) := by decide +kernel
theorem dX7_lay_0 : decode cX7_lay 0 = .ok (.aload_n 0, 1) := by decide +kernel
theorem dX7_lay_1 : decode cX7_lay 1 = .ok (.getfield 65, 3) := by decide +kernel
theorem dX7_lay_4 : decode cX7_lay 4 = .ok (.bipush 40, 2) := by decide +kernel
theorem dX7_lay_6 : decode cX7_lay 6 = .ok (.iload_n 1, 1) := by decide +kernel
theorem dX7_lay_7 : decode cX7_lay 7 = .ok (.imul, 1) := by decide +kernel
theorem dX7_lay_8 : decode cX7_lay 8 = .ok (.iload_n 2, 1) := by decide +kernel
theorem dX7_lay_9 : decode cX7_lay 9 = .ok (.iadd, 1) := by decide +kernel
theorem dX7_lay_10 : decode cX7_lay 10 = .ok (.aload_n 0, 1) := by decide +kernel
theorem dX7_lay_11 : decode cX7_lay 11 = .ok (.getfield 59, 3) := by decide +kernel
theorem dX7_lay_14 : decode cX7_lay 14 = .ok (.iload_n 1, 1) := by decide +kernel
theorem dX7_lay_15 : decode cX7_lay 15 = .ok (.iaload, 1) := by decide +kernel
theorem dX7_lay_16 : decode cX7_lay 16 = .ok (.ifCond .ne 8, 3) := by decide +kernel
theorem dX7_lay_19 : decode cX7_lay 19 = .ok (.iload_n 3, 1) := by decide +kernel
theorem dX7_lay_20 : decode cX7_lay 20 = .ok (.i2b, 1) := by decide +kernel
theorem dX7_lay_21 : decode cX7_lay 21 = .ok (.goto 19, 3) := by decide +kernel
theorem dX7_lay_24 : decode cX7_lay 24 = .ok (.aload_n 0, 1) := by decide +kernel
theorem dX7_lay_25 : decode cX7_lay 25 = .ok (.getfield 59, 3) := by decide +kernel
theorem dX7_lay_28 : decode cX7_lay 28 = .ok (.iload_n 1, 1) := by decide +kernel
theorem dX7_lay_29 : decode cX7_lay 29 = .ok (.iaload, 1) := by decide +kernel
theorem dX7_lay_30 : decode cX7_lay 30 = .ok (.iconst 1, 1) := by decide +kernel
theorem dX7_lay_31 : decode cX7_lay 31 = .ok (.if_icmp .ne 8, 3) := by decide +kernel
theorem dX7_lay_34 : decode cX7_lay 34 = .ok (.iload_n 3, 1) := by decide +kernel
theorem dX7_lay_35 : decode cX7_lay 35 = .ok (.i2s, 1) := by decide +kernel
theorem dX7_lay_36 : decode cX7_lay 36 = .ok (.goto 4, 3) := by decide +kernel
theorem dX7_lay_39 : decode cX7_lay 39 = .ok (.iload_n 3, 1) := by decide +kernel
theorem dX7_lay_40 : decode cX7_lay 40 = .ok (.iastore, 1) := by decide +kernel
theorem dX7_lay_41 : decode cX7_lay 41 = .ok (.return_, 1) := by decide +kernel
theorem dX7_put_0 : decode cX7_put 0 = .ok (.iload_n 1, 1) := by decide +kernel
theorem dX7_put_1 : decode cX7_put 1 = .ok (.invokestatic 90, 3) := by decide +kernel
theorem dX7_put_4 : decode cX7_put 4 = .ok (.ifCond .eq 12, 3) := by decide +kernel
theorem dX7_put_7 : decode cX7_put 7 = .ok (.iload_n 2, 1) := by decide +kernel
theorem dX7_put_8 : decode cX7_put 8 = .ok (.iconst 0, 1) := by decide +kernel
theorem dX7_put_9 : decode cX7_put 9 = .ok (.iconst 2, 1) := by decide +kernel
theorem dX7_put_10 : decode cX7_put 10 = .ok (.invokestatic 71, 3) := by decide +kernel
theorem dX7_put_13 : decode cX7_put 13 = .ok (.ifCond .ne 6, 3) := by decide +kernel
theorem dX7_put_16 : decode cX7_put 16 = .ok (.bipush (-2), 2) := by decide +kernel
theorem dX7_put_18 : decode cX7_put 18 = .ok (.ireturn, 1) := by decide +kernel
theorem dX7_put_19 : decode cX7_put 19 = .ok (.aload_n 0, 1) := by decide +kernel
theorem dX7_put_20 : decode cX7_put 20 = .ok (.iload_n 1, 1) := by decide +kernel
theorem dX7_put_21 : decode cX7_put 21 = .ok (.iload_n 2, 1) := by decide +kernel
theorem dX7_put_22 : decode cX7_put 22 = .ok (.iload_n 3, 1) := by decide +kernel
theorem dX7_put_23 : decode cX7_put 23 = .ok (.invokevirtual 230, 3) := by decide +kernel
theorem dX7_put_26 : decode cX7_put 26 = .ok (.istore 5, 2) := by decide +kernel
theorem dX7_put_28 : decode cX7_put 28 = .ok (.iload 5, 2) := by decide +kernel
theorem dX7_put_30 : decode cX7_put 30 = .ok (.ifCond .le 10, 3) := by decide +kernel
theorem dX7_put_33 : decode cX7_put 33 = .ok (.aload_n 0, 1) := by decide +kernel
theorem dX7_put_34 : decode cX7_put 34 = .ok (.iload 5, 2) := by decide +kernel
theorem dX7_put_36 : decode cX7_put 36 = .ok (.invokevirtual 93, 3) := by decide +kernel
theorem dX7_put_39 : decode cX7_put 39 = .ok (.ireturn, 1) := by decide +kernel
theorem dX7_put_40 : decode cX7_put 40 = .ok (.aload_n 0, 1) := by decide +kernel
theorem dX7_put_41 : decode cX7_put 41 = .ok (.iload_n 1, 1) := by decide +kernel
theorem dX7_put_42 : decode cX7_put 42 = .ok (.iload_n 3, 1) := by decide +kernel
theorem dX7_put_43 : decode cX7_put 43 = .ok (.iload 4, 2) := by decide +kernel
theorem dX7_put_45 : decode cX7_put 45 = .ok (.invokevirtual 234, 3) := by decide +kernel
theorem dX7_put_48 : decode cX7_put 48 = .ok (.iconst 1, 1) := by decide +kernel
theorem dX7_put_49 : decode cX7_put 49 = .ok (.ireturn, 1) := by decide +kernel
theorem dX7_get_0 : decode cX7_get 0 = .ok (.iload_n 1, 1) := by decide +kernel
theorem dX7_get_1 : decode cX7_get 1 = .ok (.invokestatic 90, 3) := by decide +kernel
theorem dX7_get_4 : decode cX7_get 4 = .ok (.ifCond .eq 12, 3) := by decide +kernel
theorem dX7_get_7 : decode cX7_get 7 = .ok (.iload_n 2, 1) := by decide +kernel
theorem dX7_get_8 : decode cX7_get 8 = .ok (.iconst 0, 1) := by decide +kernel
theorem dX7_get_9 : decode cX7_get 9 = .ok (.iconst 2, 1) := by decide +kernel
theorem dX7_get_10 : decode cX7_get 10 = .ok (.invokestatic 71, 3) := by decide +kernel
theorem dX7_get_13 : decode cX7_get 13 = .ok (.ifCond .ne 6, 3) := by decide +kernel
theorem dX7_get_16 : decode cX7_get 16 = .ok (.ldc 238, 2) := by decide +kernel
theorem dX7_get_18 : decode cX7_get 18 = .ok (.ireturn, 1) := by decide +kernel
theorem dX7_get_19 : decode cX7_get 19 = .ok (.aload_n 0, 1) := by decide +kernel
theorem dX7_get_20 : decode cX7_get 20 = .ok (.iload_n 1, 1) := by decide +kernel
theorem dX7_get_21 : decode cX7_get 21 = .ok (.iload_n 2, 1) := by decide +kernel
theorem dX7_get_22 : decode cX7_get 22 = .ok (.iload_n 3, 1) := by decide +kernel
theorem dX7_get_23 : decode cX7_get 23 = .ok (.invokevirtual 230, 3) := by decide +kernel
theorem dX7_get_26 : decode cX7_get 26 = .ok (.istore 4, 2) := by decide +kernel
theorem dX7_get_28 : decode cX7_get 28 = .ok (.iload 4, 2) := by decide +kernel
theorem dX7_get_30 : decode cX7_get 30 = .ok (.ifCond .le 12, 3) := by decide +kernel
theorem dX7_get_33 : decode cX7_get 33 = .ok (.aload_n 0, 1) := by decide +kernel
theorem dX7_get_34 : decode cX7_get 34 = .ok (.iload 4, 2) := by decide +kernel
theorem dX7_get_36 : decode cX7_get 36 = .ok (.putfield 227, 3) := by decide +kernel
theorem dX7_get_39 : decode cX7_get 39 = .ok (.ldc 238, 2) := by decide +kernel
theorem dX7_get_41 : decode cX7_get 41 = .ok (.ireturn, 1) := by decide +kernel
theorem dX7_get_42 : decode cX7_get 42 = .ok (.aload_n 0, 1) := by decide +kernel
theorem dX7_get_43 : decode cX7_get 43 = .ok (.getfield 65, 3) := by decide +kernel
theorem dX7_get_46 : decode cX7_get 46 = .ok (.bipush 40, 2) := by decide +kernel
theorem dX7_get_48 : decode cX7_get 48 = .ok (.iload_n 1, 1) := by decide +kernel
theorem dX7_get_49 : decode cX7_get 49 = .ok (.imul, 1) := by decide +kernel
theorem dX7_get_50 : decode cX7_get 50 = .ok (.iload_n 3, 1) := by decide +kernel
theorem dX7_get_51 : decode cX7_get 51 = .ok (.iadd, 1) := by decide +kernel
theorem dX7_get_52 : decode cX7_get 52 = .ok (.iaload, 1) := by decide +kernel
theorem dX7_get_53 : decode cX7_get 53 = .ok (.ireturn, 1) := by decide +kernel
theorem dX7_copy_0 : decode cX7_copy 0 = .ok (.iload_n 1, 1) := by decide +kernel
theorem dX7_copy_1 : decode cX7_copy 1 = .ok (.invokestatic 90, 3) := by decide +kernel
theorem dX7_copy_4 : decode cX7_copy 4 = .ok (.ifCond .eq 10, 3) := by decide +kernel
theorem dX7_copy_7 : decode cX7_copy 7 = .ok (.iload_n 3, 1) := by decide +kernel
theorem dX7_copy_8 : decode cX7_copy 8 = .ok (.invokestatic 90, 3) := by decide +kernel
theorem dX7_copy_11 : decode cX7_copy 11 = .ok (.ifCond .ne 6, 3) := by decide +kernel
theorem dX7_copy_14 : decode cX7_copy 14 = .ok (.bipush (-2), 2) := by decide +kernel
theorem dX7_copy_16 : decode cX7_copy 16 = .ok (.ireturn, 1) := by decide +kernel
theorem dX7_copy_17 : decode cX7_copy 17 = .ok (.aload_n 0, 1) := by decide +kernel
theorem dX7_copy_18 : decode cX7_copy 18 = .ok (.getfield 56, 3) := by decide +kernel
theorem dX7_copy_21 : decode cX7_copy 21 = .ok (.iload_n 1, 1) := by decide +kernel
theorem dX7_copy_22 : decode cX7_copy 22 = .ok (.baload, 1) := by decide +kernel
theorem dX7_copy_23 : decode cX7_copy 23 = .ok (.ifCond .eq 12, 3) := by decide +kernel
theorem dX7_copy_26 : decode cX7_copy 26 = .ok (.aload_n 0, 1) := by decide +kernel
theorem dX7_copy_27 : decode cX7_copy 27 = .ok (.getfield 56, 3) := by decide +kernel
theorem dX7_copy_30 : decode cX7_copy 30 = .ok (.iload_n 3, 1) := by decide +kernel
theorem dX7_copy_31 : decode cX7_copy 31 = .ok (.baload, 1) := by decide +kernel
theorem dX7_copy_32 : decode cX7_copy 32 = .ok (.ifCond .ne 9, 3) := by decide +kernel
theorem dX7_copy_35 : decode cX7_copy 35 = .ok (.aload_n 0, 1) := by decide +kernel
theorem dX7_copy_36 : decode cX7_copy 36 = .ok (.iconst 1, 1) := by decide +kernel
theorem dX7_copy_37 : decode cX7_copy 37 = .ok (.invokevirtual 93, 3) := by decide +kernel
theorem dX7_copy_40 : decode cX7_copy 40 = .ok (.ireturn, 1) := by decide +kernel
theorem dX7_copy_41 : decode cX7_copy 41 = .ok (.aload_n 0, 1) := by decide +kernel
theorem dX7_copy_42 : decode cX7_copy 42 = .ok (.getfield 59, 3) := by decide +kernel
theorem dX7_copy_45 : decode cX7_copy 45 = .ok (.iload_n 1, 1) := by decide +kernel
theorem dX7_copy_46 : decode cX7_copy 46 = .ok (.iaload, 1) := by decide +kernel
theorem dX7_copy_47 : decode cX7_copy 47 = .ok (.aload_n 0, 1) := by decide +kernel
theorem dX7_copy_48 : decode cX7_copy 48 = .ok (.getfield 59, 3) := by decide +kernel
theorem dX7_copy_51 : decode cX7_copy 51 = .ok (.iload_n 3, 1) := by decide +kernel
theorem dX7_copy_52 : decode cX7_copy 52 = .ok (.iaload, 1) := by decide +kernel
theorem dX7_copy_53 : decode cX7_copy 53 = .ok (.if_icmp .eq 9, 3) := by decide +kernel
theorem dX7_copy_56 : decode cX7_copy 56 = .ok (.aload_n 0, 1) := by decide +kernel
theorem dX7_copy_57 : decode cX7_copy 57 = .ok (.iconst 4, 1) := by decide +kernel
theorem dX7_copy_58 : decode cX7_copy 58 = .ok (.invokevirtual 93, 3) := by decide +kernel
theorem dX7_copy_61 : decode cX7_copy 61 = .ok (.ireturn, 1) := by decide +kernel
theorem dX7_copy_62 : decode cX7_copy 62 = .ok (.iload_n 2, 1) := by decide +kernel
theorem dX7_copy_63 : decode cX7_copy 63 = .ok (.ifCond .lt 48, 3) := by decide +kernel
theorem dX7_copy_66 : decode cX7_copy 66 = .ok (.iload 4, 2) := by decide +kernel
theorem dX7_copy_68 : decode cX7_copy 68 = .ok (.ifCond .lt 43, 3) := by decide +kernel
theorem dX7_copy_71 : decode cX7_copy 71 = .ok (.iload 5, 2) := by decide +kernel
theorem dX7_copy_73 : decode cX7_copy 73 = .ok (.ifCond .lt 38, 3) := by decide +kernel
theorem dX7_copy_76 : decode cX7_copy 76 = .ok (.iload_n 2, 1) := by decide +kernel
theorem dX7_copy_77 : decode cX7_copy 77 = .ok (.i2l, 1) := by decide +kernel
theorem dX7_copy_78 : decode cX7_copy 78 = .ok (.iload 5, 2) := by decide +kernel
theorem dX7_copy_80 : decode cX7_copy 80 = .ok (.i2l, 1) := by decide +kernel
theorem dX7_copy_81 : decode cX7_copy 81 = .ok (.ladd, 1) := by decide +kernel
theorem dX7_copy_82 : decode cX7_copy 82 = .ok (.aload_n 0, 1) := by decide +kernel
theorem dX7_copy_83 : decode cX7_copy 83 = .ok (.getfield 62, 3) := by decide +kernel
theorem dX7_copy_86 : decode cX7_copy 86 = .ok (.iload_n 1, 1) := by decide +kernel
theorem dX7_copy_87 : decode cX7_copy 87 = .ok (.iaload, 1) := by decide +kernel
theorem dX7_copy_88 : decode cX7_copy 88 = .ok (.i2l, 1) := by decide +kernel
theorem dX7_copy_89 : decode cX7_copy 89 = .ok (.lcmp, 1) := by decide +kernel
theorem dX7_copy_90 : decode cX7_copy 90 = .ok (.ifCond .gt 21, 3) := by decide +kernel
theorem dX7_copy_93 : decode cX7_copy 93 = .ok (.iload 4, 2) := by decide +kernel
theorem dX7_copy_95 : decode cX7_copy 95 = .ok (.i2l, 1) := by decide +kernel
theorem dX7_copy_96 : decode cX7_copy 96 = .ok (.iload 5, 2) := by decide +kernel
theorem dX7_copy_98 : decode cX7_copy 98 = .ok (.i2l, 1) := by decide +kernel
theorem dX7_copy_99 : decode cX7_copy 99 = .ok (.ladd, 1) := by decide +kernel
theorem dX7_copy_100 : decode cX7_copy 100 = .ok (.aload_n 0, 1) := by decide +kernel
theorem dX7_copy_101 : decode cX7_copy 101 = .ok (.getfield 62, 3) := by decide +kernel
theorem dX7_copy_104 : decode cX7_copy 104 = .ok (.iload_n 3, 1) := by decide +kernel
theorem dX7_copy_105 : decode cX7_copy 105 = .ok (.iaload, 1) := by decide +kernel
theorem dX7_copy_106 : decode cX7_copy 106 = .ok (.i2l, 1) := by decide +kernel
theorem dX7_copy_107 : decode cX7_copy 107 = .ok (.lcmp, 1) := by decide +kernel
theorem dX7_copy_108 : decode cX7_copy 108 = .ok (.ifCond .le 9, 3) := by decide +kernel
theorem dX7_copy_111 : decode cX7_copy 111 = .ok (.aload_n 0, 1) := by decide +kernel
theorem dX7_copy_112 : decode cX7_copy 112 = .ok (.iconst 2, 1) := by decide +kernel
theorem dX7_copy_113 : decode cX7_copy 113 = .ok (.invokevirtual 93, 3) := by decide +kernel
theorem dX7_copy_116 : decode cX7_copy 116 = .ok (.ireturn, 1) := by decide +kernel
theorem dX7_copy_117 : decode cX7_copy 117 = .ok (.iconst 0, 1) := by decide +kernel
theorem dX7_copy_118 : decode cX7_copy 118 = .ok (.istore 6, 2) := by decide +kernel
theorem dX7_copy_120 : decode cX7_copy 120 = .ok (.iload 6, 2) := by decide +kernel
theorem dX7_copy_122 : decode cX7_copy 122 = .ok (.iload 5, 2) := by decide +kernel
theorem dX7_copy_124 : decode cX7_copy 124 = .ok (.if_icmp .ge 30, 3) := by decide +kernel
theorem dX7_copy_127 : decode cX7_copy 127 = .ok (.aload_n 0, 1) := by decide +kernel
theorem dX7_copy_128 : decode cX7_copy 128 = .ok (.getfield 68, 3) := by decide +kernel
theorem dX7_copy_131 : decode cX7_copy 131 = .ok (.iload 6, 2) := by decide +kernel
theorem dX7_copy_133 : decode cX7_copy 133 = .ok (.aload_n 0, 1) := by decide +kernel
theorem dX7_copy_134 : decode cX7_copy 134 = .ok (.getfield 65, 3) := by decide +kernel
theorem dX7_copy_137 : decode cX7_copy 137 = .ok (.bipush 40, 2) := by decide +kernel
theorem dX7_copy_139 : decode cX7_copy 139 = .ok (.iload_n 1, 1) := by decide +kernel
theorem dX7_copy_140 : decode cX7_copy 140 = .ok (.imul, 1) := by decide +kernel
theorem dX7_copy_141 : decode cX7_copy 141 = .ok (.iload_n 2, 1) := by decide +kernel
theorem dX7_copy_142 : decode cX7_copy 142 = .ok (.iadd, 1) := by decide +kernel
theorem dX7_copy_143 : decode cX7_copy 143 = .ok (.iload 6, 2) := by decide +kernel
theorem dX7_copy_145 : decode cX7_copy 145 = .ok (.iadd, 1) := by decide +kernel
theorem dX7_copy_146 : decode cX7_copy 146 = .ok (.iaload, 1) := by decide +kernel
theorem dX7_copy_147 : decode cX7_copy 147 = .ok (.iastore, 1) := by decide +kernel
theorem dX7_copy_148 : decode cX7_copy 148 = .ok (.iinc 6 1, 3) := by decide +kernel
theorem dX7_copy_151 : decode cX7_copy 151 = .ok (.goto (-31), 3) := by decide +kernel
theorem dX7_copy_154 : decode cX7_copy 154 = .ok (.iconst 0, 1) := by decide +kernel
theorem dX7_copy_155 : decode cX7_copy 155 = .ok (.istore 6, 2) := by decide +kernel
theorem dX7_copy_157 : decode cX7_copy 157 = .ok (.iload 6, 2) := by decide +kernel
theorem dX7_copy_159 : decode cX7_copy 159 = .ok (.iload 5, 2) := by decide +kernel
theorem dX7_copy_161 : decode cX7_copy 161 = .ok (.if_icmp .ge 31, 3) := by decide +kernel
theorem dX7_copy_164 : decode cX7_copy 164 = .ok (.aload_n 0, 1) := by decide +kernel
theorem dX7_copy_165 : decode cX7_copy 165 = .ok (.getfield 65, 3) := by decide +kernel
theorem dX7_copy_168 : decode cX7_copy 168 = .ok (.bipush 40, 2) := by decide +kernel
theorem dX7_copy_170 : decode cX7_copy 170 = .ok (.iload_n 3, 1) := by decide +kernel
theorem dX7_copy_171 : decode cX7_copy 171 = .ok (.imul, 1) := by decide +kernel
theorem dX7_copy_172 : decode cX7_copy 172 = .ok (.iload 4, 2) := by decide +kernel
theorem dX7_copy_174 : decode cX7_copy 174 = .ok (.iadd, 1) := by decide +kernel
theorem dX7_copy_175 : decode cX7_copy 175 = .ok (.iload 6, 2) := by decide +kernel
theorem dX7_copy_177 : decode cX7_copy 177 = .ok (.iadd, 1) := by decide +kernel
theorem dX7_copy_178 : decode cX7_copy 178 = .ok (.aload_n 0, 1) := by decide +kernel
theorem dX7_copy_179 : decode cX7_copy 179 = .ok (.getfield 68, 3) := by decide +kernel
theorem dX7_copy_182 : decode cX7_copy 182 = .ok (.iload 6, 2) := by decide +kernel
theorem dX7_copy_184 : decode cX7_copy 184 = .ok (.iaload, 1) := by decide +kernel
theorem dX7_copy_185 : decode cX7_copy 185 = .ok (.iastore, 1) := by decide +kernel
theorem dX7_copy_186 : decode cX7_copy 186 = .ok (.iinc 6 1, 3) := by decide +kernel
theorem dX7_copy_189 : decode cX7_copy 189 = .ok (.goto (-32), 3) := by decide +kernel
theorem dX7_copy_192 : decode cX7_copy 192 = .ok (.iconst 1, 1) := by decide +kernel
theorem dX7_copy_193 : decode cX7_copy 193 = .ok (.ireturn, 1) := by decide +kernel
theorem dX7_write_0 : decode cX7_write 0 = .ok (.iload_n 1, 1) := by decide +kernel
theorem dX7_write_1 : decode cX7_write 1 = .ok (.invokestatic 90, 3) := by decide +kernel
theorem dX7_write_4 : decode cX7_write 4 = .ok (.ifCond .ne 6, 3) := by decide +kernel
theorem dX7_write_7 : decode cX7_write 7 = .ok (.bipush (-2), 2) := by decide +kernel
theorem dX7_write_9 : decode cX7_write 9 = .ok (.ireturn, 1) := by decide +kernel
theorem dX7_write_10 : decode cX7_write 10 = .ok (.aload_n 0, 1) := by decide +kernel
theorem dX7_write_11 : decode cX7_write 11 = .ok (.getfield 56, 3) := by decide +kernel
theorem dX7_write_14 : decode cX7_write 14 = .ok (.iload_n 1, 1) := by decide +kernel
theorem dX7_write_15 : decode cX7_write 15 = .ok (.baload, 1) := by decide +kernel
theorem dX7_write_16 : decode cX7_write 16 = .ok (.ifCond .ne 9, 3) := by decide +kernel
theorem dX7_write_19 : decode cX7_write 19 = .ok (.aload_n 0, 1) := by decide +kernel
theorem dX7_write_20 : decode cX7_write 20 = .ok (.iconst 1, 1) := by decide +kernel
theorem dX7_write_21 : decode cX7_write 21 = .ok (.invokevirtual 93, 3) := by decide +kernel
theorem dX7_write_24 : decode cX7_write 24 = .ok (.ireturn, 1) := by decide +kernel
theorem dX7_write_25 : decode cX7_write 25 = .ok (.aload_n 0, 1) := by decide +kernel
theorem dX7_write_26 : decode cX7_write 26 = .ok (.iconst 0, 1) := by decide +kernel
theorem dX7_write_27 : decode cX7_write 27 = .ok (.invokevirtual 171, 3) := by decide +kernel
theorem dX7_write_30 : decode cX7_write 30 = .ok (.iconst 0, 1) := by decide +kernel
theorem dX7_write_31 : decode cX7_write 31 = .ok (.istore_n 2, 1) := by decide +kernel
theorem dX7_write_32 : decode cX7_write 32 = .ok (.iload_n 2, 1) := by decide +kernel
theorem dX7_write_33 : decode cX7_write 33 = .ok (.bipush 10, 2) := by decide +kernel
theorem dX7_write_35 : decode cX7_write 35 = .ok (.if_icmp .ge 30, 3) := by decide +kernel
theorem dX7_write_38 : decode cX7_write 38 = .ok (.iload_n 2, 1) := by decide +kernel
theorem dX7_write_39 : decode cX7_write 39 = .ok (.aload_n 0, 1) := by decide +kernel
theorem dX7_write_40 : decode cX7_write 40 = .ok (.getfield 62, 3) := by decide +kernel
theorem dX7_write_43 : decode cX7_write 43 = .ok (.iload_n 1, 1) := by decide +kernel
theorem dX7_write_44 : decode cX7_write 44 = .ok (.iaload, 1) := by decide +kernel
theorem dX7_write_45 : decode cX7_write 45 = .ok (.if_icmp .ge 20, 3) := by decide +kernel
theorem dX7_write_48 : decode cX7_write 48 = .ok (.aload_n 0, 1) := by decide +kernel
theorem dX7_write_49 : decode cX7_write 49 = .ok (.iload_n 1, 1) := by decide +kernel
theorem dX7_write_50 : decode cX7_write 50 = .ok (.iload_n 2, 1) := by decide +kernel
theorem dX7_write_51 : decode cX7_write 51 = .ok (.aload_n 0, 1) := by decide +kernel
theorem dX7_write_52 : decode cX7_write 52 = .ok (.iload_n 2, 1) := by decide +kernel
theorem dX7_write_53 : decode cX7_write 53 = .ok (.invokevirtual 180, 3) := by decide +kernel
theorem dX7_write_56 : decode cX7_write 56 = .ok (.invokevirtual 234, 3) := by decide +kernel
theorem dX7_write_59 : decode cX7_write 59 = .ok (.iinc 2 1, 3) := by decide +kernel
theorem dX7_write_62 : decode cX7_write 62 = .ok (.goto (-30), 3) := by decide +kernel
theorem dX7_write_65 : decode cX7_write 65 = .ok (.iload_n 2, 1) := by decide +kernel
theorem dX7_write_66 : decode cX7_write 66 = .ok (.ireturn, 1) := by decide +kernel
