theorem dX5_init_0 : decode cX5_init 0 = .ok (.aload_n 0, 1) := by decide +kernel
theorem dX5_init_1 : decode cX5_init 1 = .ok (.invokespecial 3, 3) := by decide +kernel
theorem dX5_init_4 : decode cX5_init 4 = .ok (.aload_n 0, 1) := by decide +kernel
theorem dX5_init_5 : decode cX5_init 5 = .ok (.bipush 10, 2) := by decide +kernel
theorem dX5_init_7 : decode cX5_init 7 = .ok (.newarray .int, 2) := by decide +kernel
theorem dX5_init_9 : decode cX5_init 9 = .ok (.putfield 9, 3) := by decide +kernel
theorem dX5_init_12 : decode cX5_init 12 = .ok (.aload_n 0, 1) := by decide +kernel
theorem dX5_init_13 : decode cX5_init 13 = .ok (.bipush 10, 2) := by decide +kernel
theorem dX5_init_15 : decode cX5_init 15 = .ok (.newarray .int, 2) := by decide +kernel
theorem dX5_init_17 : decode cX5_init 17 = .ok (.putfield 15, 3) := by decide +kernel
theorem dX5_init_20 : decode cX5_init 20 = .ok (.aload_n 0, 1) := by decide +kernel
theorem dX5_init_21 : decode cX5_init 21 = .ok (.bipush 10, 2) := by decide +kernel
theorem dX5_init_23 : decode cX5_init 23 = .ok (.newarray .int, 2) := by decide +kernel
theorem dX5_init_25 : decode cX5_init 25 = .ok (.putfield 18, 3) := by decide +kernel
theorem dX5_init_28 : decode cX5_init 28 = .ok (.aload_n 0, 1) := by decide +kernel
theorem dX5_init_29 : decode cX5_init 29 = .ok (.bipush 10, 2) := by decide +kernel
theorem dX5_init_31 : decode cX5_init 31 = .ok (.newarray .int, 2) := by decide +kernel
theorem dX5_init_33 : decode cX5_init 33 = .ok (.putfield 21, 3) := by decide +kernel
theorem dX5_init_36 : decode cX5_init 36 = .ok (.aload_n 0, 1) := by decide +kernel
theorem dX5_init_37 : decode cX5_init 37 = .ok (.bipush 10, 2) := by decide +kernel
theorem dX5_init_39 : decode cX5_init 39 = .ok (.newarray .int, 2) := by decide +kernel
theorem dX5_init_41 : decode cX5_init 41 = .ok (.putfield 24, 3) := by decide +kernel
theorem dX5_init_44 : decode cX5_init 44 = .ok (.aload_n 0, 1) := by decide +kernel
theorem dX5_init_45 : decode cX5_init 45 = .ok (.bipush 10, 2) := by decide +kernel
theorem dX5_init_47 : decode cX5_init 47 = .ok (.newarray .int, 2) := by decide +kernel
theorem dX5_init_49 : decode cX5_init 49 = .ok (.putfield 27, 3) := by decide +kernel
theorem dX5_init_52 : decode cX5_init 52 = .ok (.aload_n 0, 1) := by decide +kernel
theorem dX5_init_53 : decode cX5_init 53 = .ok (.bipush 10, 2) := by decide +kernel
theorem dX5_init_55 : decode cX5_init 55 = .ok (.newarray .int, 2) := by decide +kernel
theorem dX5_init_57 : decode cX5_init 57 = .ok (.putfield 30, 3) := by decide +kernel
theorem dX5_init_60 : decode cX5_init 60 = .ok (.aload_n 0, 1) := by decide +kernel
theorem dX5_init_61 : decode cX5_init 61 = .ok (.bipush 10, 2) := by decide +kernel
theorem dX5_init_63 : decode cX5_init 63 = .ok (.newarray .int, 2) := by decide +kernel
theorem dX5_init_65 : decode cX5_init 65 = .ok (.putfield 33, 3) := by decide +kernel
theorem dX5_init_68 : decode cX5_init 68 = .ok (.aload_n 0, 1) := by decide +kernel
theorem dX5_init_69 : decode cX5_init 69 = .ok (.bipush 10, 2) := by decide +kernel
theorem dX5_init_71 : decode cX5_init 71 = .ok (.newarray .int, 2) := by decide +kernel
theorem dX5_init_73 : decode cX5_init 73 = .ok (.putfield 36, 3) := by decide +kernel
theorem dX5_init_76 : decode cX5_init 76 = .ok (.aload_n 0, 1) := by decide +kernel
theorem dX5_init_77 : decode cX5_init 77 = .ok (.bipush 10, 2) := by decide +kernel
theorem dX5_init_79 : decode cX5_init 79 = .ok (.newarray .int, 2) := by decide +kernel
theorem dX5_init_81 : decode cX5_init 81 = .ok (.putfield 39, 3) := by decide +kernel
theorem dX5_init_84 : decode cX5_init 84 = .ok (.aload_n 0, 1) := by decide +kernel
theorem dX5_init_85 : decode cX5_init 85 = .ok (.iconst 0, 1) := by decide +kernel
theorem dX5_init_86 : decode cX5_init 86 = .ok (.putfield 42, 3) := by decide +kernel
theorem dX5_init_89 : decode cX5_init 89 = .ok (.aload_n 0, 1) := by decide +kernel
theorem dX5_init_90 : decode cX5_init 90 = .ok (.iconst 0, 1) := by decide +kernel
theorem dX5_init_91 : decode cX5_init 91 = .ok (.putfield 46, 3) := by decide +kernel
theorem dX5_init_94 : decode cX5_init 94 = .ok (.aload_n 0, 1) := by decide +kernel
theorem dX5_init_95 : decode cX5_init 95 = .ok (.iconst 0, 1) := by decide +kernel
theorem dX5_init_96 : decode cX5_init 96 = .ok (.putfield 49, 3) := by decide +kernel
theorem dX5_init_99 : decode cX5_init 99 = .ok (.return_, 1) := by decide +kernel
theorem dX5_has_0 : decode cX5_has 0 = .ok (.iload_n 1, 1) := by decide +kernel
theorem dX5_has_1 : decode cX5_has 1 = .ok (.ifCond .lt 15, 3) := by decide +kernel
theorem dX5_has_4 : decode cX5_has 4 = .ok (.iload_n 1, 1) := by decide +kernel
theorem dX5_has_5 : decode cX5_has 5 = .ok (.aload_n 0, 1) := by decide +kernel
theorem dX5_has_6 : decode cX5_has 6 = .ok (.getfield 42, 3) := by decide +kernel
theorem dX5_has_9 : decode cX5_has 9 = .ok (.if_icmp .ge 7, 3) := by decide +kernel
theorem dX5_has_12 : decode cX5_has 12 = .ok (.iconst 1, 1) := by decide +kernel
theorem dX5_has_13 : decode cX5_has 13 = .ok (.goto 4, 3) := by decide +kernel
theorem dX5_has_16 : decode cX5_has 16 = .ok (.iconst 0, 1) := by decide +kernel
theorem dX5_has_17 : decode cX5_has 17 = .ok (.ireturn, 1) := by decide +kernel
theorem dX5_all_0 : decode cX5_all 0 = .ok (.iconst 1, 1) := by decide +kernel
theorem dX5_all_1 : decode cX5_all 1 = .ok (.aload_n 0, 1) := by decide +kernel
theorem dX5_all_2 : decode cX5_all 2 = .ok (.getfield 42, 3) := by decide +kernel
theorem dX5_all_5 : decode cX5_all 5 = .ok (.ishl, 1) := by decide +kernel
theorem dX5_all_6 : decode cX5_all 6 = .ok (.iconst 1, 1) := by decide +kernel
theorem dX5_all_7 : decode cX5_all 7 = .ok (.isub, 1) := by decide +kernel
theorem dX5_all_8 : decode cX5_all 8 = .ok (.ireturn, 1) := by decide +kernel
theorem dX5_heardOnes_0 : decode cX5_heardOnes 0 = .ok (.aload_n 0, 1) := by decide +kernel
theorem dX5_heardOnes_1 : decode cX5_heardOnes 1 = .ok (.invokevirtual 52, 3) := by decide +kernel
theorem dX5_heardOnes_4 : decode cX5_heardOnes 4 = .ok (.aload_n 0, 1) := by decide +kernel
theorem dX5_heardOnes_5 : decode cX5_heardOnes 5 = .ok (.getfield 46, 3) := by decide +kernel
theorem dX5_heardOnes_8 : decode cX5_heardOnes 8 = .ok (.iconst (-1), 1) := by decide +kernel
theorem dX5_heardOnes_9 : decode cX5_heardOnes 9 = .ok (.ixor, 1) := by decide +kernel
theorem dX5_heardOnes_10 : decode cX5_heardOnes 10 = .ok (.iand, 1) := by decide +kernel
theorem dX5_heardOnes_11 : decode cX5_heardOnes 11 = .ok (.ireturn, 1) := by decide +kernel
theorem dX5_tell_0 : decode cX5_tell 0 = .ok (.aload_n 0, 1) := by decide +kernel
theorem dX5_tell_1 : decode cX5_tell 1 = .ok (.getfield 42, 3) := by decide +kernel
theorem dX5_tell_4 : decode cX5_tell 4 = .ok (.istore 7, 2) := by decide +kernel
theorem dX5_tell_6 : decode cX5_tell 6 = .ok (.aload_n 0, 1) := by decide +kernel
theorem dX5_tell_7 : decode cX5_tell 7 = .ok (.getfield 9, 3) := by decide +kernel
theorem dX5_tell_10 : decode cX5_tell 10 = .ok (.iload 7, 2) := by decide +kernel
theorem dX5_tell_12 : decode cX5_tell 12 = .ok (.iload_n 1, 1) := by decide +kernel
theorem dX5_tell_13 : decode cX5_tell 13 = .ok (.iastore, 1) := by decide +kernel
theorem dX5_tell_14 : decode cX5_tell 14 = .ok (.aload_n 0, 1) := by decide +kernel
theorem dX5_tell_15 : decode cX5_tell 15 = .ok (.getfield 15, 3) := by decide +kernel
theorem dX5_tell_18 : decode cX5_tell 18 = .ok (.iload 7, 2) := by decide +kernel
theorem dX5_tell_20 : decode cX5_tell 20 = .ok (.iload_n 2, 1) := by decide +kernel
theorem dX5_tell_21 : decode cX5_tell 21 = .ok (.iastore, 1) := by decide +kernel
theorem dX5_tell_22 : decode cX5_tell 22 = .ok (.aload_n 0, 1) := by decide +kernel
theorem dX5_tell_23 : decode cX5_tell 23 = .ok (.getfield 18, 3) := by decide +kernel
theorem dX5_tell_26 : decode cX5_tell 26 = .ok (.iload 7, 2) := by decide +kernel
theorem dX5_tell_28 : decode cX5_tell 28 = .ok (.iload_n 2, 1) := by decide +kernel
theorem dX5_tell_29 : decode cX5_tell 29 = .ok (.invokestatic 56, 3) := by decide +kernel
theorem dX5_tell_32 : decode cX5_tell 32 = .ok (.iastore, 1) := by decide +kernel
theorem dX5_tell_33 : decode cX5_tell 33 = .ok (.aload_n 0, 1) := by decide +kernel
theorem dX5_tell_34 : decode cX5_tell 34 = .ok (.getfield 21, 3) := by decide +kernel
theorem dX5_tell_37 : decode cX5_tell 37 = .ok (.iload 7, 2) := by decide +kernel
theorem dX5_tell_39 : decode cX5_tell 39 = .ok (.iload_n 3, 1) := by decide +kernel
theorem dX5_tell_40 : decode cX5_tell 40 = .ok (.iastore, 1) := by decide +kernel
theorem dX5_tell_41 : decode cX5_tell 41 = .ok (.aload_n 0, 1) := by decide +kernel
theorem dX5_tell_42 : decode cX5_tell 42 = .ok (.getfield 24, 3) := by decide +kernel
theorem dX5_tell_45 : decode cX5_tell 45 = .ok (.iload 7, 2) := by decide +kernel
theorem dX5_tell_47 : decode cX5_tell 47 = .ok (.iload 4, 2) := by decide +kernel
theorem dX5_tell_49 : decode cX5_tell 49 = .ok (.iastore, 1) := by decide +kernel
theorem dX5_tell_50 : decode cX5_tell 50 = .ok (.aload_n 0, 1) := by decide +kernel
theorem dX5_tell_51 : decode cX5_tell 51 = .ok (.getfield 27, 3) := by decide +kernel
theorem dX5_tell_54 : decode cX5_tell 54 = .ok (.iload 7, 2) := by decide +kernel
theorem dX5_tell_56 : decode cX5_tell 56 = .ok (.iload 5, 2) := by decide +kernel
theorem dX5_tell_58 : decode cX5_tell 58 = .ok (.iastore, 1) := by decide +kernel
theorem dX5_tell_59 : decode cX5_tell 59 = .ok (.aload_n 0, 1) := by decide +kernel
theorem dX5_tell_60 : decode cX5_tell 60 = .ok (.dup, 1) := by decide +kernel
theorem dX5_tell_61 : decode cX5_tell 61 = .ok (.getfield 42, 3) := by decide +kernel
theorem dX5_tell_64 : decode cX5_tell 64 = .ok (.iconst 1, 1) := by decide +kernel
theorem dX5_tell_65 : decode cX5_tell 65 = .ok (.iadd, 1) := by decide +kernel
theorem dX5_tell_66 : decode cX5_tell 66 = .ok (.putfield 42, 3) := by decide +kernel
theorem dX5_tell_69 : decode cX5_tell 69 = .ok (.iload_n 1, 1) := by decide +kernel
theorem dX5_tell_70 : decode cX5_tell 70 = .ok (.iconst 1, 1) := by decide +kernel
theorem dX5_tell_71 : decode cX5_tell 71 = .ok (.if_icmp .ne 31, 3) := by decide +kernel
theorem dX5_tell_74 : decode cX5_tell 74 = .ok (.aload_n 0, 1) := by decide +kernel
theorem dX5_tell_75 : decode cX5_tell 75 = .ok (.getfield 30, 3) := by decide +kernel
theorem dX5_tell_78 : decode cX5_tell 78 = .ok (.iload 7, 2) := by decide +kernel
theorem dX5_tell_80 : decode cX5_tell 80 = .ok (.dup2, 1) := by decide +kernel
theorem dX5_tell_81 : decode cX5_tell 81 = .ok (.iaload, 1) := by decide +kernel
theorem dX5_tell_82 : decode cX5_tell 82 = .ok (.iconst 1, 1) := by decide +kernel
theorem dX5_tell_83 : decode cX5_tell 83 = .ok (.iload 5, 2) := by decide +kernel
theorem dX5_tell_85 : decode cX5_tell 85 = .ok (.ishl, 1) := by decide +kernel
theorem dX5_tell_86 : decode cX5_tell 86 = .ok (.ior, 1) := by decide +kernel
theorem dX5_tell_87 : decode cX5_tell 87 = .ok (.iastore, 1) := by decide +kernel
theorem dX5_tell_88 : decode cX5_tell 88 = .ok (.aload_n 0, 1) := by decide +kernel
theorem dX5_tell_89 : decode cX5_tell 89 = .ok (.getfield 30, 3) := by decide +kernel
theorem dX5_tell_92 : decode cX5_tell 92 = .ok (.iload 5, 2) := by decide +kernel
theorem dX5_tell_94 : decode cX5_tell 94 = .ok (.dup2, 1) := by decide +kernel
theorem dX5_tell_95 : decode cX5_tell 95 = .ok (.iaload, 1) := by decide +kernel
theorem dX5_tell_96 : decode cX5_tell 96 = .ok (.iconst 1, 1) := by decide +kernel
theorem dX5_tell_97 : decode cX5_tell 97 = .ok (.iload 7, 2) := by decide +kernel
theorem dX5_tell_99 : decode cX5_tell 99 = .ok (.ishl, 1) := by decide +kernel
theorem dX5_tell_100 : decode cX5_tell 100 = .ok (.ior, 1) := by decide +kernel
theorem dX5_tell_101 : decode cX5_tell 101 = .ok (.iastore, 1) := by decide +kernel
theorem dX5_tell_102 : decode cX5_tell 102 = .ok (.aload_n 0, 1) := by decide +kernel
theorem dX5_tell_103 : decode cX5_tell 103 = .ok (.aload 6, 2) := by decide +kernel
theorem dX5_tell_105 : decode cX5_tell 105 = .ok (.invokevirtual 62, 3) := by decide +kernel
theorem dX5_tell_108 : decode cX5_tell 108 = .ok (.iload 7, 2) := by decide +kernel
theorem dX5_tell_110 : decode cX5_tell 110 = .ok (.ireturn, 1) := by decide +kernel
theorem dX5_weighAll_0 : decode cX5_weighAll 0 = .ok (.aload_n 0, 1) := by decide +kernel
theorem dX5_weighAll_1 : decode cX5_weighAll 1 = .ok (.iconst 0, 1) := by decide +kernel
theorem dX5_weighAll_2 : decode cX5_weighAll 2 = .ok (.putfield 49, 3) := by decide +kernel
theorem dX5_weighAll_5 : decode cX5_weighAll 5 = .ok (.aload_n 0, 1) := by decide +kernel
theorem dX5_weighAll_6 : decode cX5_weighAll 6 = .ok (.getfield 33, 3) := by decide +kernel
theorem dX5_weighAll_9 : decode cX5_weighAll 9 = .ok (.iconst 0, 1) := by decide +kernel
theorem dX5_weighAll_10 : decode cX5_weighAll 10 = .ok (.invokestatic 66, 3) := by decide +kernel
theorem dX5_weighAll_13 : decode cX5_weighAll 13 = .ok (.aload_n 0, 1) := by decide +kernel
theorem dX5_weighAll_14 : decode cX5_weighAll 14 = .ok (.getfield 36, 3) := by decide +kernel
theorem dX5_weighAll_17 : decode cX5_weighAll 17 = .ok (.iconst 0, 1) := by decide +kernel
theorem dX5_weighAll_18 : decode cX5_weighAll 18 = .ok (.invokestatic 66, 3) := by decide +kernel
theorem dX5_weighAll_21 : decode cX5_weighAll 21 = .ok (.iconst 0, 1) := by decide +kernel
theorem dX5_weighAll_22 : decode cX5_weighAll 22 = .ok (.istore_n 2, 1) := by decide +kernel
theorem dX5_weighAll_23 : decode cX5_weighAll 23 = .ok (.iload_n 2, 1) := by decide +kernel
theorem dX5_weighAll_24 : decode cX5_weighAll 24 = .ok (.aload_n 0, 1) := by decide +kernel
theorem dX5_weighAll_25 : decode cX5_weighAll 25 = .ok (.getfield 42, 3) := by decide +kernel
theorem dX5_weighAll_28 : decode cX5_weighAll 28 = .ok (.if_icmp .ge 77, 3) := by decide +kernel
theorem dX5_weighAll_31 : decode cX5_weighAll 31 = .ok (.aload_n 0, 1) := by decide +kernel
theorem dX5_weighAll_32 : decode cX5_weighAll 32 = .ok (.getfield 9, 3) := by decide +kernel
theorem dX5_weighAll_35 : decode cX5_weighAll 35 = .ok (.iload_n 2, 1) := by decide +kernel
theorem dX5_weighAll_36 : decode cX5_weighAll 36 = .ok (.iaload, 1) := by decide +kernel
theorem dX5_weighAll_37 : decode cX5_weighAll 37 = .ok (.iconst 2, 1) := by decide +kernel
theorem dX5_weighAll_38 : decode cX5_weighAll 38 = .ok (.if_icmp .ne 61, 3) := by decide +kernel
theorem dX5_weighAll_41 : decode cX5_weighAll 41 = .ok (.aload_n 0, 1) := by decide +kernel
theorem dX5_weighAll_42 : decode cX5_weighAll 42 = .ok (.iload_n 2, 1) := by decide +kernel
theorem dX5_weighAll_43 : decode cX5_weighAll 43 = .ok (.aload_n 0, 1) := by decide +kernel
theorem dX5_weighAll_44 : decode cX5_weighAll 44 = .ok (.getfield 27, 3) := by decide +kernel
theorem dX5_weighAll_47 : decode cX5_weighAll 47 = .ok (.iload_n 2, 1) := by decide +kernel
theorem dX5_weighAll_48 : decode cX5_weighAll 48 = .ok (.iaload, 1) := by decide +kernel
theorem dX5_weighAll_49 : decode cX5_weighAll 49 = .ok (.aload_n 1, 1) := by decide +kernel
theorem dX5_weighAll_50 : decode cX5_weighAll 50 = .ok (.invokevirtual 72, 3) := by decide +kernel
theorem dX5_weighAll_53 : decode cX5_weighAll 53 = .ok (.ifCond .eq 46, 3) := by decide +kernel
theorem dX5_weighAll_56 : decode cX5_weighAll 56 = .ok (.aload_n 0, 1) := by decide +kernel
theorem dX5_weighAll_57 : decode cX5_weighAll 57 = .ok (.dup, 1) := by decide +kernel
theorem dX5_weighAll_58 : decode cX5_weighAll 58 = .ok (.getfield 49, 3) := by decide +kernel
theorem dX5_weighAll_61 : decode cX5_weighAll 61 = .ok (.iconst 1, 1) := by decide +kernel
theorem dX5_weighAll_62 : decode cX5_weighAll 62 = .ok (.iload_n 2, 1) := by decide +kernel
theorem dX5_weighAll_63 : decode cX5_weighAll 63 = .ok (.ishl, 1) := by decide +kernel
theorem dX5_weighAll_64 : decode cX5_weighAll 64 = .ok (.ior, 1) := by decide +kernel
theorem dX5_weighAll_65 : decode cX5_weighAll 65 = .ok (.putfield 49, 3) := by decide +kernel
theorem dX5_weighAll_68 : decode cX5_weighAll 68 = .ok (.aload_n 0, 1) := by decide +kernel
theorem dX5_weighAll_69 : decode cX5_weighAll 69 = .ok (.getfield 33, 3) := by decide +kernel
theorem dX5_weighAll_72 : decode cX5_weighAll 72 = .ok (.iload_n 2, 1) := by decide +kernel
theorem dX5_weighAll_73 : decode cX5_weighAll 73 = .ok (.iconst 1, 1) := by decide +kernel
theorem dX5_weighAll_74 : decode cX5_weighAll 74 = .ok (.aload_n 0, 1) := by decide +kernel
theorem dX5_weighAll_75 : decode cX5_weighAll 75 = .ok (.getfield 27, 3) := by decide +kernel
theorem dX5_weighAll_78 : decode cX5_weighAll 78 = .ok (.iload_n 2, 1) := by decide +kernel
theorem dX5_weighAll_79 : decode cX5_weighAll 79 = .ok (.iaload, 1) := by decide +kernel
theorem dX5_weighAll_80 : decode cX5_weighAll 80 = .ok (.ishl, 1) := by decide +kernel
theorem dX5_weighAll_81 : decode cX5_weighAll 81 = .ok (.iastore, 1) := by decide +kernel
theorem dX5_weighAll_82 : decode cX5_weighAll 82 = .ok (.aload_n 0, 1) := by decide +kernel
theorem dX5_weighAll_83 : decode cX5_weighAll 83 = .ok (.getfield 36, 3) := by decide +kernel
theorem dX5_weighAll_86 : decode cX5_weighAll 86 = .ok (.aload_n 0, 1) := by decide +kernel
theorem dX5_weighAll_87 : decode cX5_weighAll 87 = .ok (.getfield 27, 3) := by decide +kernel
theorem dX5_weighAll_90 : decode cX5_weighAll 90 = .ok (.iload_n 2, 1) := by decide +kernel
theorem dX5_weighAll_91 : decode cX5_weighAll 91 = .ok (.iaload, 1) := by decide +kernel
theorem dX5_weighAll_92 : decode cX5_weighAll 92 = .ok (.dup2, 1) := by decide +kernel
theorem dX5_weighAll_93 : decode cX5_weighAll 93 = .ok (.iaload, 1) := by decide +kernel
theorem dX5_weighAll_94 : decode cX5_weighAll 94 = .ok (.iconst 1, 1) := by decide +kernel
theorem dX5_weighAll_95 : decode cX5_weighAll 95 = .ok (.iload_n 2, 1) := by decide +kernel
theorem dX5_weighAll_96 : decode cX5_weighAll 96 = .ok (.ishl, 1) := by decide +kernel
theorem dX5_weighAll_97 : decode cX5_weighAll 97 = .ok (.ior, 1) := by decide +kernel
theorem dX5_weighAll_98 : decode cX5_weighAll 98 = .ok (.iastore, 1) := by decide +kernel
theorem dX5_weighAll_99 : decode cX5_weighAll 99 = .ok (.iinc 2 1, 3) := by decide +kernel
theorem dX5_weighAll_102 : decode cX5_weighAll 102 = .ok (.goto (-79), 3) := by decide +kernel
theorem dX5_weighAll_105 : decode cX5_weighAll 105 = .ok (.return_, 1) := by decide +kernel
theorem dX5_isTooFar_0 : decode cX5_isTooFar 0 = .ok (.aload_n 3, 1) := by decide +kernel
theorem dX5_isTooFar_1 : decode cX5_isTooFar 1 = .ok (.aload_n 0, 1) := by decide +kernel
theorem dX5_isTooFar_2 : decode cX5_isTooFar 2 = .ok (.getfield 21, 3) := by decide +kernel
theorem dX5_isTooFar_5 : decode cX5_isTooFar 5 = .ok (.iload_n 1, 1) := by decide +kernel
theorem dX5_isTooFar_6 : decode cX5_isTooFar 6 = .ok (.iaload, 1) := by decide +kernel
theorem dX5_isTooFar_7 : decode cX5_isTooFar 7 = .ok (.aload_n 0, 1) := by decide +kernel
theorem dX5_isTooFar_8 : decode cX5_isTooFar 8 = .ok (.getfield 21, 3) := by decide +kernel
theorem dX5_isTooFar_11 : decode cX5_isTooFar 11 = .ok (.iload_n 2, 1) := by decide +kernel
theorem dX5_isTooFar_12 : decode cX5_isTooFar 12 = .ok (.iaload, 1) := by decide +kernel
theorem dX5_isTooFar_13 : decode cX5_isTooFar 13 = .ok (.invokevirtual 76, 3) := by decide +kernel
theorem dX5_isTooFar_16 : decode cX5_isTooFar 16 = .ok (.aload_n 0, 1) := by decide +kernel
theorem dX5_isTooFar_17 : decode cX5_isTooFar 17 = .ok (.getfield 24, 3) := by decide +kernel
theorem dX5_isTooFar_20 : decode cX5_isTooFar 20 = .ok (.iload_n 1, 1) := by decide +kernel
theorem dX5_isTooFar_21 : decode cX5_isTooFar 21 = .ok (.iaload, 1) := by decide +kernel
theorem dX5_isTooFar_22 : decode cX5_isTooFar 22 = .ok (.aload_n 0, 1) := by decide +kernel
theorem dX5_isTooFar_23 : decode cX5_isTooFar 23 = .ok (.getfield 24, 3) := by decide +kernel
theorem dX5_isTooFar_26 : decode cX5_isTooFar 26 = .ok (.iload_n 2, 1) := by decide +kernel
theorem dX5_isTooFar_27 : decode cX5_isTooFar 27 = .ok (.iaload, 1) := by decide +kernel
theorem dX5_isTooFar_28 : decode cX5_isTooFar 28 = .ok (.isub, 1) := by decide +kernel
theorem dX5_isTooFar_29 : decode cX5_isTooFar 29 = .ok (.invokestatic 82, 3) := by decide +kernel
theorem dX5_isTooFar_32 : decode cX5_isTooFar 32 = .ok (.if_icmp .le 7, 3) := by decide +kernel
theorem dX5_isTooFar_35 : decode cX5_isTooFar 35 = .ok (.iconst 1, 1) := by decide +kernel
theorem dX5_isTooFar_36 : decode cX5_isTooFar 36 = .ok (.goto 4, 3) := by decide +kernel
theorem dX5_isTooFar_39 : decode cX5_isTooFar 39 = .ok (.iconst 0, 1) := by decide +kernel
theorem dX5_isTooFar_40 : decode cX5_isTooFar 40 = .ok (.ireturn, 1) := by decide +kernel
theorem dX5_longestChain_0 : decode cX5_longestChain 0 = .ok (.aload_n 0, 1) := by decide +kernel
theorem dX5_longestChain_1 : decode cX5_longestChain 1 = .ok (.invokevirtual 87, 3) := by decide +kernel
theorem dX5_longestChain_4 : decode cX5_longestChain 4 = .ok (.istore_n 2, 1) := by decide +kernel
theorem dX5_longestChain_5 : decode cX5_longestChain 5 = .ok (.aload_n 0, 1) := by decide +kernel
theorem dX5_longestChain_6 : decode cX5_longestChain 6 = .ok (.getfield 39, 3) := by decide +kernel
theorem dX5_longestChain_9 : decode cX5_longestChain 9 = .ok (.iconst 0, 1) := by decide +kernel
theorem dX5_longestChain_10 : decode cX5_longestChain 10 = .ok (.invokestatic 66, 3) := by decide +kernel
theorem dX5_longestChain_13 : decode cX5_longestChain 13 = .ok (.aload_n 0, 1) := by decide +kernel
theorem dX5_longestChain_14 : decode cX5_longestChain 14 = .ok (.getfield 42, 3) := by decide +kernel
theorem dX5_longestChain_17 : decode cX5_longestChain 17 = .ok (.iconst 1, 1) := by decide +kernel
theorem dX5_longestChain_18 : decode cX5_longestChain 18 = .ok (.isub, 1) := by decide +kernel
theorem dX5_longestChain_19 : decode cX5_longestChain 19 = .ok (.istore_n 3, 1) := by decide +kernel
theorem dX5_longestChain_20 : decode cX5_longestChain 20 = .ok (.iload_n 3, 1) := by decide +kernel
theorem dX5_longestChain_21 : decode cX5_longestChain 21 = .ok (.iload_n 1, 1) := by decide +kernel
theorem dX5_longestChain_22 : decode cX5_longestChain 22 = .ok (.if_icmp .le 55, 3) := by decide +kernel
theorem dX5_longestChain_25 : decode cX5_longestChain 25 = .ok (.aload_n 0, 1) := by decide +kernel
theorem dX5_longestChain_26 : decode cX5_longestChain 26 = .ok (.getfield 49, 3) := by decide +kernel
theorem dX5_longestChain_29 : decode cX5_longestChain 29 = .ok (.iload_n 2, 1) := by decide +kernel
theorem dX5_longestChain_30 : decode cX5_longestChain 30 = .ok (.iand, 1) := by decide +kernel
theorem dX5_longestChain_31 : decode cX5_longestChain 31 = .ok (.iconst 1, 1) := by decide +kernel
theorem dX5_longestChain_32 : decode cX5_longestChain 32 = .ok (.iload_n 3, 1) := by decide +kernel
theorem dX5_longestChain_33 : decode cX5_longestChain 33 = .ok (.ishl, 1) := by decide +kernel
theorem dX5_longestChain_34 : decode cX5_longestChain 34 = .ok (.iand, 1) := by decide +kernel
theorem dX5_longestChain_35 : decode cX5_longestChain 35 = .ok (.ifCond .eq 36, 3) := by decide +kernel
theorem dX5_longestChain_38 : decode cX5_longestChain 38 = .ok (.aload_n 0, 1) := by decide +kernel
theorem dX5_longestChain_39 : decode cX5_longestChain 39 = .ok (.getfield 39, 3) := by decide +kernel
theorem dX5_longestChain_42 : decode cX5_longestChain 42 = .ok (.aload_n 0, 1) := by decide +kernel
theorem dX5_longestChain_43 : decode cX5_longestChain 43 = .ok (.getfield 27, 3) := by decide +kernel
theorem dX5_longestChain_46 : decode cX5_longestChain 46 = .ok (.iload_n 3, 1) := by decide +kernel
theorem dX5_longestChain_47 : decode cX5_longestChain 47 = .ok (.iaload, 1) := by decide +kernel
theorem dX5_longestChain_48 : decode cX5_longestChain 48 = .ok (.aload_n 0, 1) := by decide +kernel
theorem dX5_longestChain_49 : decode cX5_longestChain 49 = .ok (.getfield 39, 3) := by decide +kernel
theorem dX5_longestChain_52 : decode cX5_longestChain 52 = .ok (.aload_n 0, 1) := by decide +kernel
theorem dX5_longestChain_53 : decode cX5_longestChain 53 = .ok (.getfield 27, 3) := by decide +kernel
theorem dX5_longestChain_56 : decode cX5_longestChain 56 = .ok (.iload_n 3, 1) := by decide +kernel
theorem dX5_longestChain_57 : decode cX5_longestChain 57 = .ok (.iaload, 1) := by decide +kernel
theorem dX5_longestChain_58 : decode cX5_longestChain 58 = .ok (.iaload, 1) := by decide +kernel
theorem dX5_longestChain_59 : decode cX5_longestChain 59 = .ok (.aload_n 0, 1) := by decide +kernel
theorem dX5_longestChain_60 : decode cX5_longestChain 60 = .ok (.getfield 39, 3) := by decide +kernel
theorem dX5_longestChain_63 : decode cX5_longestChain 63 = .ok (.iload_n 3, 1) := by decide +kernel
theorem dX5_longestChain_64 : decode cX5_longestChain 64 = .ok (.iaload, 1) := by decide +kernel
theorem dX5_longestChain_65 : decode cX5_longestChain 65 = .ok (.iconst 1, 1) := by decide +kernel
theorem dX5_longestChain_66 : decode cX5_longestChain 66 = .ok (.iadd, 1) := by decide +kernel
theorem dX5_longestChain_67 : decode cX5_longestChain 67 = .ok (.invokestatic 90, 3) := by decide +kernel
theorem dX5_longestChain_70 : decode cX5_longestChain 70 = .ok (.iastore, 1) := by decide +kernel
theorem dX5_longestChain_71 : decode cX5_longestChain 71 = .ok (.iinc 3 (-1), 3) := by decide +kernel
theorem dX5_longestChain_74 : decode cX5_longestChain 74 = .ok (.goto (-54), 3) := by decide +kernel
theorem dX5_longestChain_77 : decode cX5_longestChain 77 = .ok (.aload_n 0, 1) := by decide +kernel
theorem dX5_longestChain_78 : decode cX5_longestChain 78 = .ok (.getfield 39, 3) := by decide +kernel
theorem dX5_longestChain_81 : decode cX5_longestChain 81 = .ok (.iload_n 1, 1) := by decide +kernel
theorem dX5_longestChain_82 : decode cX5_longestChain 82 = .ok (.iaload, 1) := by decide +kernel
theorem dX5_longestChain_83 : decode cX5_longestChain 83 = .ok (.ireturn, 1) := by decide +kernel
theorem dX6_init_0 : decode cX6_init 0 = .ok (.aload_n 0, 1) := by decide +kernel
theorem dX6_init_1 : decode cX6_init 1 = .ok (.invokespecial 1, 3) := by decide +kernel
theorem dX6_init_4 : decode cX6_init 4 = .ok (.aload_n 0, 1) := by decide +kernel
theorem dX6_init_5 : decode cX6_init 5 = .ok (.new 7, 3) := by decide +kernel
theorem dX6_init_8 : decode cX6_init 8 = .ok (.dup, 1) := by decide +kernel
theorem dX6_init_9 : decode cX6_init 9 = .ok (.invokespecial 9, 3) := by decide +kernel
theorem dX6_init_12 : decode cX6_init 12 = .ok (.putfield 10, 3) := by decide +kernel
theorem dX6_init_15 : decode cX6_init 15 = .ok (.aload_n 0, 1) := by decide +kernel
theorem dX6_init_16 : decode cX6_init 16 = .ok (.new 16, 3) := by decide +kernel
theorem dX6_init_19 : decode cX6_init 19 = .ok (.dup, 1) := by decide +kernel
theorem dX6_init_20 : decode cX6_init 20 = .ok (.invokespecial 18, 3) := by decide +kernel
theorem dX6_init_23 : decode cX6_init 23 = .ok (.putfield 19, 3) := by decide +kernel
theorem dX6_init_26 : decode cX6_init 26 = .ok (.aload_n 0, 1) := by decide +kernel
theorem dX6_init_27 : decode cX6_init 27 = .ok (.new 23, 3) := by decide +kernel
theorem dX6_init_30 : decode cX6_init 30 = .ok (.dup, 1) := by decide +kernel
theorem dX6_init_31 : decode cX6_init 31 = .ok (.invokespecial 25, 3) := by decide +kernel
theorem dX6_init_34 : decode cX6_init 34 = .ok (.putfield 26, 3) := by decide +kernel
theorem dX6_init_37 : decode cX6_init 37 = .ok (.aload_n 0, 1) := by decide +kernel
theorem dX6_init_38 : decode cX6_init 38 = .ok (.new 23, 3) := by decide +kernel
theorem dX6_init_41 : decode cX6_init 41 = .ok (.dup, 1) := by decide +kernel
theorem dX6_init_42 : decode cX6_init 42 = .ok (.invokespecial 25, 3) := by decide +kernel
theorem dX6_init_45 : decode cX6_init 45 = .ok (.putfield 30, 3) := by decide +kernel
theorem dX6_init_48 : decode cX6_init 48 = .ok (.aload_n 0, 1) := by decide +kernel
theorem dX6_init_49 : decode cX6_init 49 = .ok (.iconst 4, 1) := by decide +kernel
theorem dX6_init_50 : decode cX6_init 50 = .ok (.anewarray 33, 3) := by decide +kernel
theorem dX6_init_53 : decode cX6_init 53 = .ok (.putfield 35, 3) := by decide +kernel
theorem dX6_init_56 : decode cX6_init 56 = .ok (.aload_n 0, 1) := by decide +kernel
theorem dX6_init_57 : decode cX6_init 57 = .ok (.new 39, 3) := by decide +kernel
theorem dX6_init_60 : decode cX6_init 60 = .ok (.dup, 1) := by decide +kernel
theorem dX6_init_61 : decode cX6_init 61 = .ok (.aload_n 0, 1) := by decide +kernel
theorem dX6_init_62 : decode cX6_init 62 = .ok (.getfield 19, 3) := by decide +kernel
theorem dX6_init_65 : decode cX6_init 65 = .ok (.invokespecial 41, 3) := by decide +kernel
theorem dX6_init_68 : decode cX6_init 68 = .ok (.putfield 44, 3) := by decide +kernel
theorem dX6_init_71 : decode cX6_init 71 = .ok (.aload_n 0, 1) := by decide +kernel
theorem dX6_init_72 : decode cX6_init 72 = .ok (.new 48, 3) := by decide +kernel
theorem dX6_init_75 : decode cX6_init 75 = .ok (.dup, 1) := by decide +kernel
theorem dX6_init_76 : decode cX6_init 76 = .ok (.aload_n 0, 1) := by decide +kernel
theorem dX6_init_77 : decode cX6_init 77 = .ok (.getfield 19, 3) := by decide +kernel
theorem dX6_init_80 : decode cX6_init 80 = .ok (.invokespecial 50, 3) := by decide +kernel
theorem dX6_init_83 : decode cX6_init 83 = .ok (.putfield 51, 3) := by decide +kernel
theorem dX6_init_86 : decode cX6_init 86 = .ok (.aload_n 0, 1) := by decide +kernel
theorem dX6_init_87 : decode cX6_init 87 = .ok (.iconst 0, 1) := by decide +kernel
theorem dX6_init_88 : decode cX6_init 88 = .ok (.putfield 55, 3) := by decide +kernel
theorem dX6_init_91 : decode cX6_init 91 = .ok (.iconst 0, 1) := by decide +kernel
theorem dX6_init_92 : decode cX6_init 92 = .ok (.istore_n 1, 1) := by decide +kernel
theorem dX6_init_93 : decode cX6_init 93 = .ok (.iload_n 1, 1) := by decide +kernel
theorem dX6_init_94 : decode cX6_init 94 = .ok (.iconst 4, 1) := by decide +kernel
theorem dX6_init_95 : decode cX6_init 95 = .ok (.if_icmp .ge 22, 3) := by decide +kernel
theorem dX6_init_98 : decode cX6_init 98 = .ok (.aload_n 0, 1) := by decide +kernel
theorem dX6_init_99 : decode cX6_init 99 = .ok (.getfield 35, 3) := by decide +kernel
theorem dX6_init_102 : decode cX6_init 102 = .ok (.iload_n 1, 1) := by decide +kernel
theorem dX6_init_103 : decode cX6_init 103 = .ok (.new 33, 3) := by decide +kernel
theorem dX6_init_106 : decode cX6_init 106 = .ok (.dup, 1) := by decide +kernel
theorem dX6_init_107 : decode cX6_init 107 = .ok (.invokespecial 59, 3) := by decide +kernel
theorem dX6_init_110 : decode cX6_init 110 = .ok (.aastore, 1) := by decide +kernel
theorem dX6_init_111 : decode cX6_init 111 = .ok (.iinc 1 1, 3) := by decide +kernel
theorem dX6_init_114 : decode cX6_init 114 = .ok (.goto (-21), 3) := by decide +kernel
theorem dX6_init_117 : decode cX6_init 117 = .ok (.return_, 1) := by decide +kernel
theorem dX6_road_0 : decode cX6_road 0 = .ok (.iload_n 1, 1) := by decide +kernel
theorem dX6_road_1 : decode cX6_road 1 = .ok (.invokestatic 60, 3) := by decide +kernel
theorem dX6_road_4 : decode cX6_road 4 = .ok (.ifCond .eq 25, 3) := by decide +kernel
theorem dX6_road_7 : decode cX6_road 7 = .ok (.iload_n 2, 1) := by decide +kernel
theorem dX6_road_8 : decode cX6_road 8 = .ok (.invokestatic 60, 3) := by decide +kernel
theorem dX6_road_11 : decode cX6_road 11 = .ok (.ifCond .eq 18, 3) := by decide +kernel
theorem dX6_road_14 : decode cX6_road 14 = .ok (.iload_n 1, 1) := by decide +kernel
theorem dX6_road_15 : decode cX6_road 15 = .ok (.iload_n 2, 1) := by decide +kernel
theorem dX6_road_16 : decode cX6_road 16 = .ok (.if_icmp .eq 13, 3) := by decide +kernel
theorem dX6_road_19 : decode cX6_road 19 = .ok (.iload_n 3, 1) := by decide +kernel
theorem dX6_road_20 : decode cX6_road 20 = .ok (.ifCond .lt 9, 3) := by decide +kernel
theorem dX6_road_23 : decode cX6_road 23 = .ok (.iload_n 3, 1) := by decide +kernel
theorem dX6_road_24 : decode cX6_road 24 = .ok (.bipush 99, 2) := by decide +kernel
theorem dX6_road_26 : decode cX6_road 26 = .ok (.if_icmp .le 6, 3) := by decide +kernel
theorem dX6_road_29 : decode cX6_road 29 = .ok (.bipush (-2), 2) := by decide +kernel
theorem dX6_road_31 : decode cX6_road 31 = .ok (.ireturn, 1) := by decide +kernel
theorem dX6_road_32 : decode cX6_road 32 = .ok (.aload_n 0, 1) := by decide +kernel
theorem dX6_road_33 : decode cX6_road 33 = .ok (.getfield 10, 3) := by decide +kernel
theorem dX6_road_36 : decode cX6_road 36 = .ok (.iload_n 1, 1) := by decide +kernel
theorem dX6_road_37 : decode cX6_road 37 = .ok (.iload_n 2, 1) := by decide +kernel
theorem dX6_road_38 : decode cX6_road 38 = .ok (.iload_n 3, 1) := by decide +kernel
theorem dX6_road_39 : decode cX6_road 39 = .ok (.invokevirtual 64, 3) := by decide +kernel
theorem dX6_road_42 : decode cX6_road 42 = .ok (.istore 4, 2) := by decide +kernel
theorem dX6_road_44 : decode cX6_road 44 = .ok (.aload_n 0, 1) := by decide +kernel
theorem dX6_road_45 : decode cX6_road 45 = .ok (.getfield 19, 3) := by decide +kernel
theorem dX6_road_48 : decode cX6_road 48 = .ok (.aload_n 0, 1) := by decide +kernel
theorem dX6_road_49 : decode cX6_road 49 = .ok (.getfield 10, 3) := by decide +kernel
theorem dX6_road_52 : decode cX6_road 52 = .ok (.invokevirtual 68, 3) := by decide +kernel
theorem dX6_road_55 : decode cX6_road 55 = .ok (.iload 4, 2) := by decide +kernel
theorem dX6_road_57 : decode cX6_road 57 = .ok (.ireturn, 1) := by decide +kernel
theorem dX6_away_0 : decode cX6_away 0 = .ok (.iload_n 1, 1) := by decide +kernel
theorem dX6_away_1 : decode cX6_away 1 = .ok (.invokestatic 60, 3) := by decide +kernel
theorem dX6_away_4 : decode cX6_away 4 = .ok (.ifCond .eq 22, 3) := by decide +kernel
theorem dX6_away_7 : decode cX6_away 7 = .ok (.iload_n 2, 1) := by decide +kernel
theorem dX6_away_8 : decode cX6_away 8 = .ok (.invokestatic 60, 3) := by decide +kernel
theorem dX6_away_11 : decode cX6_away 11 = .ok (.ifCond .eq 15, 3) := by decide +kernel
theorem dX6_away_14 : decode cX6_away 14 = .ok (.aload_n 0, 1) := by decide +kernel
theorem dX6_away_15 : decode cX6_away 15 = .ok (.getfield 10, 3) := by decide +kernel
theorem dX6_away_18 : decode cX6_away 18 = .ok (.iload_n 1, 1) := by decide +kernel
theorem dX6_away_19 : decode cX6_away 19 = .ok (.iload_n 2, 1) := by decide +kernel
theorem dX6_away_20 : decode cX6_away 20 = .ok (.invokevirtual 72, 3) := by decide +kernel
theorem dX6_away_23 : decode cX6_away 23 = .ok (.goto 5, 3) := by decide +kernel
theorem dX6_away_26 : decode cX6_away 26 = .ok (.bipush (-2), 2) := by decide +kernel
theorem dX6_away_28 : decode cX6_away 28 = .ok (.ireturn, 1) := by decide +kernel
theorem dX6_word_0 : decode cX6_word 0 = .ok (.aload_n 0, 1) := by decide +kernel
theorem dX6_word_1 : decode cX6_word 1 = .ok (.iload_n 1, 1) := by decide +kernel
theorem dX6_word_2 : decode cX6_word 2 = .ok (.iload_n 2, 1) := by decide +kernel
theorem dX6_word_3 : decode cX6_word 3 = .ok (.iload_n 3, 1) := by decide +kernel
theorem dX6_word_4 : decode cX6_word 4 = .ok (.iload 4, 2) := by decide +kernel
theorem dX6_word_6 : decode cX6_word 6 = .ok (.iload 5, 2) := by decide +kernel
theorem dX6_word_8 : decode cX6_word 8 = .ok (.invokevirtual 76, 3) := by decide +kernel
theorem dX6_word_11 : decode cX6_word 11 = .ok (.ifCond .ne 6, 3) := by decide +kernel
theorem dX6_word_14 : decode cX6_word 14 = .ok (.bipush (-2), 2) := by decide +kernel
theorem dX6_word_16 : decode cX6_word 16 = .ok (.ireturn, 1) := by decide +kernel
theorem dX6_word_17 : decode cX6_word 17 = .ok (.aload_n 0, 1) := by decide +kernel
theorem dX6_word_18 : decode cX6_word 18 = .ok (.getfield 19, 3) := by decide +kernel
theorem dX6_word_21 : decode cX6_word 21 = .ok (.getfield 80, 3) := by decide +kernel
theorem dX6_word_24 : decode cX6_word 24 = .ok (.bipush 10, 2) := by decide +kernel
theorem dX6_word_26 : decode cX6_word 26 = .ok (.if_icmp .lt 6, 3) := by decide +kernel
theorem dX6_word_29 : decode cX6_word 29 = .ok (.bipush (-4), 2) := by decide +kernel
theorem dX6_word_31 : decode cX6_word 31 = .ok (.ireturn, 1) := by decide +kernel
theorem dX6_word_32 : decode cX6_word 32 = .ok (.aload_n 0, 1) := by decide +kernel
theorem dX6_word_33 : decode cX6_word 33 = .ok (.getfield 19, 3) := by decide +kernel
theorem dX6_word_36 : decode cX6_word 36 = .ok (.iload_n 1, 1) := by decide +kernel
theorem dX6_word_37 : decode cX6_word 37 = .ok (.iload_n 2, 1) := by decide +kernel
theorem dX6_word_38 : decode cX6_word 38 = .ok (.iload_n 3, 1) := by decide +kernel
theorem dX6_word_39 : decode cX6_word 39 = .ok (.iload 4, 2) := by decide +kernel
theorem dX6_word_41 : decode cX6_word 41 = .ok (.iload 5, 2) := by decide +kernel
theorem dX6_word_43 : decode cX6_word 43 = .ok (.aload_n 0, 1) := by decide +kernel
theorem dX6_word_44 : decode cX6_word 44 = .ok (.getfield 10, 3) := by decide +kernel
theorem dX6_word_47 : decode cX6_word 47 = .ok (.invokevirtual 83, 3) := by decide +kernel
theorem dX6_word_50 : decode cX6_word 50 = .ok (.ireturn, 1) := by decide +kernel
theorem dX6_read_0 : decode cX6_read 0 = .ok (.aload_n 0, 1) := by decide +kernel
theorem dX6_read_1 : decode cX6_read 1 = .ok (.iload_n 1, 1) := by decide +kernel
theorem dX6_read_2 : decode cX6_read 2 = .ok (.invokevirtual 87, 3) := by decide +kernel
theorem dX6_read_5 : decode cX6_read 5 = .ok (.astore_n 2, 1) := by decide +kernel
theorem dX6_read_6 : decode cX6_read 6 = .ok (.aload_n 2, 1) := by decide +kernel
theorem dX6_read_7 : decode cX6_read 7 = .ok (.ifnonnull 6, 3) := by decide +kernel
theorem dX6_read_10 : decode cX6_read 10 = .ok (.bipush (-2), 2) := by decide +kernel
theorem dX6_read_12 : decode cX6_read 12 = .ok (.ireturn, 1) := by decide +kernel
theorem dX6_read_13 : decode cX6_read 13 = .ok (.aload_n 2, 1) := by decide +kernel
theorem dX6_read_14 : decode cX6_read 14 = .ok (.getfield 91, 3) := by decide +kernel
theorem dX6_read_17 : decode cX6_read 17 = .ok (.ifCond .eq 9, 3) := by decide +kernel
theorem dX6_read_20 : decode cX6_read 20 = .ok (.aload_n 0, 1) := by decide +kernel
theorem dX6_read_21 : decode cX6_read 21 = .ok (.iconst 1, 1) := by decide +kernel
theorem dX6_read_22 : decode cX6_read 22 = .ok (.invokevirtual 95, 3) := by decide +kernel
theorem dX6_read_25 : decode cX6_read 25 = .ok (.ireturn, 1) := by decide +kernel
theorem dX6_read_26 : decode cX6_read 26 = .ok (.iconst 0, 1) := by decide +kernel
theorem dX6_read_27 : decode cX6_read 27 = .ok (.istore_n 3, 1) := by decide +kernel
theorem dX6_read_28 : decode cX6_read 28 = .ok (.iconst 0, 1) := by decide +kernel
theorem dX6_read_29 : decode cX6_read 29 = .ok (.istore 4, 2) := by decide +kernel
theorem dX6_read_31 : decode cX6_read 31 = .ok (.iload 4, 2) := by decide +kernel
theorem dX6_read_33 : decode cX6_read 33 = .ok (.iconst 5, 1) := by decide +kernel
theorem dX6_read_34 : decode cX6_read 34 = .ok (.iadd, 1) := by decide +kernel
theorem dX6_read_35 : decode cX6_read 35 = .ok (.aload_n 2, 1) := by decide +kernel
theorem dX6_read_36 : decode cX6_read 36 = .ok (.getfield 99, 3) := by decide +kernel
theorem dX6_read_39 : decode cX6_read 39 = .ok (.if_icmp .gt 60, 3) := by decide +kernel
theorem dX6_read_42 : decode cX6_read 42 = .ok (.aload_n 2, 1) := by decide +kernel
theorem dX6_read_43 : decode cX6_read 43 = .ok (.getfield 100, 3) := by decide +kernel
theorem dX6_read_46 : decode cX6_read 46 = .ok (.astore 5, 2) := by decide +kernel
theorem dX6_read_48 : decode cX6_read 48 = .ok (.aload_n 0, 1) := by decide +kernel
theorem dX6_read_49 : decode cX6_read 49 = .ok (.aload 5, 2) := by decide +kernel
theorem dX6_read_51 : decode cX6_read 51 = .ok (.iload 4, 2) := by decide +kernel
theorem dX6_read_53 : decode cX6_read 53 = .ok (.iaload, 1) := by decide +kernel
theorem dX6_read_54 : decode cX6_read 54 = .ok (.aload 5, 2) := by decide +kernel
theorem dX6_read_56 : decode cX6_read 56 = .ok (.iload 4, 2) := by decide +kernel
theorem dX6_read_58 : decode cX6_read 58 = .ok (.iconst 1, 1) := by decide +kernel
theorem dX6_read_59 : decode cX6_read 59 = .ok (.iadd, 1) := by decide +kernel
theorem dX6_read_60 : decode cX6_read 60 = .ok (.iaload, 1) := by decide +kernel
theorem dX6_read_61 : decode cX6_read 61 = .ok (.aload 5, 2) := by decide +kernel
theorem dX6_read_63 : decode cX6_read 63 = .ok (.iload 4, 2) := by decide +kernel
theorem dX6_read_65 : decode cX6_read 65 = .ok (.iconst 2, 1) := by decide +kernel
theorem dX6_read_66 : decode cX6_read 66 = .ok (.iadd, 1) := by decide +kernel
theorem dX6_read_67 : decode cX6_read 67 = .ok (.iaload, 1) := by decide +kernel
theorem dX6_read_68 : decode cX6_read 68 = .ok (.aload 5, 2) := by decide +kernel
theorem dX6_read_70 : decode cX6_read 70 = .ok (.iload 4, 2) := by decide +kernel
theorem dX6_read_72 : decode cX6_read 72 = .ok (.iconst 3, 1) := by decide +kernel
theorem dX6_read_73 : decode cX6_read 73 = .ok (.iadd, 1) := by decide +kernel
theorem dX6_read_74 : decode cX6_read 74 = .ok (.iaload, 1) := by decide +kernel
theorem dX6_read_75 : decode cX6_read 75 = .ok (.aload 5, 2) := by decide +kernel
theorem dX6_read_77 : decode cX6_read 77 = .ok (.iload 4, 2) := by decide +kernel
theorem dX6_read_79 : decode cX6_read 79 = .ok (.iconst 4, 1) := by decide +kernel
theorem dX6_read_80 : decode cX6_read 80 = .ok (.iadd, 1) := by decide +kernel
theorem dX6_read_81 : decode cX6_read 81 = .ok (.iaload, 1) := by decide +kernel
theorem dX6_read_82 : decode cX6_read 82 = .ok (.invokevirtual 104, 3) := by decide +kernel
theorem dX6_read_85 : decode cX6_read 85 = .ok (.ifCond .ge 5, 3) := by decide +kernel
theorem dX6_read_88 : decode cX6_read 88 = .ok (.iload_n 3, 1) := by decide +kernel
theorem dX6_read_89 : decode cX6_read 89 = .ok (.ireturn, 1) := by decide +kernel
theorem dX6_read_90 : decode cX6_read 90 = .ok (.iinc 3 1, 3) := by decide +kernel
theorem dX6_read_93 : decode cX6_read 93 = .ok (.iinc 4 5, 3) := by decide +kernel
theorem dX6_read_96 : decode cX6_read 96 = .ok (.goto (-65), 3) := by decide +kernel
theorem dX6_read_99 : decode cX6_read 99 = .ok (.iload_n 3, 1) := by decide +kernel
theorem dX6_read_100 : decode cX6_read 100 = .ok (.ireturn, 1) := by decide +kernel
theorem dX6_is_0 : decode cX6_is 0 = .ok (.aload_n 0, 1) := by decide +kernel
theorem dX6_is_1 : decode cX6_is 1 = .ok (.getfield 19, 3) := by decide +kernel
theorem dX6_is_4 : decode cX6_is 4 = .ok (.iload_n 1, 1) := by decide +kernel
theorem dX6_is_5 : decode cX6_is 5 = .ok (.invokevirtual 108, 3) := by decide +kernel
theorem dX6_is_8 : decode cX6_is 8 = .ok (.ifCond .ne 6, 3) := by decide +kernel
theorem dX6_is_11 : decode cX6_is 11 = .ok (.bipush (-2), 2) := by decide +kernel
theorem dX6_is_13 : decode cX6_is 13 = .ok (.ireturn, 1) := by decide +kernel
theorem dX6_is_14 : decode cX6_is 14 = .ok (.iload_n 2, 1) := by decide +kernel
theorem dX6_is_15 : decode cX6_is 15 = .ok (.tableswitch 115 0 6 #[41, 51, 61, 71, 81, 91, 103], 41) := by decide +kernel
theorem dX6_is_56 : decode cX6_is 56 = .ok (.aload_n 0, 1) := by decide +kernel
theorem dX6_is_57 : decode cX6_is 57 = .ok (.getfield 19, 3) := by decide +kernel
theorem dX6_is_60 : decode cX6_is 60 = .ok (.getfield 111, 3) := by decide +kernel
theorem dX6_is_63 : decode cX6_is 63 = .ok (.iload_n 1, 1) := by decide +kernel
theorem dX6_is_64 : decode cX6_is 64 = .ok (.iaload, 1) := by decide +kernel
theorem dX6_is_65 : decode cX6_is 65 = .ok (.ireturn, 1) := by decide +kernel
theorem dX6_is_66 : decode cX6_is 66 = .ok (.aload_n 0, 1) := by decide +kernel
theorem dX6_is_67 : decode cX6_is 67 = .ok (.getfield 19, 3) := by decide +kernel
theorem dX6_is_70 : decode cX6_is 70 = .ok (.getfield 114, 3) := by decide +kernel
theorem dX6_is_73 : decode cX6_is 73 = .ok (.iload_n 1, 1) := by decide +kernel
theorem dX6_is_74 : decode cX6_is 74 = .ok (.iaload, 1) := by decide +kernel
theorem dX6_is_75 : decode cX6_is 75 = .ok (.ireturn, 1) := by decide +kernel
theorem dX6_is_76 : decode cX6_is 76 = .ok (.aload_n 0, 1) := by decide +kernel
theorem dX6_is_77 : decode cX6_is 77 = .ok (.getfield 19, 3) := by decide +kernel
theorem dX6_is_80 : decode cX6_is 80 = .ok (.getfield 117, 3) := by decide +kernel
theorem dX6_is_83 : decode cX6_is 83 = .ok (.iload_n 1, 1) := by decide +kernel
theorem dX6_is_84 : decode cX6_is 84 = .ok (.iaload, 1) := by decide +kernel
theorem dX6_is_85 : decode cX6_is 85 = .ok (.ireturn, 1) := by decide +kernel
theorem dX6_is_86 : decode cX6_is 86 = .ok (.aload_n 0, 1) := by decide +kernel
theorem dX6_is_87 : decode cX6_is 87 = .ok (.getfield 19, 3) := by decide +kernel
theorem dX6_is_90 : decode cX6_is 90 = .ok (.getfield 120, 3) := by decide +kernel
theorem dX6_is_93 : decode cX6_is 93 = .ok (.iload_n 1, 1) := by decide +kernel
theorem dX6_is_94 : decode cX6_is 94 = .ok (.iaload, 1) := by decide +kernel
theorem dX6_is_95 : decode cX6_is 95 = .ok (.ireturn, 1) := by decide +kernel
theorem dX6_is_96 : decode cX6_is 96 = .ok (.aload_n 0, 1) := by decide +kernel
theorem dX6_is_97 : decode cX6_is 97 = .ok (.getfield 19, 3) := by decide +kernel
theorem dX6_is_100 : decode cX6_is 100 = .ok (.getfield 123, 3) := by decide +kernel
theorem dX6_is_103 : decode cX6_is 103 = .ok (.iload_n 1, 1) := by decide +kernel
theorem dX6_is_104 : decode cX6_is 104 = .ok (.iaload, 1) := by decide +kernel
theorem dX6_is_105 : decode cX6_is 105 = .ok (.ireturn, 1) := by decide +kernel
theorem dX6_is_106 : decode cX6_is 106 = .ok (.aload_n 0, 1) := by decide +kernel
theorem dX6_is_107 : decode cX6_is 107 = .ok (.getfield 19, 3) := by decide +kernel
theorem dX6_is_110 : decode cX6_is 110 = .ok (.getfield 126, 3) := by decide +kernel
theorem dX6_is_113 : decode cX6_is 113 = .ok (.iload_n 1, 1) := by decide +kernel
theorem dX6_is_114 : decode cX6_is 114 = .ok (.ishr, 1) := by decide +kernel
theorem dX6_is_115 : decode cX6_is 115 = .ok (.iconst 1, 1) := by decide +kernel
theorem dX6_is_116 : decode cX6_is 116 = .ok (.iand, 1) := by decide +kernel
theorem dX6_is_117 : decode cX6_is 117 = .ok (.ireturn, 1) := by decide +kernel
theorem dX6_is_118 : decode cX6_is 118 = .ok (.aload_n 0, 1) := by decide +kernel
theorem dX6_is_119 : decode cX6_is 119 = .ok (.getfield 19, 3) := by decide +kernel
theorem dX6_is_122 : decode cX6_is 122 = .ok (.getfield 129, 3) := by decide +kernel
theorem dX6_is_125 : decode cX6_is 125 = .ok (.iload_n 1, 1) := by decide +kernel
theorem dX6_is_126 : decode cX6_is 126 = .ok (.ishr, 1) := by decide +kernel
theorem dX6_is_127 : decode cX6_is 127 = .ok (.iconst 1, 1) := by decide +kernel
theorem dX6_is_128 : decode cX6_is 128 = .ok (.iand, 1) := by decide +kernel
theorem dX6_is_129 : decode cX6_is 129 = .ok (.ireturn, 1) := by decide +kernel
theorem dX6_is_130 : decode cX6_is 130 = .ok (.bipush (-2), 2) := by decide +kernel
theorem dX6_is_132 : decode cX6_is 132 = .ok (.ireturn, 1) := by decide +kernel
theorem dX6_keep_0 : decode cX6_keep 0 = .ok (.iload_n 1, 1) := by decide +kernel
theorem dX6_keep_1 : decode cX6_keep 1 = .ok (.aload_n 0, 1) := by decide +kernel
theorem dX6_keep_2 : decode cX6_keep 2 = .ok (.getfield 19, 3) := by decide +kernel
theorem dX6_keep_5 : decode cX6_keep 5 = .ok (.invokevirtual 132, 3) := by decide +kernel
theorem dX6_keep_8 : decode cX6_keep 8 = .ok (.iconst (-1), 1) := by decide +kernel
theorem dX6_keep_9 : decode cX6_keep 9 = .ok (.ixor, 1) := by decide +kernel
theorem dX6_keep_10 : decode cX6_keep 10 = .ok (.iand, 1) := by decide +kernel
theorem dX6_keep_11 : decode cX6_keep 11 = .ok (.ifCond .eq 6, 3) := by decide +kernel
theorem dX6_keep_14 : decode cX6_keep 14 = .ok (.bipush (-2), 2) := by decide +kernel
theorem dX6_keep_16 : decode cX6_keep 16 = .ok (.ireturn, 1) := by decide +kernel
theorem dX6_keep_17 : decode cX6_keep 17 = .ok (.aload_n 0, 1) := by decide +kernel
theorem dX6_keep_18 : decode cX6_keep 18 = .ok (.getfield 19, 3) := by decide +kernel
theorem dX6_keep_21 : decode cX6_keep 21 = .ok (.getfield 126, 3) := by decide +kernel
theorem dX6_keep_24 : decode cX6_keep 24 = .ok (.istore_n 2, 1) := by decide +kernel
theorem dX6_keep_25 : decode cX6_keep 25 = .ok (.aload_n 0, 1) := by decide +kernel
theorem dX6_keep_26 : decode cX6_keep 26 = .ok (.getfield 19, 3) := by decide +kernel
theorem dX6_keep_29 : decode cX6_keep 29 = .ok (.iload_n 1, 1) := by decide +kernel
theorem dX6_keep_30 : decode cX6_keep 30 = .ok (.putfield 126, 3) := by decide +kernel
theorem dX6_keep_33 : decode cX6_keep 33 = .ok (.iload_n 2, 1) := by decide +kernel
theorem dX6_keep_34 : decode cX6_keep 34 = .ok (.ireturn, 1) := by decide +kernel
theorem dX6_mayBeTold_0 : decode cX6_mayBeTold 0 = .ok (.iload_n 1, 1) := by decide +kernel
theorem dX6_mayBeTold_1 : decode cX6_mayBeTold 1 = .ok (.ifCond .lt 20, 3) := by decide +kernel
theorem dX6_mayBeTold_4 : decode cX6_mayBeTold 4 = .ok (.iload_n 1, 1) := by decide +kernel
theorem dX6_mayBeTold_5 : decode cX6_mayBeTold 5 = .ok (.iconst 2, 1) := by decide +kernel
theorem dX6_mayBeTold_6 : decode cX6_mayBeTold 6 = .ok (.if_icmp .gt 15, 3) := by decide +kernel
theorem dX6_mayBeTold_9 : decode cX6_mayBeTold 9 = .ok (.iload_n 2, 1) := by decide +kernel
theorem dX6_mayBeTold_10 : decode cX6_mayBeTold 10 = .ok (.iconst 1, 1) := by decide +kernel
theorem dX6_mayBeTold_11 : decode cX6_mayBeTold 11 = .ok (.if_icmp .lt 10, 3) := by decide +kernel
theorem dX6_mayBeTold_14 : decode cX6_mayBeTold 14 = .ok (.iload_n 2, 1) := by decide +kernel
theorem dX6_mayBeTold_15 : decode cX6_mayBeTold 15 = .ok (.sipush 1023, 3) := by decide +kernel
theorem dX6_mayBeTold_18 : decode cX6_mayBeTold 18 = .ok (.if_icmp .le 5, 3) := by decide +kernel
theorem dX6_mayBeTold_21 : decode cX6_mayBeTold 21 = .ok (.iconst 0, 1) := by decide +kernel
theorem dX6_mayBeTold_22 : decode cX6_mayBeTold 22 = .ok (.ireturn, 1) := by decide +kernel
theorem dX6_mayBeTold_23 : decode cX6_mayBeTold 23 = .ok (.iload_n 3, 1) := by decide +kernel
theorem dX6_mayBeTold_24 : decode cX6_mayBeTold 24 = .ok (.invokestatic 60, 3) := by decide +kernel
theorem dX6_mayBeTold_27 : decode cX6_mayBeTold 27 = .ok (.ifCond .eq 16, 3) := by decide +kernel
theorem dX6_mayBeTold_30 : decode cX6_mayBeTold 30 = .ok (.iload 4, 2) := by decide +kernel
theorem dX6_mayBeTold_32 : decode cX6_mayBeTold 32 = .ok (.ifCond .lt 11, 3) := by decide +kernel
theorem dX6_mayBeTold_35 : decode cX6_mayBeTold 35 = .ok (.iload 4, 2) := by decide +kernel
theorem dX6_mayBeTold_37 : decode cX6_mayBeTold 37 = .ok (.sipush 999, 3) := by decide +kernel
theorem dX6_mayBeTold_40 : decode cX6_mayBeTold 40 = .ok (.if_icmp .le 5, 3) := by decide +kernel
theorem dX6_mayBeTold_43 : decode cX6_mayBeTold 43 = .ok (.iconst 0, 1) := by decide +kernel
theorem dX6_mayBeTold_44 : decode cX6_mayBeTold 44 = .ok (.ireturn, 1) := by decide +kernel
theorem dX6_mayBeTold_45 : decode cX6_mayBeTold 45 = .ok (.iload_n 1, 1) := by decide +kernel
theorem dX6_mayBeTold_46 : decode cX6_mayBeTold 46 = .ok (.ifCond .ne 23, 3) := by decide +kernel
theorem dX6_mayBeTold_49 : decode cX6_mayBeTold 49 = .ok (.iload 5, 2) := by decide +kernel
theorem dX6_mayBeTold_51 : decode cX6_mayBeTold 51 = .ok (.ifCond .lt 14, 3) := by decide +kernel
theorem dX6_mayBeTold_54 : decode cX6_mayBeTold 54 = .ok (.iload 5, 2) := by decide +kernel
theorem dX6_mayBeTold_56 : decode cX6_mayBeTold 56 = .ok (.bipush 99, 2) := by decide +kernel
theorem dX6_mayBeTold_58 : decode cX6_mayBeTold 58 = .ok (.if_icmp .gt 7, 3) := by decide +kernel
theorem dX6_mayBeTold_61 : decode cX6_mayBeTold 61 = .ok (.iconst 1, 1) := by decide +kernel
theorem dX6_mayBeTold_62 : decode cX6_mayBeTold 62 = .ok (.goto 16, 3) := by decide +kernel
theorem dX6_mayBeTold_65 : decode cX6_mayBeTold 65 = .ok (.iconst 0, 1) := by decide +kernel
theorem dX6_mayBeTold_66 : decode cX6_mayBeTold 66 = .ok (.goto 12, 3) := by decide +kernel
theorem dX6_mayBeTold_69 : decode cX6_mayBeTold 69 = .ok (.aload_n 0, 1) := by decide +kernel
theorem dX6_mayBeTold_70 : decode cX6_mayBeTold 70 = .ok (.getfield 19, 3) := by decide +kernel
theorem dX6_mayBeTold_73 : decode cX6_mayBeTold 73 = .ok (.iload 5, 2) := by decide +kernel
theorem dX6_mayBeTold_75 : decode cX6_mayBeTold 75 = .ok (.invokevirtual 108, 3) := by decide +kernel
theorem dX6_mayBeTold_78 : decode cX6_mayBeTold 78 = .ok (.ireturn, 1) := by decide +kernel
theorem dX6_isTown_0 : decode cX6_isTown 0 = .ok (.iload_n 0, 1) := by decide +kernel
theorem dX6_isTown_1 : decode cX6_isTown 1 = .ok (.ifCond .lt 13, 3) := by decide +kernel
theorem dX6_isTown_4 : decode cX6_isTown 4 = .ok (.iload_n 0, 1) := by decide +kernel
theorem dX6_isTown_5 : decode cX6_isTown 5 = .ok (.bipush 6, 2) := by decide +kernel
theorem dX6_isTown_7 : decode cX6_isTown 7 = .ok (.if_icmp .ge 7, 3) := by decide +kernel
theorem dX6_isTown_10 : decode cX6_isTown 10 = .ok (.iconst 1, 1) := by decide +kernel
theorem dX6_isTown_11 : decode cX6_isTown 11 = .ok (.goto 4, 3) := by decide +kernel
theorem dX6_isTown_14 : decode cX6_isTown 14 = .ok (.iconst 0, 1) := by decide +kernel
theorem dX6_isTown_15 : decode cX6_isTown 15 = .ok (.ireturn, 1) := by decide +kernel
theorem dX6_type_0 : decode cX6_type 0 = .ok (.aload_n 0, 1) := by decide +kernel
theorem dX6_type_1 : decode cX6_type 1 = .ok (.iload_n 1, 1) := by decide +kernel
theorem dX6_type_2 : decode cX6_type 2 = .ok (.invokevirtual 136, 3) := by decide +kernel
theorem dX6_type_5 : decode cX6_type 5 = .ok (.astore_n 3, 1) := by decide +kernel
theorem dX6_type_6 : decode cX6_type 6 = .ok (.aload_n 3, 1) := by decide +kernel
theorem dX6_type_7 : decode cX6_type 7 = .ok (.ifnull 14, 3) := by decide +kernel
theorem dX6_type_10 : decode cX6_type 10 = .ok (.iload_n 2, 1) := by decide +kernel
theorem dX6_type_11 : decode cX6_type 11 = .ok (.ifCond .lt 10, 3) := by decide +kernel
theorem dX6_type_14 : decode cX6_type 14 = .ok (.iload_n 2, 1) := by decide +kernel
theorem dX6_type_15 : decode cX6_type 15 = .ok (.sipush 255, 3) := by decide +kernel
theorem dX6_type_18 : decode cX6_type 18 = .ok (.if_icmp .le 6, 3) := by decide +kernel
theorem dX6_type_21 : decode cX6_type 21 = .ok (.bipush (-2), 2) := by decide +kernel
theorem dX6_type_23 : decode cX6_type 23 = .ok (.ireturn, 1) := by decide +kernel
theorem dX6_type_24 : decode cX6_type 24 = .ok (.aload_n 3, 1) := by decide +kernel
theorem dX6_type_25 : decode cX6_type 25 = .ok (.getfield 140, 3) := by decide +kernel
theorem dX6_type_28 : decode cX6_type 28 = .ok (.bipush 40, 2) := by decide +kernel
theorem dX6_type_30 : decode cX6_type 30 = .ok (.if_icmp .lt 6, 3) := by decide +kernel
theorem dX6_type_33 : decode cX6_type 33 = .ok (.bipush (-4), 2) := by decide +kernel
theorem dX6_type_35 : decode cX6_type 35 = .ok (.ireturn, 1) := by decide +kernel
theorem dX6_type_36 : decode cX6_type 36 = .ok (.aload_n 3, 1) := by decide +kernel
theorem dX6_type_37 : decode cX6_type 37 = .ok (.iload_n 2, 1) := by decide +kernel
theorem dX6_type_38 : decode cX6_type 38 = .ok (.invokevirtual 141, 3) := by decide +kernel
theorem dX6_type_41 : decode cX6_type 41 = .ok (.aload_n 3, 1) := by decide +kernel
theorem dX6_type_42 : decode cX6_type 42 = .ok (.getfield 140, 3) := by decide +kernel
theorem dX6_type_45 : decode cX6_type 45 = .ok (.ireturn, 1) := by decide +kernel
theorem dX6_wipe_0 : decode cX6_wipe 0 = .ok (.aload_n 0, 1) := by decide +kernel
theorem dX6_wipe_1 : decode cX6_wipe 1 = .ok (.iload_n 1, 1) := by decide +kernel
theorem dX6_wipe_2 : decode cX6_wipe 2 = .ok (.invokevirtual 136, 3) := by decide +kernel
theorem dX6_wipe_5 : decode cX6_wipe 5 = .ok (.astore_n 2, 1) := by decide +kernel
theorem dX6_wipe_6 : decode cX6_wipe 6 = .ok (.aload_n 2, 1) := by decide +kernel
theorem dX6_wipe_7 : decode cX6_wipe 7 = .ok (.ifnonnull 6, 3) := by decide +kernel
theorem dX6_wipe_10 : decode cX6_wipe 10 = .ok (.bipush (-2), 2) := by decide +kernel
theorem dX6_wipe_12 : decode cX6_wipe 12 = .ok (.ireturn, 1) := by decide +kernel
theorem dX6_wipe_13 : decode cX6_wipe 13 = .ok (.aload_n 2, 1) := by decide +kernel
theorem dX6_wipe_14 : decode cX6_wipe 14 = .ok (.getfield 140, 3) := by decide +kernel
theorem dX6_wipe_17 : decode cX6_wipe 17 = .ok (.istore_n 3, 1) := by decide +kernel
theorem dX6_wipe_18 : decode cX6_wipe 18 = .ok (.aload_n 2, 1) := by decide +kernel
theorem dX6_wipe_19 : decode cX6_wipe 19 = .ok (.invokevirtual 145, 3) := by decide +kernel
theorem dX6_wipe_22 : decode cX6_wipe 22 = .ok (.iload_n 3, 1) := by decide +kernel
theorem dX6_wipe_23 : decode cX6_wipe 23 = .ok (.ireturn, 1) := by decide +kernel
theorem dX6_fault_0 : decode cX6_fault 0 = .ok (.aload_n 0, 1) := by decide +kernel
theorem dX6_fault_1 : decode cX6_fault 1 = .ok (.iload_n 1, 1) := by decide +kernel
theorem dX6_fault_2 : decode cX6_fault 2 = .ok (.invokevirtual 136, 3) := by decide +kernel
theorem dX6_fault_5 : decode cX6_fault 5 = .ok (.astore_n 2, 1) := by decide +kernel
theorem dX6_fault_6 : decode cX6_fault 6 = .ok (.aload_n 2, 1) := by decide +kernel
theorem dX6_fault_7 : decode cX6_fault 7 = .ok (.ifnonnull 8, 3) := by decide +kernel
theorem dX6_fault_10 : decode cX6_fault 10 = .ok (.bipush (-2), 2) := by decide +kernel
theorem dX6_fault_12 : decode cX6_fault 12 = .ok (.goto 7, 3) := by decide +kernel
theorem dX6_fault_15 : decode cX6_fault 15 = .ok (.aload_n 2, 1) := by decide +kernel
theorem dX6_fault_16 : decode cX6_fault 16 = .ok (.getfield 148, 3) := by decide +kernel
theorem dX6_fault_19 : decode cX6_fault 19 = .ok (.ireturn, 1) := by decide +kernel
theorem dX6_law_0 : decode cX6_law 0 = .ok (.aload_n 0, 1) := by decide +kernel
theorem dX6_law_1 : decode cX6_law 1 = .ok (.iload_n 1, 1) := by decide +kernel
theorem dX6_law_2 : decode cX6_law 2 = .ok (.invokevirtual 136, 3) := by decide +kernel
theorem dX6_law_5 : decode cX6_law 5 = .ok (.astore_n 3, 1) := by decide +kernel
theorem dX6_law_6 : decode cX6_law 6 = .ok (.aload_n 3, 1) := by decide +kernel
theorem dX6_law_7 : decode cX6_law 7 = .ok (.ifnonnull 6, 3) := by decide +kernel
theorem dX6_law_10 : decode cX6_law 10 = .ok (.bipush (-2), 2) := by decide +kernel
theorem dX6_law_12 : decode cX6_law 12 = .ok (.ireturn, 1) := by decide +kernel
theorem dX6_law_13 : decode cX6_law 13 = .ok (.iload_n 2, 1) := by decide +kernel
theorem dX6_law_14 : decode cX6_law 14 = .ok (.tableswitch 50 0 3 #[30, 35, 40, 45], 30) := by decide +kernel
theorem dX6_law_44 : decode cX6_law 44 = .ok (.aload_n 3, 1) := by decide +kernel
theorem dX6_law_45 : decode cX6_law 45 = .ok (.getfield 151, 3) := by decide +kernel
theorem dX6_law_48 : decode cX6_law 48 = .ok (.ireturn, 1) := by decide +kernel
theorem dX6_law_49 : decode cX6_law 49 = .ok (.aload_n 3, 1) := by decide +kernel
theorem dX6_law_50 : decode cX6_law 50 = .ok (.getfield 154, 3) := by decide +kernel
theorem dX6_law_53 : decode cX6_law 53 = .ok (.ireturn, 1) := by decide +kernel
theorem dX6_law_54 : decode cX6_law 54 = .ok (.aload_n 3, 1) := by decide +kernel
theorem dX6_law_55 : decode cX6_law 55 = .ok (.getfield 157, 3) := by decide +kernel
theorem dX6_law_58 : decode cX6_law 58 = .ok (.ireturn, 1) := by decide +kernel
theorem dX6_law_59 : decode cX6_law 59 = .ok (.aload_n 3, 1) := by decide +kernel
theorem dX6_law_60 : decode cX6_law 60 = .ok (.getfield 160, 3) := by decide +kernel
theorem dX6_law_63 : decode cX6_law 63 = .ok (.ireturn, 1) := by decide +kernel
theorem dX6_law_64 : decode cX6_law 64 = .ok (.bipush (-2), 2) := by decide +kernel
theorem dX6_law_66 : decode cX6_law 66 = .ok (.ireturn, 1) := by decide +kernel
theorem dX6_lawOf_0 : decode cX6_lawOf 0 = .ok (.iload_n 1, 1) := by decide +kernel
theorem dX6_lawOf_1 : decode cX6_lawOf 1 = .ok (.ifCond .ne 8, 3) := by decide +kernel
theorem dX6_lawOf_4 : decode cX6_lawOf 4 = .ok (.aload_n 0, 1) := by decide +kernel
theorem dX6_lawOf_5 : decode cX6_lawOf 5 = .ok (.getfield 26, 3) := by decide +kernel
theorem dX6_lawOf_8 : decode cX6_lawOf 8 = .ok (.areturn, 1) := by decide +kernel
theorem dX6_lawOf_9 : decode cX6_lawOf 9 = .ok (.iload_n 1, 1) := by decide +kernel
theorem dX6_lawOf_10 : decode cX6_lawOf 10 = .ok (.iconst 1, 1) := by decide +kernel
theorem dX6_lawOf_11 : decode cX6_lawOf 11 = .ok (.if_icmp .ne 10, 3) := by decide +kernel
theorem dX6_lawOf_14 : decode cX6_lawOf 14 = .ok (.aload_n 0, 1) := by decide +kernel
theorem dX6_lawOf_15 : decode cX6_lawOf 15 = .ok (.getfield 30, 3) := by decide +kernel
theorem dX6_lawOf_18 : decode cX6_lawOf 18 = .ok (.goto 4, 3) := by decide +kernel
theorem dX6_lawOf_21 : decode cX6_lawOf 21 = .ok (.aconst_null, 1) := by decide +kernel
theorem dX6_lawOf_22 : decode cX6_lawOf 22 = .ok (.areturn, 1) := by decide +kernel
theorem dX6_heard_0 : decode cX6_heard 0 = .ok (.aload_n 0, 1) := by decide +kernel
theorem dX6_heard_1 : decode cX6_heard 1 = .ok (.iload_n 1, 1) := by decide +kernel
theorem dX6_heard_2 : decode cX6_heard 2 = .ok (.invokevirtual 136, 3) := by decide +kernel
theorem dX6_heard_5 : decode cX6_heard 5 = .ok (.astore_n 3, 1) := by decide +kernel
theorem dX6_heard_6 : decode cX6_heard 6 = .ok (.aload_n 3, 1) := by decide +kernel
theorem dX6_heard_7 : decode cX6_heard 7 = .ok (.ifnull 12, 3) := by decide +kernel
theorem dX6_heard_10 : decode cX6_heard 10 = .ok (.iload_n 2, 1) := by decide +kernel
theorem dX6_heard_11 : decode cX6_heard 11 = .ok (.ifCond .lt 8, 3) := by decide +kernel
theorem dX6_heard_14 : decode cX6_heard 14 = .ok (.iload_n 2, 1) := by decide +kernel
theorem dX6_heard_15 : decode cX6_heard 15 = .ok (.iconst 2, 1) := by decide +kernel
theorem dX6_heard_16 : decode cX6_heard 16 = .ok (.if_icmp .le 6, 3) := by decide +kernel
theorem dX6_heard_19 : decode cX6_heard 19 = .ok (.bipush (-2), 2) := by decide +kernel
theorem dX6_heard_21 : decode cX6_heard 21 = .ok (.ireturn, 1) := by decide +kernel
theorem dX6_heard_22 : decode cX6_heard 22 = .ok (.aload_n 0, 1) := by decide +kernel
theorem dX6_heard_23 : decode cX6_heard 23 = .ok (.getfield 44, 3) := by decide +kernel
theorem dX6_heard_26 : decode cX6_heard 26 = .ok (.aload_n 3, 1) := by decide +kernel
theorem dX6_heard_27 : decode cX6_heard 27 = .ok (.aload_n 0, 1) := by decide +kernel
theorem dX6_heard_28 : decode cX6_heard 28 = .ok (.getfield 19, 3) := by decide +kernel
theorem dX6_heard_31 : decode cX6_heard 31 = .ok (.invokevirtual 163, 3) := by decide +kernel
theorem dX6_heard_34 : decode cX6_heard 34 = .ok (.invokevirtual 166, 3) := by decide +kernel
theorem dX6_heard_37 : decode cX6_heard 37 = .ok (.aload_n 0, 1) := by decide +kernel
theorem dX6_heard_38 : decode cX6_heard 38 = .ok (.getfield 44, 3) := by decide +kernel
theorem dX6_heard_41 : decode cX6_heard 41 = .ok (.iload_n 2, 1) := by decide +kernel
theorem dX6_heard_42 : decode cX6_heard 42 = .ok (.invokevirtual 170, 3) := by decide +kernel
theorem dX6_heard_45 : decode cX6_heard 45 = .ok (.ireturn, 1) := by decide +kernel
theorem dX6_ordered_0 : decode cX6_ordered 0 = .ok (.aload_n 0, 1) := by decide +kernel
theorem dX6_ordered_1 : decode cX6_ordered 1 = .ok (.iload_n 1, 1) := by decide +kernel
theorem dX6_ordered_2 : decode cX6_ordered 2 = .ok (.invokevirtual 136, 3) := by decide +kernel
theorem dX6_ordered_5 : decode cX6_ordered 5 = .ok (.astore 4, 2) := by decide +kernel
theorem dX6_ordered_7 : decode cX6_ordered 7 = .ok (.aload_n 0, 1) := by decide +kernel
theorem dX6_ordered_8 : decode cX6_ordered 8 = .ok (.iload_n 2, 1) := by decide +kernel
theorem dX6_ordered_9 : decode cX6_ordered 9 = .ok (.invokevirtual 87, 3) := by decide +kernel
theorem dX6_ordered_12 : decode cX6_ordered 12 = .ok (.astore 5, 2) := by decide +kernel
theorem dX6_ordered_14 : decode cX6_ordered 14 = .ok (.aload 4, 2) := by decide +kernel
theorem dX6_ordered_16 : decode cX6_ordered 16 = .ok (.ifnull 17, 3) := by decide +kernel
theorem dX6_ordered_19 : decode cX6_ordered 19 = .ok (.aload 5, 2) := by decide +kernel
theorem dX6_ordered_21 : decode cX6_ordered 21 = .ok (.ifnull 12, 3) := by decide +kernel
theorem dX6_ordered_24 : decode cX6_ordered 24 = .ok (.iload_n 3, 1) := by decide +kernel
theorem dX6_ordered_25 : decode cX6_ordered 25 = .ok (.ifCond .lt 8, 3) := by decide +kernel
theorem dX6_ordered_28 : decode cX6_ordered 28 = .ok (.iload_n 3, 1) := by decide +kernel
theorem dX6_ordered_29 : decode cX6_ordered 29 = .ok (.iconst 2, 1) := by decide +kernel
theorem dX6_ordered_30 : decode cX6_ordered 30 = .ok (.if_icmp .le 6, 3) := by decide +kernel
theorem dX6_ordered_33 : decode cX6_ordered 33 = .ok (.bipush (-2), 2) := by decide +kernel
theorem dX6_ordered_35 : decode cX6_ordered 35 = .ok (.ireturn, 1) := by decide +kernel
theorem dX6_ordered_36 : decode cX6_ordered 36 = .ok (.aload 5, 2) := by decide +kernel
theorem dX6_ordered_38 : decode cX6_ordered 38 = .ok (.getfield 91, 3) := by decide +kernel
theorem dX6_ordered_41 : decode cX6_ordered 41 = .ok (.ifCond .eq 9, 3) := by decide +kernel
theorem dX6_ordered_44 : decode cX6_ordered 44 = .ok (.aload_n 0, 1) := by decide +kernel
theorem dX6_ordered_45 : decode cX6_ordered 45 = .ok (.iconst 1, 1) := by decide +kernel
theorem dX6_ordered_46 : decode cX6_ordered 46 = .ok (.invokevirtual 95, 3) := by decide +kernel
theorem dX6_ordered_49 : decode cX6_ordered 49 = .ok (.ireturn, 1) := by decide +kernel
theorem dX6_ordered_50 : decode cX6_ordered 50 = .ok (.aload_n 0, 1) := by decide +kernel
theorem dX6_ordered_51 : decode cX6_ordered 51 = .ok (.aload 5, 2) := by decide +kernel
theorem dX6_ordered_53 : decode cX6_ordered 53 = .ok (.invokevirtual 173, 3) := by decide +kernel
theorem dX6_ordered_56 : decode cX6_ordered 56 = .ok (.ifCond .ne 6, 3) := by decide +kernel
theorem dX6_ordered_59 : decode cX6_ordered 59 = .ok (.bipush (-3), 2) := by decide +kernel
theorem dX6_ordered_61 : decode cX6_ordered 61 = .ok (.ireturn, 1) := by decide +kernel
theorem dX6_ordered_62 : decode cX6_ordered 62 = .ok (.aload_n 0, 1) := by decide +kernel
theorem dX6_ordered_63 : decode cX6_ordered 63 = .ok (.getfield 44, 3) := by decide +kernel
theorem dX6_ordered_66 : decode cX6_ordered 66 = .ok (.invokevirtual 177, 3) := by decide +kernel
theorem dX6_ordered_69 : decode cX6_ordered 69 = .ok (.iconst 0, 1) := by decide +kernel
theorem dX6_ordered_70 : decode cX6_ordered 70 = .ok (.istore 6, 2) := by decide +kernel
theorem dX6_ordered_72 : decode cX6_ordered 72 = .ok (.iload 6, 2) := by decide +kernel
theorem dX6_ordered_74 : decode cX6_ordered 74 = .ok (.aload 5, 2) := by decide +kernel
theorem dX6_ordered_76 : decode cX6_ordered 76 = .ok (.getfield 99, 3) := by decide +kernel
theorem dX6_ordered_79 : decode cX6_ordered 79 = .ok (.if_icmp .ge 26, 3) := by decide +kernel
theorem dX6_ordered_82 : decode cX6_ordered 82 = .ok (.aload_n 0, 1) := by decide +kernel
theorem dX6_ordered_83 : decode cX6_ordered 83 = .ok (.getfield 44, 3) := by decide +kernel
theorem dX6_ordered_86 : decode cX6_ordered 86 = .ok (.aload 4, 2) := by decide +kernel
theorem dX6_ordered_88 : decode cX6_ordered 88 = .ok (.aload 5, 2) := by decide +kernel
theorem dX6_ordered_90 : decode cX6_ordered 90 = .ok (.getfield 100, 3) := by decide +kernel
theorem dX6_ordered_93 : decode cX6_ordered 93 = .ok (.iload 6, 2) := by decide +kernel
theorem dX6_ordered_95 : decode cX6_ordered 95 = .ok (.iaload, 1) := by decide +kernel
theorem dX6_ordered_96 : decode cX6_ordered 96 = .ok (.invokevirtual 180, 3) := by decide +kernel
theorem dX6_ordered_99 : decode cX6_ordered 99 = .ok (.iinc 6 1, 3) := by decide +kernel
theorem dX6_ordered_102 : decode cX6_ordered 102 = .ok (.goto (-30), 3) := by decide +kernel
theorem dX6_ordered_105 : decode cX6_ordered 105 = .ok (.aload_n 0, 1) := by decide +kernel
theorem dX6_ordered_106 : decode cX6_ordered 106 = .ok (.getfield 44, 3) := by decide +kernel
theorem dX6_ordered_109 : decode cX6_ordered 109 = .ok (.iload_n 3, 1) := by decide +kernel
theorem dX6_ordered_110 : decode cX6_ordered 110 = .ok (.invokevirtual 170, 3) := by decide +kernel
theorem dX6_ordered_113 : decode cX6_ordered 113 = .ok (.ireturn, 1) := by decide +kernel
theorem dX6_head_0 : decode cX6_head 0 = .ok (.aload_n 0, 1) := by decide +kernel
theorem dX6_head_1 : decode cX6_head 1 = .ok (.iload_n 1, 1) := by decide +kernel
theorem dX6_head_2 : decode cX6_head 2 = .ok (.invokevirtual 136, 3) := by decide +kernel
theorem dX6_head_5 : decode cX6_head 5 = .ok (.astore_n 3, 1) := by decide +kernel
theorem dX6_head_6 : decode cX6_head 6 = .ok (.aload_n 3, 1) := by decide +kernel
theorem dX6_head_7 : decode cX6_head 7 = .ok (.ifnull 13, 3) := by decide +kernel
theorem dX6_head_10 : decode cX6_head 10 = .ok (.iload_n 2, 1) := by decide +kernel
theorem dX6_head_11 : decode cX6_head 11 = .ok (.ifCond .lt 9, 3) := by decide +kernel
theorem dX6_head_14 : decode cX6_head 14 = .ok (.iload_n 2, 1) := by decide +kernel
theorem dX6_head_15 : decode cX6_head 15 = .ok (.bipush 10, 2) := by decide +kernel
theorem dX6_head_17 : decode cX6_head 17 = .ok (.if_icmp .lt 6, 3) := by decide +kernel
theorem dX6_head_20 : decode cX6_head 20 = .ok (.bipush (-2), 2) := by decide +kernel
theorem dX6_head_22 : decode cX6_head 22 = .ok (.ireturn, 1) := by decide +kernel
theorem dX6_head_23 : decode cX6_head 23 = .ok (.aload_n 0, 1) := by decide +kernel
theorem dX6_head_24 : decode cX6_head 24 = .ok (.getfield 44, 3) := by decide +kernel
theorem dX6_head_27 : decode cX6_head 27 = .ok (.aload_n 3, 1) := by decide +kernel
theorem dX6_head_28 : decode cX6_head 28 = .ok (.aload_n 0, 1) := by decide +kernel
theorem dX6_head_29 : decode cX6_head 29 = .ok (.getfield 19, 3) := by decide +kernel
theorem dX6_head_32 : decode cX6_head 32 = .ok (.invokevirtual 163, 3) := by decide +kernel
theorem dX6_head_35 : decode cX6_head 35 = .ok (.invokevirtual 166, 3) := by decide +kernel
theorem dX6_head_38 : decode cX6_head 38 = .ok (.aload_n 0, 1) := by decide +kernel
theorem dX6_head_39 : decode cX6_head 39 = .ok (.getfield 44, 3) := by decide +kernel
theorem dX6_head_42 : decode cX6_head 42 = .ok (.iload_n 2, 1) := by decide +kernel
theorem dX6_head_43 : decode cX6_head 43 = .ok (.invokevirtual 183, 3) := by decide +kernel
theorem dX6_head_46 : decode cX6_head 46 = .ok (.ireturn, 1) := by decide +kernel
theorem dX6_orders_0 : decode cX6_orders 0 = .ok (.aload_n 0, 1) := by decide +kernel
theorem dX6_orders_1 : decode cX6_orders 1 = .ok (.iload_n 1, 1) := by decide +kernel
theorem dX6_orders_2 : decode cX6_orders 2 = .ok (.invokevirtual 136, 3) := by decide +kernel
theorem dX6_orders_5 : decode cX6_orders 5 = .ok (.astore_n 3, 1) := by decide +kernel
theorem dX6_orders_6 : decode cX6_orders 6 = .ok (.aload_n 3, 1) := by decide +kernel
theorem dX6_orders_7 : decode cX6_orders 7 = .ok (.ifnull 19, 3) := by decide +kernel
theorem dX6_orders_10 : decode cX6_orders 10 = .ok (.iload_n 2, 1) := by decide +kernel
theorem dX6_orders_11 : decode cX6_orders 11 = .ok (.iconst (-1), 1) := by decide +kernel
theorem dX6_orders_12 : decode cX6_orders 12 = .ok (.if_icmp .eq 17, 3) := by decide +kernel
theorem dX6_orders_15 : decode cX6_orders 15 = .ok (.aload_n 0, 1) := by decide +kernel
theorem dX6_orders_16 : decode cX6_orders 16 = .ok (.getfield 19, 3) := by decide +kernel
theorem dX6_orders_19 : decode cX6_orders 19 = .ok (.iload_n 2, 1) := by decide +kernel
theorem dX6_orders_20 : decode cX6_orders 20 = .ok (.invokevirtual 108, 3) := by decide +kernel
theorem dX6_orders_23 : decode cX6_orders 23 = .ok (.ifCond .ne 6, 3) := by decide +kernel
theorem dX6_orders_26 : decode cX6_orders 26 = .ok (.bipush (-2), 2) := by decide +kernel
theorem dX6_orders_28 : decode cX6_orders 28 = .ok (.ireturn, 1) := by decide +kernel
theorem dX6_orders_29 : decode cX6_orders 29 = .ok (.aload_n 0, 1) := by decide +kernel
theorem dX6_orders_30 : decode cX6_orders 30 = .ok (.getfield 19, 3) := by decide +kernel
theorem dX6_orders_33 : decode cX6_orders 33 = .ok (.invokevirtual 163, 3) := by decide +kernel
theorem dX6_orders_36 : decode cX6_orders 36 = .ok (.istore 4, 2) := by decide +kernel
theorem dX6_orders_38 : decode cX6_orders 38 = .ok (.iload 4, 2) := by decide +kernel
theorem dX6_orders_40 : decode cX6_orders 40 = .ok (.invokestatic 186, 3) := by decide +kernel
theorem dX6_orders_43 : decode cX6_orders 43 = .ok (.bipush 7, 2) := by decide +kernel
theorem dX6_orders_45 : decode cX6_orders 45 = .ok (.if_icmp .le 6, 3) := by decide +kernel
theorem dX6_orders_48 : decode cX6_orders 48 = .ok (.bipush (-4), 2) := by decide +kernel
theorem dX6_orders_50 : decode cX6_orders 50 = .ok (.ireturn, 1) := by decide +kernel
theorem dX6_orders_51 : decode cX6_orders 51 = .ok (.iload_n 2, 1) := by decide +kernel
theorem dX6_orders_52 : decode cX6_orders 52 = .ok (.iconst (-1), 1) := by decide +kernel
theorem dX6_orders_53 : decode cX6_orders 53 = .ok (.if_icmp .ne 12, 3) := by decide +kernel
theorem dX6_orders_56 : decode cX6_orders 56 = .ok (.iload 4, 2) := by decide +kernel
theorem dX6_orders_58 : decode cX6_orders 58 = .ok (.invokestatic 186, 3) := by decide +kernel
theorem dX6_orders_61 : decode cX6_orders 61 = .ok (.invokestatic 191, 3) := by decide +kernel
theorem dX6_orders_64 : decode cX6_orders 64 = .ok (.ireturn, 1) := by decide +kernel
theorem dX6_orders_65 : decode cX6_orders 65 = .ok (.iload 4, 2) := by decide +kernel
theorem dX6_orders_67 : decode cX6_orders 67 = .ok (.iload_n 2, 1) := by decide +kernel
theorem dX6_orders_68 : decode cX6_orders 68 = .ok (.ishr, 1) := by decide +kernel
theorem dX6_orders_69 : decode cX6_orders 69 = .ok (.iconst 1, 1) := by decide +kernel
theorem dX6_orders_70 : decode cX6_orders 70 = .ok (.iand, 1) := by decide +kernel
theorem dX6_orders_71 : decode cX6_orders 71 = .ok (.ifCond .ne 5, 3) := by decide +kernel
theorem dX6_orders_74 : decode cX6_orders 74 = .ok (.iconst 0, 1) := by decide +kernel
theorem dX6_orders_75 : decode cX6_orders 75 = .ok (.ireturn, 1) := by decide +kernel
theorem dX6_orders_76 : decode cX6_orders 76 = .ok (.aload_n 0, 1) := by decide +kernel
theorem dX6_orders_77 : decode cX6_orders 77 = .ok (.getfield 44, 3) := by decide +kernel
theorem dX6_orders_80 : decode cX6_orders 80 = .ok (.invokevirtual 177, 3) := by decide +kernel
theorem dX6_orders_83 : decode cX6_orders 83 = .ok (.aload_n 0, 1) := by decide +kernel
theorem dX6_orders_84 : decode cX6_orders 84 = .ok (.getfield 44, 3) := by decide +kernel
theorem dX6_orders_87 : decode cX6_orders 87 = .ok (.aload_n 3, 1) := by decide +kernel
theorem dX6_orders_88 : decode cX6_orders 88 = .ok (.iload 4, 2) := by decide +kernel
theorem dX6_orders_90 : decode cX6_orders 90 = .ok (.iload_n 2, 1) := by decide +kernel
theorem dX6_orders_91 : decode cX6_orders 91 = .ok (.iconst 0, 1) := by decide +kernel
theorem dX6_orders_92 : decode cX6_orders 92 = .ok (.invokevirtual 194, 3) := by decide +kernel
theorem dX6_orders_95 : decode cX6_orders 95 = .ok (.ireturn, 1) := by decide +kernel
theorem dX6_isOrder_0 : decode cX6_isOrder 0 = .ok (.aload_n 0, 1) := by decide +kernel
theorem dX6_isOrder_1 : decode cX6_isOrder 1 = .ok (.getfield 19, 3) := by decide +kernel
theorem dX6_isOrder_4 : decode cX6_isOrder 4 = .ok (.invokevirtual 163, 3) := by decide +kernel
theorem dX6_isOrder_7 : decode cX6_isOrder 7 = .ok (.istore_n 2, 1) := by decide +kernel
theorem dX6_isOrder_8 : decode cX6_isOrder 8 = .ok (.iconst 0, 1) := by decide +kernel
theorem dX6_isOrder_9 : decode cX6_isOrder 9 = .ok (.istore_n 3, 1) := by decide +kernel
theorem dX6_isOrder_10 : decode cX6_isOrder 10 = .ok (.iload_n 3, 1) := by decide +kernel
theorem dX6_isOrder_11 : decode cX6_isOrder 11 = .ok (.aload_n 1, 1) := by decide +kernel
theorem dX6_isOrder_12 : decode cX6_isOrder 12 = .ok (.getfield 99, 3) := by decide +kernel
theorem dX6_isOrder_15 : decode cX6_isOrder 15 = .ok (.if_icmp .ge 49, 3) := by decide +kernel
theorem dX6_isOrder_18 : decode cX6_isOrder 18 = .ok (.aload_n 1, 1) := by decide +kernel
theorem dX6_isOrder_19 : decode cX6_isOrder 19 = .ok (.getfield 100, 3) := by decide +kernel
theorem dX6_isOrder_22 : decode cX6_isOrder 22 = .ok (.iload_n 3, 1) := by decide +kernel
theorem dX6_isOrder_23 : decode cX6_isOrder 23 = .ok (.iaload, 1) := by decide +kernel
theorem dX6_isOrder_24 : decode cX6_isOrder 24 = .ok (.istore 4, 2) := by decide +kernel
theorem dX6_isOrder_26 : decode cX6_isOrder 26 = .ok (.aload_n 0, 1) := by decide +kernel
theorem dX6_isOrder_27 : decode cX6_isOrder 27 = .ok (.getfield 19, 3) := by decide +kernel
theorem dX6_isOrder_30 : decode cX6_isOrder 30 = .ok (.iload 4, 2) := by decide +kernel
theorem dX6_isOrder_32 : decode cX6_isOrder 32 = .ok (.invokevirtual 108, 3) := by decide +kernel
theorem dX6_isOrder_35 : decode cX6_isOrder 35 = .ok (.ifCond .eq 12, 3) := by decide +kernel
theorem dX6_isOrder_38 : decode cX6_isOrder 38 = .ok (.iload_n 2, 1) := by decide +kernel
theorem dX6_isOrder_39 : decode cX6_isOrder 39 = .ok (.iload 4, 2) := by decide +kernel
theorem dX6_isOrder_41 : decode cX6_isOrder 41 = .ok (.ishr, 1) := by decide +kernel
theorem dX6_isOrder_42 : decode cX6_isOrder 42 = .ok (.iconst 1, 1) := by decide +kernel
theorem dX6_isOrder_43 : decode cX6_isOrder 43 = .ok (.iand, 1) := by decide +kernel
theorem dX6_isOrder_44 : decode cX6_isOrder 44 = .ok (.ifCond .ne 5, 3) := by decide +kernel
theorem dX6_isOrder_47 : decode cX6_isOrder 47 = .ok (.iconst 0, 1) := by decide +kernel
theorem dX6_isOrder_48 : decode cX6_isOrder 48 = .ok (.ireturn, 1) := by decide +kernel
theorem dX6_isOrder_49 : decode cX6_isOrder 49 = .ok (.iload_n 2, 1) := by decide +kernel
theorem dX6_isOrder_50 : decode cX6_isOrder 50 = .ok (.iconst 1, 1) := by decide +kernel
theorem dX6_isOrder_51 : decode cX6_isOrder 51 = .ok (.iload 4, 2) := by decide +kernel
theorem dX6_isOrder_53 : decode cX6_isOrder 53 = .ok (.ishl, 1) := by decide +kernel
theorem dX6_isOrder_54 : decode cX6_isOrder 54 = .ok (.iconst (-1), 1) := by decide +kernel
theorem dX6_isOrder_55 : decode cX6_isOrder 55 = .ok (.ixor, 1) := by decide +kernel
theorem dX6_isOrder_56 : decode cX6_isOrder 56 = .ok (.iand, 1) := by decide +kernel
theorem dX6_isOrder_57 : decode cX6_isOrder 57 = .ok (.istore_n 2, 1) := by decide +kernel
theorem dX6_isOrder_58 : decode cX6_isOrder 58 = .ok (.iinc 3 1, 3) := by decide +kernel
theorem dX6_isOrder_61 : decode cX6_isOrder 61 = .ok (.goto (-51), 3) := by decide +kernel
theorem dX6_isOrder_64 : decode cX6_isOrder 64 = .ok (.iconst 1, 1) := by decide +kernel
theorem dX6_isOrder_65 : decode cX6_isOrder 65 = .ok (.ireturn, 1) := by decide +kernel
theorem dX6_factorial_0 : decode cX6_factorial 0 = .ok (.iconst 1, 1) := by decide +kernel
theorem dX6_factorial_1 : decode cX6_factorial 1 = .ok (.istore_n 1, 1) := by decide +kernel
theorem dX6_factorial_2 : decode cX6_factorial 2 = .ok (.iconst 2, 1) := by decide +kernel
theorem dX6_factorial_3 : decode cX6_factorial 3 = .ok (.istore_n 2, 1) := by decide +kernel
theorem dX6_factorial_4 : decode cX6_factorial 4 = .ok (.iload_n 2, 1) := by decide +kernel
theorem dX6_factorial_5 : decode cX6_factorial 5 = .ok (.iload_n 0, 1) := by decide +kernel
theorem dX6_factorial_6 : decode cX6_factorial 6 = .ok (.if_icmp .gt 13, 3) := by decide +kernel
theorem dX6_factorial_9 : decode cX6_factorial 9 = .ok (.iload_n 1, 1) := by decide +kernel
theorem dX6_factorial_10 : decode cX6_factorial 10 = .ok (.iload_n 2, 1) := by decide +kernel
theorem dX6_factorial_11 : decode cX6_factorial 11 = .ok (.imul, 1) := by decide +kernel
theorem dX6_factorial_12 : decode cX6_factorial 12 = .ok (.istore_n 1, 1) := by decide +kernel
theorem dX6_factorial_13 : decode cX6_factorial 13 = .ok (.iinc 2 1, 3) := by decide +kernel
theorem dX6_factorial_16 : decode cX6_factorial 16 = .ok (.goto (-12), 3) := by decide +kernel
theorem dX6_factorial_19 : decode cX6_factorial 19 = .ok (.iload_n 1, 1) := by decide +kernel
theorem dX6_factorial_20 : decode cX6_factorial 20 = .ok (.ireturn, 1) := by decide +kernel
theorem dX6_strikes_0 : decode cX6_strikes 0 = .ok (.aload_n 0, 1) := by decide +kernel
theorem dX6_strikes_1 : decode cX6_strikes 1 = .ok (.iload_n 1, 1) := by decide +kernel
theorem dX6_strikes_2 : decode cX6_strikes 2 = .ok (.invokevirtual 136, 3) := by decide +kernel
theorem dX6_strikes_5 : decode cX6_strikes 5 = .ok (.astore 4, 2) := by decide +kernel
theorem dX6_strikes_7 : decode cX6_strikes 7 = .ok (.aload 4, 2) := by decide +kernel
theorem dX6_strikes_9 : decode cX6_strikes 9 = .ok (.ifnull 25, 3) := by decide +kernel
theorem dX6_strikes_12 : decode cX6_strikes 12 = .ok (.aload_n 0, 1) := by decide +kernel
theorem dX6_strikes_13 : decode cX6_strikes 13 = .ok (.getfield 19, 3) := by decide +kernel
theorem dX6_strikes_16 : decode cX6_strikes 16 = .ok (.iload_n 2, 1) := by decide +kernel
theorem dX6_strikes_17 : decode cX6_strikes 17 = .ok (.invokevirtual 108, 3) := by decide +kernel
theorem dX6_strikes_20 : decode cX6_strikes 20 = .ok (.ifCond .eq 14, 3) := by decide +kernel
theorem dX6_strikes_23 : decode cX6_strikes 23 = .ok (.aload_n 0, 1) := by decide +kernel
theorem dX6_strikes_24 : decode cX6_strikes 24 = .ok (.getfield 19, 3) := by decide +kernel
theorem dX6_strikes_27 : decode cX6_strikes 27 = .ok (.iload_n 3, 1) := by decide +kernel
theorem dX6_strikes_28 : decode cX6_strikes 28 = .ok (.invokevirtual 108, 3) := by decide +kernel
theorem dX6_strikes_31 : decode cX6_strikes 31 = .ok (.ifCond .ne 6, 3) := by decide +kernel
theorem dX6_strikes_34 : decode cX6_strikes 34 = .ok (.bipush (-2), 2) := by decide +kernel
theorem dX6_strikes_36 : decode cX6_strikes 36 = .ok (.ireturn, 1) := by decide +kernel
theorem dX6_strikes_37 : decode cX6_strikes 37 = .ok (.aload_n 0, 1) := by decide +kernel
theorem dX6_strikes_38 : decode cX6_strikes 38 = .ok (.getfield 51, 3) := by decide +kernel
theorem dX6_strikes_41 : decode cX6_strikes 41 = .ok (.aload 4, 2) := by decide +kernel
theorem dX6_strikes_43 : decode cX6_strikes 43 = .ok (.aload_n 0, 1) := by decide +kernel
theorem dX6_strikes_44 : decode cX6_strikes 44 = .ok (.getfield 19, 3) := by decide +kernel
theorem dX6_strikes_47 : decode cX6_strikes 47 = .ok (.invokevirtual 163, 3) := by decide +kernel
theorem dX6_strikes_50 : decode cX6_strikes 50 = .ok (.invokevirtual 198, 3) := by decide +kernel
theorem dX6_strikes_53 : decode cX6_strikes 53 = .ok (.aload_n 0, 1) := by decide +kernel
theorem dX6_strikes_54 : decode cX6_strikes 54 = .ok (.getfield 51, 3) := by decide +kernel
theorem dX6_strikes_57 : decode cX6_strikes 57 = .ok (.iconst 1, 1) := by decide +kernel
theorem dX6_strikes_58 : decode cX6_strikes 58 = .ok (.iload_n 2, 1) := by decide +kernel
theorem dX6_strikes_59 : decode cX6_strikes 59 = .ok (.ishl, 1) := by decide +kernel
theorem dX6_strikes_60 : decode cX6_strikes 60 = .ok (.invokevirtual 201, 3) := by decide +kernel
theorem dX6_strikes_63 : decode cX6_strikes 63 = .ok (.iload_n 3, 1) := by decide +kernel
theorem dX6_strikes_64 : decode cX6_strikes 64 = .ok (.ishr, 1) := by decide +kernel
theorem dX6_strikes_65 : decode cX6_strikes 65 = .ok (.iconst 1, 1) := by decide +kernel
theorem dX6_strikes_66 : decode cX6_strikes 66 = .ok (.iand, 1) := by decide +kernel
theorem dX6_strikes_67 : decode cX6_strikes 67 = .ok (.ireturn, 1) := by decide +kernel
theorem dX6_sound_0 : decode cX6_sound 0 = .ok (.aload_n 0, 1) := by decide +kernel
theorem dX6_sound_1 : decode cX6_sound 1 = .ok (.iload_n 1, 1) := by decide +kernel
theorem dX6_sound_2 : decode cX6_sound 2 = .ok (.invokevirtual 136, 3) := by decide +kernel
theorem dX6_sound_5 : decode cX6_sound 5 = .ok (.astore_n 3, 1) := by decide +kernel
theorem dX6_sound_6 : decode cX6_sound 6 = .ok (.aload_n 3, 1) := by decide +kernel
theorem dX6_sound_7 : decode cX6_sound 7 = .ok (.ifnull 17, 3) := by decide +kernel
theorem dX6_sound_10 : decode cX6_sound 10 = .ok (.iload_n 2, 1) := by decide +kernel
theorem dX6_sound_11 : decode cX6_sound 11 = .ok (.aload_n 0, 1) := by decide +kernel
theorem dX6_sound_12 : decode cX6_sound 12 = .ok (.getfield 19, 3) := by decide +kernel
theorem dX6_sound_15 : decode cX6_sound 15 = .ok (.invokevirtual 132, 3) := by decide +kernel
theorem dX6_sound_18 : decode cX6_sound 18 = .ok (.iconst (-1), 1) := by decide +kernel
theorem dX6_sound_19 : decode cX6_sound 19 = .ok (.ixor, 1) := by decide +kernel
theorem dX6_sound_20 : decode cX6_sound 20 = .ok (.iand, 1) := by decide +kernel
theorem dX6_sound_21 : decode cX6_sound 21 = .ok (.ifCond .eq 6, 3) := by decide +kernel
theorem dX6_sound_24 : decode cX6_sound 24 = .ok (.bipush (-2), 2) := by decide +kernel
theorem dX6_sound_26 : decode cX6_sound 26 = .ok (.ireturn, 1) := by decide +kernel
theorem dX6_sound_27 : decode cX6_sound 27 = .ok (.aload_n 0, 1) := by decide +kernel
theorem dX6_sound_28 : decode cX6_sound 28 = .ok (.getfield 51, 3) := by decide +kernel
theorem dX6_sound_31 : decode cX6_sound 31 = .ok (.aload_n 3, 1) := by decide +kernel
theorem dX6_sound_32 : decode cX6_sound 32 = .ok (.aload_n 0, 1) := by decide +kernel
theorem dX6_sound_33 : decode cX6_sound 33 = .ok (.getfield 19, 3) := by decide +kernel
theorem dX6_sound_36 : decode cX6_sound 36 = .ok (.invokevirtual 163, 3) := by decide +kernel
theorem dX6_sound_39 : decode cX6_sound 39 = .ok (.invokevirtual 198, 3) := by decide +kernel
theorem dX6_sound_42 : decode cX6_sound 42 = .ok (.aload_n 0, 1) := by decide +kernel
theorem dX6_sound_43 : decode cX6_sound 43 = .ok (.getfield 51, 3) := by decide +kernel
theorem dX6_sound_46 : decode cX6_sound 46 = .ok (.iload_n 2, 1) := by decide +kernel
theorem dX6_sound_47 : decode cX6_sound 47 = .ok (.invokevirtual 204, 3) := by decide +kernel
theorem dX6_sound_50 : decode cX6_sound 50 = .ok (.ifCond .eq 7, 3) := by decide +kernel
theorem dX6_sound_53 : decode cX6_sound 53 = .ok (.iconst 1, 1) := by decide +kernel
theorem dX6_sound_54 : decode cX6_sound 54 = .ok (.goto 4, 3) := by decide +kernel
theorem dX6_sound_57 : decode cX6_sound 57 = .ok (.iconst 0, 1) := by decide +kernel
theorem dX6_sound_58 : decode cX6_sound 58 = .ok (.ireturn, 1) := by decide +kernel
theorem dX6_least_0 : decode cX6_least 0 = .ok (.aload_n 0, 1) := by decide +kernel
theorem dX6_least_1 : decode cX6_least 1 = .ok (.iload_n 1, 1) := by decide +kernel
theorem dX6_least_2 : decode cX6_least 2 = .ok (.invokevirtual 136, 3) := by decide +kernel
theorem dX6_least_5 : decode cX6_least 5 = .ok (.astore_n 2, 1) := by decide +kernel
theorem dX6_least_6 : decode cX6_least 6 = .ok (.aload_n 2, 1) := by decide +kernel
theorem dX6_least_7 : decode cX6_least 7 = .ok (.ifnonnull 6, 3) := by decide +kernel
theorem dX6_least_10 : decode cX6_least 10 = .ok (.bipush (-2), 2) := by decide +kernel
theorem dX6_least_12 : decode cX6_least 12 = .ok (.ireturn, 1) := by decide +kernel
theorem dX6_least_13 : decode cX6_least 13 = .ok (.aload_n 0, 1) := by decide +kernel
theorem dX6_least_14 : decode cX6_least 14 = .ok (.getfield 51, 3) := by decide +kernel
theorem dX6_least_17 : decode cX6_least 17 = .ok (.aload_n 2, 1) := by decide +kernel
theorem dX6_least_18 : decode cX6_least 18 = .ok (.aload_n 0, 1) := by decide +kernel
theorem dX6_least_19 : decode cX6_least 19 = .ok (.getfield 19, 3) := by decide +kernel
theorem dX6_least_22 : decode cX6_least 22 = .ok (.invokevirtual 163, 3) := by decide +kernel
theorem dX6_least_25 : decode cX6_least 25 = .ok (.invokevirtual 198, 3) := by decide +kernel
theorem dX6_least_28 : decode cX6_least 28 = .ok (.aload_n 0, 1) := by decide +kernel
theorem dX6_least_29 : decode cX6_least 29 = .ok (.getfield 51, 3) := by decide +kernel
theorem dX6_least_32 : decode cX6_least 32 = .ok (.invokevirtual 207, 3) := by decide +kernel
theorem dX6_least_35 : decode cX6_least 35 = .ok (.ireturn, 1) := by decide +kernel
theorem dX6_full_0 : decode cX6_full 0 = .ok (.aload_n 0, 1) := by decide +kernel
theorem dX6_full_1 : decode cX6_full 1 = .ok (.iload_n 1, 1) := by decide +kernel
theorem dX6_full_2 : decode cX6_full 2 = .ok (.invokevirtual 136, 3) := by decide +kernel
theorem dX6_full_5 : decode cX6_full 5 = .ok (.astore_n 3, 1) := by decide +kernel
theorem dX6_full_6 : decode cX6_full 6 = .ok (.aload_n 3, 1) := by decide +kernel
theorem dX6_full_7 : decode cX6_full 7 = .ok (.ifnull 8, 3) := by decide +kernel
theorem dX6_full_10 : decode cX6_full 10 = .ok (.iload_n 2, 1) := by decide +kernel
theorem dX6_full_11 : decode cX6_full 11 = .ok (.iconst (-1), 1) := by decide +kernel
theorem dX6_full_12 : decode cX6_full 12 = .ok (.if_icmp .ge 6, 3) := by decide +kernel
theorem dX6_full_15 : decode cX6_full 15 = .ok (.bipush (-2), 2) := by decide +kernel
theorem dX6_full_17 : decode cX6_full 17 = .ok (.ireturn, 1) := by decide +kernel
theorem dX6_full_18 : decode cX6_full 18 = .ok (.aload_n 0, 1) := by decide +kernel
theorem dX6_full_19 : decode cX6_full 19 = .ok (.getfield 51, 3) := by decide +kernel
theorem dX6_full_22 : decode cX6_full 22 = .ok (.aload_n 3, 1) := by decide +kernel
theorem dX6_full_23 : decode cX6_full 23 = .ok (.aload_n 0, 1) := by decide +kernel
theorem dX6_full_24 : decode cX6_full 24 = .ok (.getfield 19, 3) := by decide +kernel
theorem dX6_full_27 : decode cX6_full 27 = .ok (.invokevirtual 163, 3) := by decide +kernel
theorem dX6_full_30 : decode cX6_full 30 = .ok (.invokevirtual 198, 3) := by decide +kernel
theorem dX6_full_33 : decode cX6_full 33 = .ok (.aload_n 0, 1) := by decide +kernel
theorem dX6_full_34 : decode cX6_full 34 = .ok (.getfield 51, 3) := by decide +kernel
theorem dX6_full_37 : decode cX6_full 37 = .ok (.invokevirtual 210, 3) := by decide +kernel
theorem dX6_full_40 : decode cX6_full 40 = .ok (.iload_n 2, 1) := by decide +kernel
theorem dX6_full_41 : decode cX6_full 41 = .ok (.iconst (-1), 1) := by decide +kernel
theorem dX6_full_42 : decode cX6_full 42 = .ok (.if_icmp .ne 13, 3) := by decide +kernel
theorem dX6_full_45 : decode cX6_full 45 = .ok (.aload_n 0, 1) := by decide +kernel
theorem dX6_full_46 : decode cX6_full 46 = .ok (.getfield 51, 3) := by decide +kernel
theorem dX6_full_49 : decode cX6_full 49 = .ok (.invokevirtual 213, 3) := by decide +kernel
theorem dX6_full_52 : decode cX6_full 52 = .ok (.goto 11, 3) := by decide +kernel
theorem dX6_full_55 : decode cX6_full 55 = .ok (.aload_n 0, 1) := by decide +kernel
theorem dX6_full_56 : decode cX6_full 56 = .ok (.getfield 51, 3) := by decide +kernel
theorem dX6_full_59 : decode cX6_full 59 = .ok (.iload_n 2, 1) := by decide +kernel
theorem dX6_full_60 : decode cX6_full 60 = .ok (.invokevirtual 216, 3) := by decide +kernel
theorem dX6_full_63 : decode cX6_full 63 = .ok (.ireturn, 1) := by decide +kernel
theorem dX6_firm_0 : decode cX6_firm 0 = .ok (.aload_n 0, 1) := by decide +kernel
theorem dX6_firm_1 : decode cX6_firm 1 = .ok (.iload_n 1, 1) := by decide +kernel
theorem dX6_firm_2 : decode cX6_firm 2 = .ok (.invokevirtual 136, 3) := by decide +kernel
theorem dX6_firm_5 : decode cX6_firm 5 = .ok (.astore_n 3, 1) := by decide +kernel
theorem dX6_firm_6 : decode cX6_firm 6 = .ok (.aload_n 3, 1) := by decide +kernel
theorem dX6_firm_7 : decode cX6_firm 7 = .ok (.ifnull 14, 3) := by decide +kernel
theorem dX6_firm_10 : decode cX6_firm 10 = .ok (.aload_n 0, 1) := by decide +kernel
theorem dX6_firm_11 : decode cX6_firm 11 = .ok (.getfield 19, 3) := by decide +kernel
theorem dX6_firm_14 : decode cX6_firm 14 = .ok (.iload_n 2, 1) := by decide +kernel
theorem dX6_firm_15 : decode cX6_firm 15 = .ok (.invokevirtual 108, 3) := by decide +kernel
theorem dX6_firm_18 : decode cX6_firm 18 = .ok (.ifCond .ne 6, 3) := by decide +kernel
theorem dX6_firm_21 : decode cX6_firm 21 = .ok (.bipush (-2), 2) := by decide +kernel
theorem dX6_firm_23 : decode cX6_firm 23 = .ok (.ireturn, 1) := by decide +kernel
theorem dX6_firm_24 : decode cX6_firm 24 = .ok (.aload_n 0, 1) := by decide +kernel
theorem dX6_firm_25 : decode cX6_firm 25 = .ok (.getfield 51, 3) := by decide +kernel
theorem dX6_firm_28 : decode cX6_firm 28 = .ok (.aload_n 3, 1) := by decide +kernel
theorem dX6_firm_29 : decode cX6_firm 29 = .ok (.aload_n 0, 1) := by decide +kernel
theorem dX6_firm_30 : decode cX6_firm 30 = .ok (.getfield 19, 3) := by decide +kernel
theorem dX6_firm_33 : decode cX6_firm 33 = .ok (.invokevirtual 163, 3) := by decide +kernel
theorem dX6_firm_36 : decode cX6_firm 36 = .ok (.invokevirtual 198, 3) := by decide +kernel
theorem dX6_firm_39 : decode cX6_firm 39 = .ok (.aload_n 0, 1) := by decide +kernel
theorem dX6_firm_40 : decode cX6_firm 40 = .ok (.getfield 51, 3) := by decide +kernel
theorem dX6_firm_43 : decode cX6_firm 43 = .ok (.invokevirtual 210, 3) := by decide +kernel
theorem dX6_firm_46 : decode cX6_firm 46 = .ok (.aload_n 0, 1) := by decide +kernel
theorem dX6_firm_47 : decode cX6_firm 47 = .ok (.getfield 51, 3) := by decide +kernel
theorem dX6_firm_50 : decode cX6_firm 50 = .ok (.iload_n 2, 1) := by decide +kernel
theorem dX6_firm_51 : decode cX6_firm 51 = .ok (.invokevirtual 219, 3) := by decide +kernel
theorem dX6_firm_54 : decode cX6_firm 54 = .ok (.ireturn, 1) := by decide +kernel
theorem dX6_ring_0 : decode cX6_ring 0 = .ok (.aload_n 0, 1) := by decide +kernel
theorem dX6_ring_1 : decode cX6_ring 1 = .ok (.getfield 51, 3) := by decide +kernel
theorem dX6_ring_4 : decode cX6_ring 4 = .ok (.aload_n 0, 1) := by decide +kernel
theorem dX6_ring_5 : decode cX6_ring 5 = .ok (.getfield 26, 3) := by decide +kernel
theorem dX6_ring_8 : decode cX6_ring 8 = .ok (.aload_n 0, 1) := by decide +kernel
theorem dX6_ring_9 : decode cX6_ring 9 = .ok (.getfield 19, 3) := by decide +kernel
theorem dX6_ring_12 : decode cX6_ring 12 = .ok (.invokevirtual 163, 3) := by decide +kernel
theorem dX6_ring_15 : decode cX6_ring 15 = .ok (.invokevirtual 198, 3) := by decide +kernel
theorem dX6_ring_18 : decode cX6_ring 18 = .ok (.aload_n 0, 1) := by decide +kernel
theorem dX6_ring_19 : decode cX6_ring 19 = .ok (.getfield 51, 3) := by decide +kernel
theorem dX6_ring_22 : decode cX6_ring 22 = .ok (.invokevirtual 222, 3) := by decide +kernel
theorem dX6_ring_25 : decode cX6_ring 25 = .ok (.ireturn, 1) := by decide +kernel
theorem dX6_chain_0 : decode cX6_chain 0 = .ok (.aload_n 0, 1) := by decide +kernel
theorem dX6_chain_1 : decode cX6_chain 1 = .ok (.getfield 19, 3) := by decide +kernel
theorem dX6_chain_4 : decode cX6_chain 4 = .ok (.iload_n 1, 1) := by decide +kernel
theorem dX6_chain_5 : decode cX6_chain 5 = .ok (.invokevirtual 108, 3) := by decide +kernel
theorem dX6_chain_8 : decode cX6_chain 8 = .ok (.ifCond .eq 14, 3) := by decide +kernel
theorem dX6_chain_11 : decode cX6_chain 11 = .ok (.aload_n 0, 1) := by decide +kernel
theorem dX6_chain_12 : decode cX6_chain 12 = .ok (.getfield 19, 3) := by decide +kernel
theorem dX6_chain_15 : decode cX6_chain 15 = .ok (.iload_n 1, 1) := by decide +kernel
theorem dX6_chain_16 : decode cX6_chain 16 = .ok (.invokevirtual 225, 3) := by decide +kernel
theorem dX6_chain_19 : decode cX6_chain 19 = .ok (.goto 5, 3) := by decide +kernel
theorem dX6_chain_22 : decode cX6_chain 22 = .ok (.bipush (-2), 2) := by decide +kernel
theorem dX6_chain_24 : decode cX6_chain 24 = .ok (.ireturn, 1) := by decide +kernel
theorem dX6_hangs_0 : decode cX6_hangs 0 = .ok (.aload_n 0, 1) := by decide +kernel
theorem dX6_hangs_1 : decode cX6_hangs 1 = .ok (.getfield 19, 3) := by decide +kernel
theorem dX6_hangs_4 : decode cX6_hangs 4 = .ok (.iload_n 1, 1) := by decide +kernel
theorem dX6_hangs_5 : decode cX6_hangs 5 = .ok (.invokevirtual 108, 3) := by decide +kernel
theorem dX6_hangs_8 : decode cX6_hangs 8 = .ok (.ifCond .eq 17, 3) := by decide +kernel
theorem dX6_hangs_11 : decode cX6_hangs 11 = .ok (.aload_n 0, 1) := by decide +kernel
theorem dX6_hangs_12 : decode cX6_hangs 12 = .ok (.getfield 19, 3) := by decide +kernel
theorem dX6_hangs_15 : decode cX6_hangs 15 = .ok (.getfield 126, 3) := by decide +kernel
theorem dX6_hangs_18 : decode cX6_hangs 18 = .ok (.iload_n 1, 1) := by decide +kernel
theorem dX6_hangs_19 : decode cX6_hangs 19 = .ok (.ishr, 1) := by decide +kernel
theorem dX6_hangs_20 : decode cX6_hangs 20 = .ok (.iconst 1, 1) := by decide +kernel
theorem dX6_hangs_21 : decode cX6_hangs 21 = .ok (.iand, 1) := by decide +kernel
theorem dX6_hangs_22 : decode cX6_hangs 22 = .ok (.ifCond .eq 6, 3) := by decide +kernel
theorem dX6_hangs_25 : decode cX6_hangs 25 = .ok (.bipush (-2), 2) := by decide +kernel
theorem dX6_hangs_27 : decode cX6_hangs 27 = .ok (.ireturn, 1) := by decide +kernel
theorem dX6_hangs_28 : decode cX6_hangs 28 = .ok (.aload_n 0, 1) := by decide +kernel
theorem dX6_hangs_29 : decode cX6_hangs 29 = .ok (.getfield 44, 3) := by decide +kernel
theorem dX6_hangs_32 : decode cX6_hangs 32 = .ok (.aload_n 0, 1) := by decide +kernel
theorem dX6_hangs_33 : decode cX6_hangs 33 = .ok (.getfield 26, 3) := by decide +kernel
theorem dX6_hangs_36 : decode cX6_hangs 36 = .ok (.aload_n 0, 1) := by decide +kernel
theorem dX6_hangs_37 : decode cX6_hangs 37 = .ok (.getfield 19, 3) := by decide +kernel
theorem dX6_hangs_40 : decode cX6_hangs 40 = .ok (.invokevirtual 163, 3) := by decide +kernel
theorem dX6_hangs_43 : decode cX6_hangs 43 = .ok (.iload_n 1, 1) := by decide +kernel
theorem dX6_hangs_44 : decode cX6_hangs 44 = .ok (.invokevirtual 228, 3) := by decide +kernel
theorem dX6_hangs_47 : decode cX6_hangs 47 = .ok (.ireturn, 1) := by decide +kernel
theorem dX6_most_0 : decode cX6_most 0 = .ok (.aload_n 0, 1) := by decide +kernel
theorem dX6_most_1 : decode cX6_most 1 = .ok (.getfield 19, 3) := by decide +kernel
theorem dX6_most_4 : decode cX6_most 4 = .ok (.invokevirtual 163, 3) := by decide +kernel
theorem dX6_most_7 : decode cX6_most 7 = .ok (.istore_n 1, 1) := by decide +kernel
theorem dX6_most_8 : decode cX6_most 8 = .ok (.iconst (-1), 1) := by decide +kernel
theorem dX6_most_9 : decode cX6_most 9 = .ok (.istore_n 2, 1) := by decide +kernel
theorem dX6_most_10 : decode cX6_most 10 = .ok (.iconst (-1), 1) := by decide +kernel
theorem dX6_most_11 : decode cX6_most 11 = .ok (.istore_n 3, 1) := by decide +kernel
theorem dX6_most_12 : decode cX6_most 12 = .ok (.iconst 0, 1) := by decide +kernel
theorem dX6_most_13 : decode cX6_most 13 = .ok (.istore 4, 2) := by decide +kernel
theorem dX6_most_15 : decode cX6_most 15 = .ok (.iload 4, 2) := by decide +kernel
theorem dX6_most_17 : decode cX6_most 17 = .ok (.aload_n 0, 1) := by decide +kernel
theorem dX6_most_18 : decode cX6_most 18 = .ok (.getfield 19, 3) := by decide +kernel
theorem dX6_most_21 : decode cX6_most 21 = .ok (.getfield 80, 3) := by decide +kernel
theorem dX6_most_24 : decode cX6_most 24 = .ok (.if_icmp .ge 46, 3) := by decide +kernel
theorem dX6_most_27 : decode cX6_most 27 = .ok (.iload_n 1, 1) := by decide +kernel
theorem dX6_most_28 : decode cX6_most 28 = .ok (.iload 4, 2) := by decide +kernel
theorem dX6_most_30 : decode cX6_most 30 = .ok (.ishr, 1) := by decide +kernel
theorem dX6_most_31 : decode cX6_most 31 = .ok (.iconst 1, 1) := by decide +kernel
theorem dX6_most_32 : decode cX6_most 32 = .ok (.iand, 1) := by decide +kernel
theorem dX6_most_33 : decode cX6_most 33 = .ok (.ifCond .eq 31, 3) := by decide +kernel
theorem dX6_most_36 : decode cX6_most 36 = .ok (.aload_n 0, 1) := by decide +kernel
theorem dX6_most_37 : decode cX6_most 37 = .ok (.getfield 44, 3) := by decide +kernel
theorem dX6_most_40 : decode cX6_most 40 = .ok (.aload_n 0, 1) := by decide +kernel
theorem dX6_most_41 : decode cX6_most 41 = .ok (.getfield 26, 3) := by decide +kernel
theorem dX6_most_44 : decode cX6_most 44 = .ok (.iload_n 1, 1) := by decide +kernel
theorem dX6_most_45 : decode cX6_most 45 = .ok (.iload 4, 2) := by decide +kernel
theorem dX6_most_47 : decode cX6_most 47 = .ok (.invokevirtual 228, 3) := by decide +kernel
theorem dX6_most_50 : decode cX6_most 50 = .ok (.istore 5, 2) := by decide +kernel
theorem dX6_most_52 : decode cX6_most 52 = .ok (.iload 5, 2) := by decide +kernel
theorem dX6_most_54 : decode cX6_most 54 = .ok (.iload_n 3, 1) := by decide +kernel
theorem dX6_most_55 : decode cX6_most 55 = .ok (.if_icmp .le 9, 3) := by decide +kernel
theorem dX6_most_58 : decode cX6_most 58 = .ok (.iload 4, 2) := by decide +kernel
theorem dX6_most_60 : decode cX6_most 60 = .ok (.istore_n 2, 1) := by decide +kernel
theorem dX6_most_61 : decode cX6_most 61 = .ok (.iload 5, 2) := by decide +kernel
theorem dX6_most_63 : decode cX6_most 63 = .ok (.istore_n 3, 1) := by decide +kernel
theorem dX6_most_64 : decode cX6_most 64 = .ok (.iinc 4 1, 3) := by decide +kernel
theorem dX6_most_67 : decode cX6_most 67 = .ok (.goto (-52), 3) := by decide +kernel
theorem dX6_most_70 : decode cX6_most 70 = .ok (.iload_n 2, 1) := by decide +kernel
theorem dX6_most_71 : decode cX6_most 71 = .ok (.ireturn, 1) := by decide +kernel
theorem dX6_brings_0 : decode cX6_brings 0 = .ok (.aload_n 0, 1) := by decide +kernel
theorem dX6_brings_1 : decode cX6_brings 1 = .ok (.getfield 19, 3) := by decide +kernel
theorem dX6_brings_4 : decode cX6_brings 4 = .ok (.iload_n 1, 1) := by decide +kernel
theorem dX6_brings_5 : decode cX6_brings 5 = .ok (.invokevirtual 108, 3) := by decide +kernel
theorem dX6_brings_8 : decode cX6_brings 8 = .ok (.ifCond .eq 29, 3) := by decide +kernel
theorem dX6_brings_11 : decode cX6_brings 11 = .ok (.aload_n 0, 1) := by decide +kernel
theorem dX6_brings_12 : decode cX6_brings 12 = .ok (.getfield 19, 3) := by decide +kernel
theorem dX6_brings_15 : decode cX6_brings 15 = .ok (.getfield 111, 3) := by decide +kernel
theorem dX6_brings_18 : decode cX6_brings 18 = .ok (.iload_n 1, 1) := by decide +kernel
theorem dX6_brings_19 : decode cX6_brings 19 = .ok (.iaload, 1) := by decide +kernel
theorem dX6_brings_20 : decode cX6_brings 20 = .ok (.ifCond .ne 17, 3) := by decide +kernel
theorem dX6_brings_23 : decode cX6_brings 23 = .ok (.aload_n 0, 1) := by decide +kernel
theorem dX6_brings_24 : decode cX6_brings 24 = .ok (.getfield 19, 3) := by decide +kernel
theorem dX6_brings_27 : decode cX6_brings 27 = .ok (.getfield 126, 3) := by decide +kernel
theorem dX6_brings_30 : decode cX6_brings 30 = .ok (.iload_n 1, 1) := by decide +kernel
theorem dX6_brings_31 : decode cX6_brings 31 = .ok (.ishr, 1) := by decide +kernel
theorem dX6_brings_32 : decode cX6_brings 32 = .ok (.iconst 1, 1) := by decide +kernel
theorem dX6_brings_33 : decode cX6_brings 33 = .ok (.iand, 1) := by decide +kernel
theorem dX6_brings_34 : decode cX6_brings 34 = .ok (.ifCond .eq 6, 3) := by decide +kernel
theorem dX6_brings_37 : decode cX6_brings 37 = .ok (.bipush (-2), 2) := by decide +kernel
theorem dX6_brings_39 : decode cX6_brings 39 = .ok (.ireturn, 1) := by decide +kernel
theorem dX6_brings_40 : decode cX6_brings 40 = .ok (.iload_n 2, 1) := by decide +kernel
theorem dX6_brings_41 : decode cX6_brings 41 = .ok (.ifCond .eq 11, 3) := by decide +kernel
theorem dX6_brings_44 : decode cX6_brings 44 = .ok (.iload_n 2, 1) := by decide +kernel
theorem dX6_brings_45 : decode cX6_brings 45 = .ok (.iconst 1, 1) := by decide +kernel
theorem dX6_brings_46 : decode cX6_brings 46 = .ok (.if_icmp .eq 6, 3) := by decide +kernel
theorem dX6_brings_49 : decode cX6_brings 49 = .ok (.bipush (-2), 2) := by decide +kernel
theorem dX6_brings_51 : decode cX6_brings 51 = .ok (.ireturn, 1) := by decide +kernel
theorem dX6_brings_52 : decode cX6_brings 52 = .ok (.iconst (-1), 1) := by decide +kernel
theorem dX6_brings_53 : decode cX6_brings 53 = .ok (.istore_n 3, 1) := by decide +kernel
theorem dX6_brings_54 : decode cX6_brings 54 = .ok (.iconst 0, 1) := by decide +kernel
theorem dX6_brings_55 : decode cX6_brings 55 = .ok (.istore 4, 2) := by decide +kernel
theorem dX6_brings_57 : decode cX6_brings 57 = .ok (.iload 4, 2) := by decide +kernel
theorem dX6_brings_59 : decode cX6_brings 59 = .ok (.aload_n 0, 1) := by decide +kernel
theorem dX6_brings_60 : decode cX6_brings 60 = .ok (.getfield 19, 3) := by decide +kernel
theorem dX6_brings_63 : decode cX6_brings 63 = .ok (.getfield 126, 3) := by decide +kernel
theorem dX6_brings_66 : decode cX6_brings 66 = .ok (.if_icmp .gt 72, 3) := by decide +kernel
theorem dX6_brings_69 : decode cX6_brings 69 = .ok (.iload 4, 2) := by decide +kernel
theorem dX6_brings_71 : decode cX6_brings 71 = .ok (.aload_n 0, 1) := by decide +kernel
theorem dX6_brings_72 : decode cX6_brings 72 = .ok (.getfield 19, 3) := by decide +kernel
theorem dX6_brings_75 : decode cX6_brings 75 = .ok (.getfield 126, 3) := by decide +kernel
theorem dX6_brings_78 : decode cX6_brings 78 = .ok (.iconst (-1), 1) := by decide +kernel
theorem dX6_brings_79 : decode cX6_brings 79 = .ok (.ixor, 1) := by decide +kernel
theorem dX6_brings_80 : decode cX6_brings 80 = .ok (.iand, 1) := by decide +kernel
theorem dX6_brings_81 : decode cX6_brings 81 = .ok (.ifCond .ne 51, 3) := by decide +kernel
theorem dX6_brings_84 : decode cX6_brings 84 = .ok (.iload 4, 2) := by decide +kernel
theorem dX6_brings_86 : decode cX6_brings 86 = .ok (.iload_n 3, 1) := by decide +kernel
theorem dX6_brings_87 : decode cX6_brings 87 = .ok (.invokestatic 232, 3) := by decide +kernel
theorem dX6_brings_90 : decode cX6_brings 90 = .ok (.ifCond .eq 42, 3) := by decide +kernel
theorem dX6_brings_93 : decode cX6_brings 93 = .ok (.aload_n 0, 1) := by decide +kernel
theorem dX6_brings_94 : decode cX6_brings 94 = .ok (.getfield 51, 3) := by decide +kernel
theorem dX6_brings_97 : decode cX6_brings 97 = .ok (.aload_n 0, 1) := by decide +kernel
theorem dX6_brings_98 : decode cX6_brings 98 = .ok (.getfield 26, 3) := by decide +kernel
theorem dX6_brings_101 : decode cX6_brings 101 = .ok (.aload_n 0, 1) := by decide +kernel
theorem dX6_brings_102 : decode cX6_brings 102 = .ok (.getfield 19, 3) := by decide +kernel
theorem dX6_brings_105 : decode cX6_brings 105 = .ok (.invokevirtual 163, 3) := by decide +kernel
theorem dX6_brings_108 : decode cX6_brings 108 = .ok (.iload 4, 2) := by decide +kernel
theorem dX6_brings_110 : decode cX6_brings 110 = .ok (.ior, 1) := by decide +kernel
theorem dX6_brings_111 : decode cX6_brings 111 = .ok (.invokevirtual 198, 3) := by decide +kernel
theorem dX6_brings_114 : decode cX6_brings 114 = .ok (.aload_n 0, 1) := by decide +kernel
theorem dX6_brings_115 : decode cX6_brings 115 = .ok (.getfield 51, 3) := by decide +kernel
theorem dX6_brings_118 : decode cX6_brings 118 = .ok (.invokevirtual 207, 3) := by decide +kernel
theorem dX6_brings_121 : decode cX6_brings 121 = .ok (.iload_n 1, 1) := by decide +kernel
theorem dX6_brings_122 : decode cX6_brings 122 = .ok (.ishr, 1) := by decide +kernel
theorem dX6_brings_123 : decode cX6_brings 123 = .ok (.iconst 1, 1) := by decide +kernel
theorem dX6_brings_124 : decode cX6_brings 124 = .ok (.iand, 1) := by decide +kernel
theorem dX6_brings_125 : decode cX6_brings 125 = .ok (.iload_n 2, 1) := by decide +kernel
theorem dX6_brings_126 : decode cX6_brings 126 = .ok (.if_icmp .ne 6, 3) := by decide +kernel
theorem dX6_brings_129 : decode cX6_brings 129 = .ok (.iload 4, 2) := by decide +kernel
theorem dX6_brings_131 : decode cX6_brings 131 = .ok (.istore_n 3, 1) := by decide +kernel
theorem dX6_brings_132 : decode cX6_brings 132 = .ok (.iinc 4 1, 3) := by decide +kernel
theorem dX6_brings_135 : decode cX6_brings 135 = .ok (.goto (-78), 3) := by decide +kernel
theorem dX6_brings_138 : decode cX6_brings 138 = .ok (.iload_n 3, 1) := by decide +kernel
theorem dX6_brings_139 : decode cX6_brings 139 = .ok (.ireturn, 1) := by decide +kernel
theorem dX6_part_0 : decode cX6_part 0 = .ok (.aload_n 0, 1) := by decide +kernel
theorem dX6_part_1 : decode cX6_part 1 = .ok (.getfield 26, 3) := by decide +kernel
theorem dX6_part_4 : decode cX6_part 4 = .ok (.aload_n 0, 1) := by decide +kernel
theorem dX6_part_5 : decode cX6_part 5 = .ok (.getfield 30, 3) := by decide +kernel
theorem dX6_part_8 : decode cX6_part 8 = .ok (.invokevirtual 236, 3) := by decide +kernel
theorem dX6_part_11 : decode cX6_part 11 = .ok (.ifCond .eq 5, 3) := by decide +kernel
theorem dX6_part_14 : decode cX6_part 14 = .ok (.iconst (-1), 1) := by decide +kernel
theorem dX6_part_15 : decode cX6_part 15 = .ok (.ireturn, 1) := by decide +kernel
theorem dX6_part_16 : decode cX6_part 16 = .ok (.aload_n 0, 1) := by decide +kernel
theorem dX6_part_17 : decode cX6_part 17 = .ok (.getfield 19, 3) := by decide +kernel
theorem dX6_part_20 : decode cX6_part 20 = .ok (.invokevirtual 163, 3) := by decide +kernel
theorem dX6_part_23 : decode cX6_part 23 = .ok (.istore_n 1, 1) := by decide +kernel
theorem dX6_part_24 : decode cX6_part 24 = .ok (.iconst (-1), 1) := by decide +kernel
theorem dX6_part_25 : decode cX6_part 25 = .ok (.istore_n 2, 1) := by decide +kernel
theorem dX6_part_26 : decode cX6_part 26 = .ok (.iconst 1, 1) := by decide +kernel
theorem dX6_part_27 : decode cX6_part 27 = .ok (.istore_n 3, 1) := by decide +kernel
theorem dX6_part_28 : decode cX6_part 28 = .ok (.iload_n 3, 1) := by decide +kernel
theorem dX6_part_29 : decode cX6_part 29 = .ok (.iload_n 1, 1) := by decide +kernel
theorem dX6_part_30 : decode cX6_part 30 = .ok (.if_icmp .gt 35, 3) := by decide +kernel
theorem dX6_part_33 : decode cX6_part 33 = .ok (.iload_n 3, 1) := by decide +kernel
theorem dX6_part_34 : decode cX6_part 34 = .ok (.iload_n 1, 1) := by decide +kernel
theorem dX6_part_35 : decode cX6_part 35 = .ok (.iconst (-1), 1) := by decide +kernel
theorem dX6_part_36 : decode cX6_part 36 = .ok (.ixor, 1) := by decide +kernel
theorem dX6_part_37 : decode cX6_part 37 = .ok (.iand, 1) := by decide +kernel
theorem dX6_part_38 : decode cX6_part 38 = .ok (.ifCond .ne 21, 3) := by decide +kernel
theorem dX6_part_41 : decode cX6_part 41 = .ok (.iload_n 3, 1) := by decide +kernel
theorem dX6_part_42 : decode cX6_part 42 = .ok (.iload_n 2, 1) := by decide +kernel
theorem dX6_part_43 : decode cX6_part 43 = .ok (.invokestatic 232, 3) := by decide +kernel
theorem dX6_part_46 : decode cX6_part 46 = .ok (.ifCond .eq 13, 3) := by decide +kernel
theorem dX6_part_49 : decode cX6_part 49 = .ok (.aload_n 0, 1) := by decide +kernel
theorem dX6_part_50 : decode cX6_part 50 = .ok (.iload_n 3, 1) := by decide +kernel
theorem dX6_part_51 : decode cX6_part 51 = .ok (.invokevirtual 240, 3) := by decide +kernel
theorem dX6_part_54 : decode cX6_part 54 = .ok (.ifCond .eq 5, 3) := by decide +kernel
theorem dX6_part_57 : decode cX6_part 57 = .ok (.iload_n 3, 1) := by decide +kernel
theorem dX6_part_58 : decode cX6_part 58 = .ok (.istore_n 2, 1) := by decide +kernel
theorem dX6_part_59 : decode cX6_part 59 = .ok (.iinc 3 1, 3) := by decide +kernel
theorem dX6_part_62 : decode cX6_part 62 = .ok (.goto (-34), 3) := by decide +kernel
theorem dX6_part_65 : decode cX6_part 65 = .ok (.iload_n 2, 1) := by decide +kernel
theorem dX6_part_66 : decode cX6_part 66 = .ok (.ireturn, 1) := by decide +kernel
theorem dX6_isFewer_0 : decode cX6_isFewer 0 = .ok (.iload_n 1, 1) := by decide +kernel
theorem dX6_isFewer_1 : decode cX6_isFewer 1 = .ok (.iconst (-1), 1) := by decide +kernel
theorem dX6_isFewer_2 : decode cX6_isFewer 2 = .ok (.if_icmp .eq 14, 3) := by decide +kernel
theorem dX6_isFewer_5 : decode cX6_isFewer 5 = .ok (.iload_n 0, 1) := by decide +kernel
theorem dX6_isFewer_6 : decode cX6_isFewer 6 = .ok (.invokestatic 186, 3) := by decide +kernel
theorem dX6_isFewer_9 : decode cX6_isFewer 9 = .ok (.iload_n 1, 1) := by decide +kernel
theorem dX6_isFewer_10 : decode cX6_isFewer 10 = .ok (.invokestatic 186, 3) := by decide +kernel
theorem dX6_isFewer_13 : decode cX6_isFewer 13 = .ok (.if_icmp .ge 7, 3) := by decide +kernel
theorem dX6_isFewer_16 : decode cX6_isFewer 16 = .ok (.iconst 1, 1) := by decide +kernel
theorem dX6_isFewer_17 : decode cX6_isFewer 17 = .ok (.goto 4, 3) := by decide +kernel
theorem dX6_isFewer_20 : decode cX6_isFewer 20 = .ok (.iconst 0, 1) := by decide +kernel
theorem dX6_isFewer_21 : decode cX6_isFewer 21 = .ok (.ireturn, 1) := by decide +kernel
theorem dX6_isHeardUnlike_0 : decode cX6_isHeardUnlike 0 = .ok (.aload_n 0, 1) := by decide +kernel
theorem dX6_isHeardUnlike_1 : decode cX6_isHeardUnlike 1 = .ok (.getfield 44, 3) := by decide +kernel
theorem dX6_isHeardUnlike_4 : decode cX6_isHeardUnlike 4 = .ok (.aload_n 0, 1) := by decide +kernel
theorem dX6_isHeardUnlike_5 : decode cX6_isHeardUnlike 5 = .ok (.getfield 26, 3) := by decide +kernel
theorem dX6_isHeardUnlike_8 : decode cX6_isHeardUnlike 8 = .ok (.iload_n 1, 1) := by decide +kernel
theorem dX6_isHeardUnlike_9 : decode cX6_isHeardUnlike 9 = .ok (.invokevirtual 166, 3) := by decide +kernel
theorem dX6_isHeardUnlike_12 : decode cX6_isHeardUnlike 12 = .ok (.aload_n 0, 1) := by decide +kernel
theorem dX6_isHeardUnlike_13 : decode cX6_isHeardUnlike 13 = .ok (.getfield 44, 3) := by decide +kernel
theorem dX6_isHeardUnlike_16 : decode cX6_isHeardUnlike 16 = .ok (.getfield 243, 3) := by decide +kernel
theorem dX6_isHeardUnlike_19 : decode cX6_isHeardUnlike 19 = .ok (.istore_n 2, 1) := by decide +kernel
theorem dX6_isHeardUnlike_20 : decode cX6_isHeardUnlike 20 = .ok (.aload_n 0, 1) := by decide +kernel
theorem dX6_isHeardUnlike_21 : decode cX6_isHeardUnlike 21 = .ok (.getfield 44, 3) := by decide +kernel
theorem dX6_isHeardUnlike_24 : decode cX6_isHeardUnlike 24 = .ok (.aload_n 0, 1) := by decide +kernel
theorem dX6_isHeardUnlike_25 : decode cX6_isHeardUnlike 25 = .ok (.getfield 30, 3) := by decide +kernel
theorem dX6_isHeardUnlike_28 : decode cX6_isHeardUnlike 28 = .ok (.iload_n 1, 1) := by decide +kernel
theorem dX6_isHeardUnlike_29 : decode cX6_isHeardUnlike 29 = .ok (.invokevirtual 166, 3) := by decide +kernel
theorem dX6_isHeardUnlike_32 : decode cX6_isHeardUnlike 32 = .ok (.iload_n 2, 1) := by decide +kernel
theorem dX6_isHeardUnlike_33 : decode cX6_isHeardUnlike 33 = .ok (.aload_n 0, 1) := by decide +kernel
theorem dX6_isHeardUnlike_34 : decode cX6_isHeardUnlike 34 = .ok (.getfield 44, 3) := by decide +kernel
theorem dX6_isHeardUnlike_37 : decode cX6_isHeardUnlike 37 = .ok (.getfield 243, 3) := by decide +kernel
theorem dX6_isHeardUnlike_40 : decode cX6_isHeardUnlike 40 = .ok (.if_icmp .eq 7, 3) := by decide +kernel
theorem dX6_isHeardUnlike_43 : decode cX6_isHeardUnlike 43 = .ok (.iconst 1, 1) := by decide +kernel
theorem dX6_isHeardUnlike_44 : decode cX6_isHeardUnlike 44 = .ok (.goto 4, 3) := by decide +kernel
theorem dX6_isHeardUnlike_47 : decode cX6_isHeardUnlike 47 = .ok (.iconst 0, 1) := by decide +kernel
theorem dX6_isHeardUnlike_48 : decode cX6_isHeardUnlike 48 = .ok (.ireturn, 1) := by decide +kernel
theorem dX6_sheet_0 : decode cX6_sheet 0 = .ok (.aload_n 0, 1) := by decide +kernel
theorem dX6_sheet_1 : decode cX6_sheet 1 = .ok (.iload_n 1, 1) := by decide +kernel
theorem dX6_sheet_2 : decode cX6_sheet 2 = .ok (.invokevirtual 87, 3) := by decide +kernel
theorem dX6_sheet_5 : decode cX6_sheet 5 = .ok (.astore 4, 2) := by decide +kernel
theorem dX6_sheet_7 : decode cX6_sheet 7 = .ok (.aload 4, 2) := by decide +kernel
theorem dX6_sheet_9 : decode cX6_sheet 9 = .ok (.ifnull 16, 3) := by decide +kernel
theorem dX6_sheet_12 : decode cX6_sheet 12 = .ok (.iload_n 2, 1) := by decide +kernel
theorem dX6_sheet_13 : decode cX6_sheet 13 = .ok (.invokestatic 246, 3) := by decide +kernel
theorem dX6_sheet_16 : decode cX6_sheet 16 = .ok (.ifCond .eq 9, 3) := by decide +kernel
theorem dX6_sheet_19 : decode cX6_sheet 19 = .ok (.iload_n 3, 1) := by decide +kernel
theorem dX6_sheet_20 : decode cX6_sheet 20 = .ok (.bipush 40, 2) := by decide +kernel
theorem dX6_sheet_22 : decode cX6_sheet 22 = .ok (.if_icmp .le 6, 3) := by decide +kernel
theorem dX6_sheet_25 : decode cX6_sheet 25 = .ok (.bipush (-2), 2) := by decide +kernel
theorem dX6_sheet_27 : decode cX6_sheet 27 = .ok (.ireturn, 1) := by decide +kernel
theorem dX6_sheet_28 : decode cX6_sheet 28 = .ok (.iload_n 3, 1) := by decide +kernel
theorem dX6_sheet_29 : decode cX6_sheet 29 = .ok (.ifCond .ge 9, 3) := by decide +kernel
theorem dX6_sheet_32 : decode cX6_sheet 32 = .ok (.aload_n 0, 1) := by decide +kernel
theorem dX6_sheet_33 : decode cX6_sheet 33 = .ok (.iconst 5, 1) := by decide +kernel
theorem dX6_sheet_34 : decode cX6_sheet 34 = .ok (.invokevirtual 95, 3) := by decide +kernel
theorem dX6_sheet_37 : decode cX6_sheet 37 = .ok (.ireturn, 1) := by decide +kernel
theorem dX6_sheet_38 : decode cX6_sheet 38 = .ok (.aload 4, 2) := by decide +kernel
theorem dX6_sheet_40 : decode cX6_sheet 40 = .ok (.iload_n 2, 1) := by decide +kernel
theorem dX6_sheet_41 : decode cX6_sheet 41 = .ok (.iload_n 3, 1) := by decide +kernel
theorem dX6_sheet_42 : decode cX6_sheet 42 = .ok (.invokevirtual 249, 3) := by decide +kernel
theorem dX6_sheet_45 : decode cX6_sheet 45 = .ok (.iload_n 3, 1) := by decide +kernel
theorem dX6_sheet_46 : decode cX6_sheet 46 = .ok (.ireturn, 1) := by decide +kernel
theorem dX6_lose_0 : decode cX6_lose 0 = .ok (.aload_n 0, 1) := by decide +kernel
theorem dX6_lose_1 : decode cX6_lose 1 = .ok (.iload_n 1, 1) := by decide +kernel
theorem dX6_lose_2 : decode cX6_lose 2 = .ok (.invokevirtual 87, 3) := by decide +kernel
theorem dX6_lose_5 : decode cX6_lose 5 = .ok (.astore_n 2, 1) := by decide +kernel
theorem dX6_lose_6 : decode cX6_lose 6 = .ok (.aload_n 2, 1) := by decide +kernel
theorem dX6_lose_7 : decode cX6_lose 7 = .ok (.ifnonnull 6, 3) := by decide +kernel
theorem dX6_lose_10 : decode cX6_lose 10 = .ok (.bipush (-2), 2) := by decide +kernel
theorem dX6_lose_12 : decode cX6_lose 12 = .ok (.ireturn, 1) := by decide +kernel
theorem dX6_lose_13 : decode cX6_lose 13 = .ok (.aload_n 2, 1) := by decide +kernel
theorem dX6_lose_14 : decode cX6_lose 14 = .ok (.getfield 91, 3) := by decide +kernel
theorem dX6_lose_17 : decode cX6_lose 17 = .ok (.ifCond .eq 9, 3) := by decide +kernel
theorem dX6_lose_20 : decode cX6_lose 20 = .ok (.aload_n 0, 1) := by decide +kernel
theorem dX6_lose_21 : decode cX6_lose 21 = .ok (.iconst 1, 1) := by decide +kernel
theorem dX6_lose_22 : decode cX6_lose 22 = .ok (.invokevirtual 95, 3) := by decide +kernel
theorem dX6_lose_25 : decode cX6_lose 25 = .ok (.ireturn, 1) := by decide +kernel
theorem dX6_lose_26 : decode cX6_lose 26 = .ok (.aload_n 2, 1) := by decide +kernel
theorem dX6_lose_27 : decode cX6_lose 27 = .ok (.iconst 1, 1) := by decide +kernel
theorem dX6_lose_28 : decode cX6_lose 28 = .ok (.putfield 91, 3) := by decide +kernel
theorem dX6_lose_31 : decode cX6_lose 31 = .ok (.aload_n 2, 1) := by decide +kernel
theorem dX6_lose_32 : decode cX6_lose 32 = .ok (.getfield 99, 3) := by decide +kernel
theorem dX6_lose_35 : decode cX6_lose 35 = .ok (.ireturn, 1) := by decide +kernel
theorem dX6_put_0 : decode cX6_put 0 = .ok (.aload_n 0, 1) := by decide +kernel
theorem dX6_put_1 : decode cX6_put 1 = .ok (.iload_n 1, 1) := by decide +kernel
theorem dX6_put_2 : decode cX6_put 2 = .ok (.invokevirtual 87, 3) := by decide +kernel
theorem dX6_put_5 : decode cX6_put 5 = .ok (.astore 5, 2) := by decide +kernel
theorem dX6_put_7 : decode cX6_put 7 = .ok (.aload 5, 2) := by decide +kernel
theorem dX6_put_9 : decode cX6_put 9 = .ok (.ifnull 10, 3) := by decide +kernel
theorem dX6_put_12 : decode cX6_put 12 = .ok (.iload_n 2, 1) := by decide +kernel
theorem dX6_put_13 : decode cX6_put 13 = .ok (.invokestatic 246, 3) := by decide +kernel
theorem dX6_put_16 : decode cX6_put 16 = .ok (.ifCond .ne 6, 3) := by decide +kernel
theorem dX6_put_19 : decode cX6_put 19 = .ok (.bipush (-2), 2) := by decide +kernel
theorem dX6_put_21 : decode cX6_put 21 = .ok (.ireturn, 1) := by decide +kernel
theorem dX6_put_22 : decode cX6_put 22 = .ok (.aload 5, 2) := by decide +kernel
theorem dX6_put_24 : decode cX6_put 24 = .ok (.iload_n 2, 1) := by decide +kernel
theorem dX6_put_25 : decode cX6_put 25 = .ok (.iload_n 3, 1) := by decide +kernel
theorem dX6_put_26 : decode cX6_put 26 = .ok (.invokevirtual 253, 3) := by decide +kernel
theorem dX6_put_29 : decode cX6_put 29 = .ok (.istore 6, 2) := by decide +kernel
theorem dX6_put_31 : decode cX6_put 31 = .ok (.iload 6, 2) := by decide +kernel
theorem dX6_put_33 : decode cX6_put 33 = .ok (.ifCond .eq 10, 3) := by decide +kernel
theorem dX6_put_36 : decode cX6_put 36 = .ok (.aload_n 0, 1) := by decide +kernel
theorem dX6_put_37 : decode cX6_put 37 = .ok (.iload 6, 2) := by decide +kernel
theorem dX6_put_39 : decode cX6_put 39 = .ok (.invokevirtual 95, 3) := by decide +kernel
theorem dX6_put_42 : decode cX6_put 42 = .ok (.ireturn, 1) := by decide +kernel
theorem dX6_put_43 : decode cX6_put 43 = .ok (.aload 5, 2) := by decide +kernel
theorem dX6_put_45 : decode cX6_put 45 = .ok (.iload_n 3, 1) := by decide +kernel
theorem dX6_put_46 : decode cX6_put 46 = .ok (.iload 4, 2) := by decide +kernel
theorem dX6_put_48 : decode cX6_put 48 = .ok (.invokevirtual 256, 3) := by decide +kernel
theorem dX6_put_51 : decode cX6_put 51 = .ok (.iconst 1, 1) := by decide +kernel
theorem dX6_put_52 : decode cX6_put 52 = .ok (.ireturn, 1) := by decide +kernel
theorem dX6_get_0 : decode cX6_get 0 = .ok (.aload_n 0, 1) := by decide +kernel
theorem dX6_get_1 : decode cX6_get 1 = .ok (.iload_n 1, 1) := by decide +kernel
theorem dX6_get_2 : decode cX6_get 2 = .ok (.invokevirtual 87, 3) := by decide +kernel
theorem dX6_get_5 : decode cX6_get 5 = .ok (.astore 4, 2) := by decide +kernel
theorem dX6_get_7 : decode cX6_get 7 = .ok (.aload 4, 2) := by decide +kernel
theorem dX6_get_9 : decode cX6_get 9 = .ok (.ifnull 10, 3) := by decide +kernel
theorem dX6_get_12 : decode cX6_get 12 = .ok (.iload_n 2, 1) := by decide +kernel
theorem dX6_get_13 : decode cX6_get 13 = .ok (.invokestatic 246, 3) := by decide +kernel
theorem dX6_get_16 : decode cX6_get 16 = .ok (.ifCond .ne 7, 3) := by decide +kernel
theorem dX6_get_19 : decode cX6_get 19 = .ok (.ldc_w 259, 3) := by decide +kernel
theorem dX6_get_22 : decode cX6_get 22 = .ok (.ireturn, 1) := by decide +kernel
theorem dX6_get_23 : decode cX6_get 23 = .ok (.aload 4, 2) := by decide +kernel
theorem dX6_get_25 : decode cX6_get 25 = .ok (.iload_n 2, 1) := by decide +kernel
theorem dX6_get_26 : decode cX6_get 26 = .ok (.iload_n 3, 1) := by decide +kernel
theorem dX6_get_27 : decode cX6_get 27 = .ok (.invokevirtual 253, 3) := by decide +kernel
theorem dX6_get_30 : decode cX6_get 30 = .ok (.istore 5, 2) := by decide +kernel
theorem dX6_get_32 : decode cX6_get 32 = .ok (.iload 5, 2) := by decide +kernel
theorem dX6_get_34 : decode cX6_get 34 = .ok (.ifCond .eq 14, 3) := by decide +kernel
theorem dX6_get_37 : decode cX6_get 37 = .ok (.aload_n 0, 1) := by decide +kernel
theorem dX6_get_38 : decode cX6_get 38 = .ok (.iload 5, 2) := by decide +kernel
theorem dX6_get_40 : decode cX6_get 40 = .ok (.invokevirtual 95, 3) := by decide +kernel
theorem dX6_get_43 : decode cX6_get 43 = .ok (.pop, 1) := by decide +kernel
theorem dX6_get_44 : decode cX6_get 44 = .ok (.ldc_w 259, 3) := by decide +kernel
theorem dX6_get_47 : decode cX6_get 47 = .ok (.ireturn, 1) := by decide +kernel
theorem dX6_get_48 : decode cX6_get 48 = .ok (.aload 4, 2) := by decide +kernel
theorem dX6_get_50 : decode cX6_get 50 = .ok (.getfield 100, 3) := by decide +kernel
theorem dX6_get_53 : decode cX6_get 53 = .ok (.iload_n 3, 1) := by decide +kernel
theorem dX6_get_54 : decode cX6_get 54 = .ok (.iaload, 1) := by decide +kernel
theorem dX6_get_55 : decode cX6_get 55 = .ok (.ireturn, 1) := by decide +kernel
theorem dX6_copy_0 : decode cX6_copy 0 = .ok (.aload_n 0, 1) := by decide +kernel
theorem dX6_copy_1 : decode cX6_copy 1 = .ok (.iload_n 1, 1) := by decide +kernel
theorem dX6_copy_2 : decode cX6_copy 2 = .ok (.invokevirtual 87, 3) := by decide +kernel
theorem dX6_copy_5 : decode cX6_copy 5 = .ok (.astore 6, 2) := by decide +kernel
theorem dX6_copy_7 : decode cX6_copy 7 = .ok (.aload_n 0, 1) := by decide +kernel
theorem dX6_copy_8 : decode cX6_copy 8 = .ok (.iload_n 3, 1) := by decide +kernel
theorem dX6_copy_9 : decode cX6_copy 9 = .ok (.invokevirtual 87, 3) := by decide +kernel
theorem dX6_copy_12 : decode cX6_copy 12 = .ok (.astore 7, 2) := by decide +kernel
theorem dX6_copy_14 : decode cX6_copy 14 = .ok (.aload 6, 2) := by decide +kernel
theorem dX6_copy_16 : decode cX6_copy 16 = .ok (.ifnull 8, 3) := by decide +kernel
theorem dX6_copy_19 : decode cX6_copy 19 = .ok (.aload 7, 2) := by decide +kernel
theorem dX6_copy_21 : decode cX6_copy 21 = .ok (.ifnonnull 6, 3) := by decide +kernel
theorem dX6_copy_24 : decode cX6_copy 24 = .ok (.bipush (-2), 2) := by decide +kernel
theorem dX6_copy_26 : decode cX6_copy 26 = .ok (.ireturn, 1) := by decide +kernel
theorem dX6_copy_27 : decode cX6_copy 27 = .ok (.aload 6, 2) := by decide +kernel
theorem dX6_copy_29 : decode cX6_copy 29 = .ok (.getfield 91, 3) := by decide +kernel
theorem dX6_copy_32 : decode cX6_copy 32 = .ok (.ifCond .ne 11, 3) := by decide +kernel
theorem dX6_copy_35 : decode cX6_copy 35 = .ok (.aload 7, 2) := by decide +kernel
theorem dX6_copy_37 : decode cX6_copy 37 = .ok (.getfield 91, 3) := by decide +kernel
theorem dX6_copy_40 : decode cX6_copy 40 = .ok (.ifCond .eq 9, 3) := by decide +kernel
theorem dX6_copy_43 : decode cX6_copy 43 = .ok (.aload_n 0, 1) := by decide +kernel
theorem dX6_copy_44 : decode cX6_copy 44 = .ok (.iconst 1, 1) := by decide +kernel
theorem dX6_copy_45 : decode cX6_copy 45 = .ok (.invokevirtual 95, 3) := by decide +kernel
theorem dX6_copy_48 : decode cX6_copy 48 = .ok (.ireturn, 1) := by decide +kernel
theorem dX6_copy_49 : decode cX6_copy 49 = .ok (.aload 6, 2) := by decide +kernel
theorem dX6_copy_51 : decode cX6_copy 51 = .ok (.getfield 260, 3) := by decide +kernel
theorem dX6_copy_54 : decode cX6_copy 54 = .ok (.aload 7, 2) := by decide +kernel
theorem dX6_copy_56 : decode cX6_copy 56 = .ok (.getfield 260, 3) := by decide +kernel
theorem dX6_copy_59 : decode cX6_copy 59 = .ok (.if_icmp .eq 9, 3) := by decide +kernel
theorem dX6_copy_62 : decode cX6_copy 62 = .ok (.aload_n 0, 1) := by decide +kernel
theorem dX6_copy_63 : decode cX6_copy 63 = .ok (.iconst 4, 1) := by decide +kernel
theorem dX6_copy_64 : decode cX6_copy 64 = .ok (.invokevirtual 95, 3) := by decide +kernel
theorem dX6_copy_67 : decode cX6_copy 67 = .ok (.ireturn, 1) := by decide +kernel
theorem dX6_copy_68 : decode cX6_copy 68 = .ok (.aload 6, 2) := by decide +kernel
theorem dX6_copy_70 : decode cX6_copy 70 = .ok (.iload_n 2, 1) := by decide +kernel
theorem dX6_copy_71 : decode cX6_copy 71 = .ok (.iload 5, 2) := by decide +kernel
theorem dX6_copy_73 : decode cX6_copy 73 = .ok (.invokevirtual 263, 3) := by decide +kernel
theorem dX6_copy_76 : decode cX6_copy 76 = .ok (.ifCond .eq 15, 3) := by decide +kernel
theorem dX6_copy_79 : decode cX6_copy 79 = .ok (.aload 7, 2) := by decide +kernel
theorem dX6_copy_81 : decode cX6_copy 81 = .ok (.iload 4, 2) := by decide +kernel
theorem dX6_copy_83 : decode cX6_copy 83 = .ok (.iload 5, 2) := by decide +kernel
theorem dX6_copy_85 : decode cX6_copy 85 = .ok (.invokevirtual 263, 3) := by decide +kernel
theorem dX6_copy_88 : decode cX6_copy 88 = .ok (.ifCond .ne 9, 3) := by decide +kernel
theorem dX6_copy_91 : decode cX6_copy 91 = .ok (.aload_n 0, 1) := by decide +kernel
theorem dX6_copy_92 : decode cX6_copy 92 = .ok (.iconst 2, 1) := by decide +kernel
theorem dX6_copy_93 : decode cX6_copy 93 = .ok (.invokevirtual 95, 3) := by decide +kernel
theorem dX6_copy_96 : decode cX6_copy 96 = .ok (.ireturn, 1) := by decide +kernel
theorem dX6_copy_97 : decode cX6_copy 97 = .ok (.aload 6, 2) := by decide +kernel
theorem dX6_copy_99 : decode cX6_copy 99 = .ok (.getfield 100, 3) := by decide +kernel
theorem dX6_copy_102 : decode cX6_copy 102 = .ok (.iload_n 2, 1) := by decide +kernel
theorem dX6_copy_103 : decode cX6_copy 103 = .ok (.aload 7, 2) := by decide +kernel
theorem dX6_copy_105 : decode cX6_copy 105 = .ok (.getfield 100, 3) := by decide +kernel
theorem dX6_copy_108 : decode cX6_copy 108 = .ok (.iload 4, 2) := by decide +kernel
theorem dX6_copy_110 : decode cX6_copy 110 = .ok (.iload 5, 2) := by decide +kernel
theorem dX6_copy_112 : decode cX6_copy 112 = .ok (.invokestatic 266, 3) := by decide +kernel
theorem dX6_copy_115 : decode cX6_copy 115 = .ok (.iconst 1, 1) := by decide +kernel
theorem dX6_copy_116 : decode cX6_copy 116 = .ok (.ireturn, 1) := by decide +kernel
theorem dX6_write_0 : decode cX6_write 0 = .ok (.aload_n 0, 1) := by decide +kernel
theorem dX6_write_1 : decode cX6_write 1 = .ok (.iload_n 1, 1) := by decide +kernel
theorem dX6_write_2 : decode cX6_write 2 = .ok (.invokevirtual 87, 3) := by decide +kernel
theorem dX6_write_5 : decode cX6_write 5 = .ok (.astore_n 2, 1) := by decide +kernel
theorem dX6_write_6 : decode cX6_write 6 = .ok (.aload_n 2, 1) := by decide +kernel
theorem dX6_write_7 : decode cX6_write 7 = .ok (.ifnonnull 6, 3) := by decide +kernel
theorem dX6_write_10 : decode cX6_write 10 = .ok (.bipush (-2), 2) := by decide +kernel
theorem dX6_write_12 : decode cX6_write 12 = .ok (.ireturn, 1) := by decide +kernel
theorem dX6_write_13 : decode cX6_write 13 = .ok (.aload_n 2, 1) := by decide +kernel
theorem dX6_write_14 : decode cX6_write 14 = .ok (.getfield 91, 3) := by decide +kernel
theorem dX6_write_17 : decode cX6_write 17 = .ok (.ifCond .eq 9, 3) := by decide +kernel
theorem dX6_write_20 : decode cX6_write 20 = .ok (.aload_n 0, 1) := by decide +kernel
theorem dX6_write_21 : decode cX6_write 21 = .ok (.iconst 1, 1) := by decide +kernel
theorem dX6_write_22 : decode cX6_write 22 = .ok (.invokevirtual 95, 3) := by decide +kernel
theorem dX6_write_25 : decode cX6_write 25 = .ok (.ireturn, 1) := by decide +kernel
theorem dX6_write_26 : decode cX6_write 26 = .ok (.aload_n 0, 1) := by decide +kernel
theorem dX6_write_27 : decode cX6_write 27 = .ok (.getfield 44, 3) := by decide +kernel
theorem dX6_write_30 : decode cX6_write 30 = .ok (.aload_n 0, 1) := by decide +kernel
theorem dX6_write_31 : decode cX6_write 31 = .ok (.getfield 26, 3) := by decide +kernel
theorem dX6_write_34 : decode cX6_write 34 = .ok (.aload_n 0, 1) := by decide +kernel
theorem dX6_write_35 : decode cX6_write 35 = .ok (.getfield 19, 3) := by decide +kernel
theorem dX6_write_38 : decode cX6_write 38 = .ok (.invokevirtual 163, 3) := by decide +kernel
theorem dX6_write_41 : decode cX6_write 41 = .ok (.invokevirtual 166, 3) := by decide +kernel
theorem dX6_write_44 : decode cX6_write 44 = .ok (.aload_n 2, 1) := by decide +kernel
theorem dX6_write_45 : decode cX6_write 45 = .ok (.getfield 99, 3) := by decide +kernel
theorem dX6_write_48 : decode cX6_write 48 = .ok (.bipush 10, 2) := by decide +kernel
theorem dX6_write_50 : decode cX6_write 50 = .ok (.invokestatic 272, 3) := by decide +kernel
theorem dX6_write_53 : decode cX6_write 53 = .ok (.istore_n 3, 1) := by decide +kernel
theorem dX6_write_54 : decode cX6_write 54 = .ok (.iconst 0, 1) := by decide +kernel
theorem dX6_write_55 : decode cX6_write 55 = .ok (.istore 4, 2) := by decide +kernel
theorem dX6_write_57 : decode cX6_write 57 = .ok (.iload 4, 2) := by decide +kernel
theorem dX6_write_59 : decode cX6_write 59 = .ok (.iload_n 3, 1) := by decide +kernel
theorem dX6_write_60 : decode cX6_write 60 = .ok (.if_icmp .ge 24, 3) := by decide +kernel
theorem dX6_write_63 : decode cX6_write 63 = .ok (.aload_n 2, 1) := by decide +kernel
theorem dX6_write_64 : decode cX6_write 64 = .ok (.iload 4, 2) := by decide +kernel
theorem dX6_write_66 : decode cX6_write 66 = .ok (.aload_n 0, 1) := by decide +kernel
theorem dX6_write_67 : decode cX6_write 67 = .ok (.getfield 44, 3) := by decide +kernel
theorem dX6_write_70 : decode cX6_write 70 = .ok (.iload 4, 2) := by decide +kernel
theorem dX6_write_72 : decode cX6_write 72 = .ok (.invokevirtual 183, 3) := by decide +kernel
theorem dX6_write_75 : decode cX6_write 75 = .ok (.invokevirtual 256, 3) := by decide +kernel
theorem dX6_write_78 : decode cX6_write 78 = .ok (.iinc 4 1, 3) := by decide +kernel
theorem dX6_write_81 : decode cX6_write 81 = .ok (.goto (-24), 3) := by decide +kernel
theorem dX6_write_84 : decode cX6_write 84 = .ok (.iload_n 3, 1) := by decide +kernel
theorem dX6_write_85 : decode cX6_write 85 = .ok (.ireturn, 1) := by decide +kernel
