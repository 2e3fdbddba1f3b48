theorem dX0_init_0 : decode cX0_init 0 = .ok (.aload_n 0, 1) := by decide +kernel
theorem dX0_init_1 : decode cX0_init 1 = .ok (.invokespecial 3, 3) := by decide +kernel
theorem dX0_init_4 : decode cX0_init 4 = .ok (.aload_n 0, 1) := by decide +kernel
theorem dX0_init_5 : decode cX0_init 5 = .ok (.bipush 10, 2) := by decide +kernel
theorem dX0_init_7 : decode cX0_init 7 = .ok (.newarray .int, 2) := by decide +kernel
theorem dX0_init_9 : decode cX0_init 9 = .ok (.putfield 9, 3) := by decide +kernel
theorem dX0_init_12 : decode cX0_init 12 = .ok (.aload_n 0, 1) := by decide +kernel
theorem dX0_init_13 : decode cX0_init 13 = .ok (.bipush 10, 2) := by decide +kernel
theorem dX0_init_15 : decode cX0_init 15 = .ok (.newarray .int, 2) := by decide +kernel
theorem dX0_init_17 : decode cX0_init 17 = .ok (.putfield 15, 3) := by decide +kernel
theorem dX0_init_20 : decode cX0_init 20 = .ok (.aload_n 0, 1) := by decide +kernel
theorem dX0_init_21 : decode cX0_init 21 = .ok (.bipush 10, 2) := by decide +kernel
theorem dX0_init_23 : decode cX0_init 23 = .ok (.newarray .int, 2) := by decide +kernel
theorem dX0_init_25 : decode cX0_init 25 = .ok (.putfield 18, 3) := by decide +kernel
theorem dX0_init_28 : decode cX0_init 28 = .ok (.aload_n 0, 1) := by decide +kernel
theorem dX0_init_29 : decode cX0_init 29 = .ok (.sipush 1024, 3) := by decide +kernel
theorem dX0_init_32 : decode cX0_init 32 = .ok (.newarray .byte, 2) := by decide +kernel
theorem dX0_init_34 : decode cX0_init 34 = .ok (.putfield 21, 3) := by decide +kernel
theorem dX0_init_37 : decode cX0_init 37 = .ok (.aload_n 0, 1) := by decide +kernel
theorem dX0_init_38 : decode cX0_init 38 = .ok (.iconst 0, 1) := by decide +kernel
theorem dX0_init_39 : decode cX0_init 39 = .ok (.putfield 25, 3) := by decide +kernel
theorem dX0_init_42 : decode cX0_init 42 = .ok (.aload_n 0, 1) := by decide +kernel
theorem dX0_init_43 : decode cX0_init 43 = .ok (.aload_n 1, 1) := by decide +kernel
theorem dX0_init_44 : decode cX0_init 44 = .ok (.putfield 29, 3) := by decide +kernel
theorem dX0_init_47 : decode cX0_init 47 = .ok (.return_, 1) := by decide +kernel
theorem dX0_takeUp_0 : decode cX0_takeUp 0 = .ok (.aload_n 0, 1) := by decide +kernel
theorem dX0_takeUp_1 : decode cX0_takeUp 1 = .ok (.iconst 0, 1) := by decide +kernel
theorem dX0_takeUp_2 : decode cX0_takeUp 2 = .ok (.putfield 25, 3) := by decide +kernel
theorem dX0_takeUp_5 : decode cX0_takeUp 5 = .ok (.aload_n 0, 1) := by decide +kernel
theorem dX0_takeUp_6 : decode cX0_takeUp 6 = .ok (.getfield 9, 3) := by decide +kernel
theorem dX0_takeUp_9 : decode cX0_takeUp 9 = .ok (.iconst 0, 1) := by decide +kernel
theorem dX0_takeUp_10 : decode cX0_takeUp 10 = .ok (.invokestatic 33, 3) := by decide +kernel
theorem dX0_takeUp_13 : decode cX0_takeUp 13 = .ok (.aload_n 0, 1) := by decide +kernel
theorem dX0_takeUp_14 : decode cX0_takeUp 14 = .ok (.getfield 15, 3) := by decide +kernel
theorem dX0_takeUp_17 : decode cX0_takeUp 17 = .ok (.iconst 0, 1) := by decide +kernel
theorem dX0_takeUp_18 : decode cX0_takeUp 18 = .ok (.invokestatic 33, 3) := by decide +kernel
theorem dX0_takeUp_21 : decode cX0_takeUp 21 = .ok (.iconst 0, 1) := by decide +kernel
theorem dX0_takeUp_22 : decode cX0_takeUp 22 = .ok (.istore_n 3, 1) := by decide +kernel
theorem dX0_takeUp_23 : decode cX0_takeUp 23 = .ok (.iload_n 3, 1) := by decide +kernel
theorem dX0_takeUp_24 : decode cX0_takeUp 24 = .ok (.aload_n 0, 1) := by decide +kernel
theorem dX0_takeUp_25 : decode cX0_takeUp 25 = .ok (.getfield 29, 3) := by decide +kernel
theorem dX0_takeUp_28 : decode cX0_takeUp 28 = .ok (.getfield 39, 3) := by decide +kernel
theorem dX0_takeUp_31 : decode cX0_takeUp 31 = .ok (.if_icmp .ge 51, 3) := by decide +kernel
theorem dX0_takeUp_34 : decode cX0_takeUp 34 = .ok (.iload_n 2, 1) := by decide +kernel
theorem dX0_takeUp_35 : decode cX0_takeUp 35 = .ok (.iload_n 3, 1) := by decide +kernel
theorem dX0_takeUp_36 : decode cX0_takeUp 36 = .ok (.ishr, 1) := by decide +kernel
theorem dX0_takeUp_37 : decode cX0_takeUp 37 = .ok (.iconst 1, 1) := by decide +kernel
theorem dX0_takeUp_38 : decode cX0_takeUp 38 = .ok (.iand, 1) := by decide +kernel
theorem dX0_takeUp_39 : decode cX0_takeUp 39 = .ok (.ifCond .eq 37, 3) := by decide +kernel
theorem dX0_takeUp_42 : decode cX0_takeUp 42 = .ok (.aload_n 0, 1) := by decide +kernel
theorem dX0_takeUp_43 : decode cX0_takeUp 43 = .ok (.getfield 29, 3) := by decide +kernel
theorem dX0_takeUp_46 : decode cX0_takeUp 46 = .ok (.getfield 44, 3) := by decide +kernel
theorem dX0_takeUp_49 : decode cX0_takeUp 49 = .ok (.iload_n 3, 1) := by decide +kernel
theorem dX0_takeUp_50 : decode cX0_takeUp 50 = .ok (.iaload, 1) := by decide +kernel
theorem dX0_takeUp_51 : decode cX0_takeUp 51 = .ok (.aload_n 1, 1) := by decide +kernel
theorem dX0_takeUp_52 : decode cX0_takeUp 52 = .ok (.getfield 47, 3) := by decide +kernel
theorem dX0_takeUp_55 : decode cX0_takeUp 55 = .ok (.if_icmp .lt 21, 3) := by decide +kernel
theorem dX0_takeUp_58 : decode cX0_takeUp 58 = .ok (.aload_n 0, 1) := by decide +kernel
theorem dX0_takeUp_59 : decode cX0_takeUp 59 = .ok (.dup, 1) := by decide +kernel
theorem dX0_takeUp_60 : decode cX0_takeUp 60 = .ok (.getfield 25, 3) := by decide +kernel
theorem dX0_takeUp_63 : decode cX0_takeUp 63 = .ok (.iconst 1, 1) := by decide +kernel
theorem dX0_takeUp_64 : decode cX0_takeUp 64 = .ok (.iload_n 3, 1) := by decide +kernel
theorem dX0_takeUp_65 : decode cX0_takeUp 65 = .ok (.ishl, 1) := by decide +kernel
theorem dX0_takeUp_66 : decode cX0_takeUp 66 = .ok (.ior, 1) := by decide +kernel
theorem dX0_takeUp_67 : decode cX0_takeUp 67 = .ok (.putfield 25, 3) := by decide +kernel
theorem dX0_takeUp_70 : decode cX0_takeUp 70 = .ok (.aload_n 0, 1) := by decide +kernel
theorem dX0_takeUp_71 : decode cX0_takeUp 71 = .ok (.aload_n 1, 1) := by decide +kernel
theorem dX0_takeUp_72 : decode cX0_takeUp 72 = .ok (.iload_n 3, 1) := by decide +kernel
theorem dX0_takeUp_73 : decode cX0_takeUp 73 = .ok (.invokevirtual 52, 3) := by decide +kernel
theorem dX0_takeUp_76 : decode cX0_takeUp 76 = .ok (.iinc 3 1, 3) := by decide +kernel
theorem dX0_takeUp_79 : decode cX0_takeUp 79 = .ok (.goto (-56), 3) := by decide +kernel
theorem dX0_takeUp_82 : decode cX0_takeUp 82 = .ok (.return_, 1) := by decide +kernel
theorem dX0_meetEarlier_0 : decode cX0_meetEarlier 0 = .ok (.aload_n 0, 1) := by decide +kernel
theorem dX0_meetEarlier_1 : decode cX0_meetEarlier 1 = .ok (.getfield 29, 3) := by decide +kernel
theorem dX0_meetEarlier_4 : decode cX0_meetEarlier 4 = .ok (.getfield 56, 3) := by decide +kernel
theorem dX0_meetEarlier_7 : decode cX0_meetEarlier 7 = .ok (.iload_n 2, 1) := by decide +kernel
theorem dX0_meetEarlier_8 : decode cX0_meetEarlier 8 = .ok (.iaload, 1) := by decide +kernel
theorem dX0_meetEarlier_9 : decode cX0_meetEarlier 9 = .ok (.istore_n 3, 1) := by decide +kernel
theorem dX0_meetEarlier_10 : decode cX0_meetEarlier 10 = .ok (.aload_n 0, 1) := by decide +kernel
theorem dX0_meetEarlier_11 : decode cX0_meetEarlier 11 = .ok (.getfield 29, 3) := by decide +kernel
theorem dX0_meetEarlier_14 : decode cX0_meetEarlier 14 = .ok (.getfield 59, 3) := by decide +kernel
theorem dX0_meetEarlier_17 : decode cX0_meetEarlier 17 = .ok (.iload_n 2, 1) := by decide +kernel
theorem dX0_meetEarlier_18 : decode cX0_meetEarlier 18 = .ok (.iaload, 1) := by decide +kernel
theorem dX0_meetEarlier_19 : decode cX0_meetEarlier 19 = .ok (.ifCond .eq 14, 3) := by decide +kernel
theorem dX0_meetEarlier_22 : decode cX0_meetEarlier 22 = .ok (.aload_n 0, 1) := by decide +kernel
theorem dX0_meetEarlier_23 : decode cX0_meetEarlier 23 = .ok (.getfield 25, 3) := by decide +kernel
theorem dX0_meetEarlier_26 : decode cX0_meetEarlier 26 = .ok (.iload_n 3, 1) := by decide +kernel
theorem dX0_meetEarlier_27 : decode cX0_meetEarlier 27 = .ok (.ishr, 1) := by decide +kernel
theorem dX0_meetEarlier_28 : decode cX0_meetEarlier 28 = .ok (.iconst 1, 1) := by decide +kernel
theorem dX0_meetEarlier_29 : decode cX0_meetEarlier 29 = .ok (.iand, 1) := by decide +kernel
theorem dX0_meetEarlier_30 : decode cX0_meetEarlier 30 = .ok (.ifCond .ne 4, 3) := by decide +kernel
theorem dX0_meetEarlier_33 : decode cX0_meetEarlier 33 = .ok (.return_, 1) := by decide +kernel
theorem dX0_meetEarlier_34 : decode cX0_meetEarlier 34 = .ok (.aload_n 0, 1) := by decide +kernel
theorem dX0_meetEarlier_35 : decode cX0_meetEarlier 35 = .ok (.getfield 29, 3) := by decide +kernel
theorem dX0_meetEarlier_38 : decode cX0_meetEarlier 38 = .ok (.getfield 59, 3) := by decide +kernel
theorem dX0_meetEarlier_41 : decode cX0_meetEarlier 41 = .ok (.iload_n 2, 1) := by decide +kernel
theorem dX0_meetEarlier_42 : decode cX0_meetEarlier 42 = .ok (.iaload, 1) := by decide +kernel
theorem dX0_meetEarlier_43 : decode cX0_meetEarlier 43 = .ok (.iconst 1, 1) := by decide +kernel
theorem dX0_meetEarlier_44 : decode cX0_meetEarlier 44 = .ok (.if_icmp .ne 16, 3) := by decide +kernel
theorem dX0_meetEarlier_47 : decode cX0_meetEarlier 47 = .ok (.aload_n 0, 1) := by decide +kernel
theorem dX0_meetEarlier_48 : decode cX0_meetEarlier 48 = .ok (.aload_n 1, 1) := by decide +kernel
theorem dX0_meetEarlier_49 : decode cX0_meetEarlier 49 = .ok (.getfield 62, 3) := by decide +kernel
theorem dX0_meetEarlier_52 : decode cX0_meetEarlier 52 = .ok (.iload_n 2, 1) := by decide +kernel
theorem dX0_meetEarlier_53 : decode cX0_meetEarlier 53 = .ok (.iload_n 3, 1) := by decide +kernel
theorem dX0_meetEarlier_54 : decode cX0_meetEarlier 54 = .ok (.invokevirtual 65, 3) := by decide +kernel
theorem dX0_meetEarlier_57 : decode cX0_meetEarlier 57 = .ok (.goto 21, 3) := by decide +kernel
theorem dX0_meetEarlier_60 : decode cX0_meetEarlier 60 = .ok (.aload_n 0, 1) := by decide +kernel
theorem dX0_meetEarlier_61 : decode cX0_meetEarlier 61 = .ok (.getfield 29, 3) := by decide +kernel
theorem dX0_meetEarlier_64 : decode cX0_meetEarlier 64 = .ok (.getfield 69, 3) := by decide +kernel
theorem dX0_meetEarlier_67 : decode cX0_meetEarlier 67 = .ok (.iload_n 2, 1) := by decide +kernel
theorem dX0_meetEarlier_68 : decode cX0_meetEarlier 68 = .ok (.iaload, 1) := by decide +kernel
theorem dX0_meetEarlier_69 : decode cX0_meetEarlier 69 = .ok (.ifCond .eq 9, 3) := by decide +kernel
theorem dX0_meetEarlier_72 : decode cX0_meetEarlier 72 = .ok (.aload_n 0, 1) := by decide +kernel
theorem dX0_meetEarlier_73 : decode cX0_meetEarlier 73 = .ok (.iload_n 2, 1) := by decide +kernel
theorem dX0_meetEarlier_74 : decode cX0_meetEarlier 74 = .ok (.iload_n 3, 1) := by decide +kernel
theorem dX0_meetEarlier_75 : decode cX0_meetEarlier 75 = .ok (.invokevirtual 72, 3) := by decide +kernel
theorem dX0_meetEarlier_78 : decode cX0_meetEarlier 78 = .ok (.return_, 1) := by decide +kernel
theorem dX0_meetFoe_0 : decode cX0_meetFoe 0 = .ok (.aload_n 0, 1) := by decide +kernel
theorem dX0_meetFoe_1 : decode cX0_meetFoe 1 = .ok (.getfield 29, 3) := by decide +kernel
theorem dX0_meetFoe_4 : decode cX0_meetFoe 4 = .ok (.getfield 44, 3) := by decide +kernel
theorem dX0_meetFoe_7 : decode cX0_meetFoe 7 = .ok (.iload_n 2, 1) := by decide +kernel
theorem dX0_meetFoe_8 : decode cX0_meetFoe 8 = .ok (.iaload, 1) := by decide +kernel
theorem dX0_meetFoe_9 : decode cX0_meetFoe 9 = .ok (.aload_n 0, 1) := by decide +kernel
theorem dX0_meetFoe_10 : decode cX0_meetFoe 10 = .ok (.getfield 29, 3) := by decide +kernel
theorem dX0_meetFoe_13 : decode cX0_meetFoe 13 = .ok (.getfield 44, 3) := by decide +kernel
theorem dX0_meetFoe_16 : decode cX0_meetFoe 16 = .ok (.iload_n 3, 1) := by decide +kernel
theorem dX0_meetFoe_17 : decode cX0_meetFoe 17 = .ok (.iaload, 1) := by decide +kernel
theorem dX0_meetFoe_18 : decode cX0_meetFoe 18 = .ok (.isub, 1) := by decide +kernel
theorem dX0_meetFoe_19 : decode cX0_meetFoe 19 = .ok (.istore 4, 2) := by decide +kernel
theorem dX0_meetFoe_21 : decode cX0_meetFoe 21 = .ok (.iload_n 1, 1) := by decide +kernel
theorem dX0_meetFoe_22 : decode cX0_meetFoe 22 = .ok (.ifCond .eq 13, 3) := by decide +kernel
theorem dX0_meetFoe_25 : decode cX0_meetFoe 25 = .ok (.iload_n 1, 1) := by decide +kernel
theorem dX0_meetFoe_26 : decode cX0_meetFoe 26 = .ok (.iconst 2, 1) := by decide +kernel
theorem dX0_meetFoe_27 : decode cX0_meetFoe 27 = .ok (.if_icmp .ne 14, 3) := by decide +kernel
theorem dX0_meetFoe_30 : decode cX0_meetFoe 30 = .ok (.iload 4, 2) := by decide +kernel
theorem dX0_meetFoe_32 : decode cX0_meetFoe 32 = .ok (.ifCond .lt 9, 3) := by decide +kernel
theorem dX0_meetFoe_35 : decode cX0_meetFoe 35 = .ok (.aload_n 0, 1) := by decide +kernel
theorem dX0_meetFoe_36 : decode cX0_meetFoe 36 = .ok (.iload_n 2, 1) := by decide +kernel
theorem dX0_meetFoe_37 : decode cX0_meetFoe 37 = .ok (.iload_n 3, 1) := by decide +kernel
theorem dX0_meetFoe_38 : decode cX0_meetFoe 38 = .ok (.invokevirtual 72, 3) := by decide +kernel
theorem dX0_meetFoe_41 : decode cX0_meetFoe 41 = .ok (.iload_n 1, 1) := by decide +kernel
theorem dX0_meetFoe_42 : decode cX0_meetFoe 42 = .ok (.iconst 2, 1) := by decide +kernel
theorem dX0_meetFoe_43 : decode cX0_meetFoe 43 = .ok (.if_icmp .ne 8, 3) := by decide +kernel
theorem dX0_meetFoe_46 : decode cX0_meetFoe 46 = .ok (.iload 4, 2) := by decide +kernel
theorem dX0_meetFoe_48 : decode cX0_meetFoe 48 = .ok (.ifCond .gt 9, 3) := by decide +kernel
theorem dX0_meetFoe_51 : decode cX0_meetFoe 51 = .ok (.aload_n 0, 1) := by decide +kernel
theorem dX0_meetFoe_52 : decode cX0_meetFoe 52 = .ok (.iload_n 3, 1) := by decide +kernel
theorem dX0_meetFoe_53 : decode cX0_meetFoe 53 = .ok (.iload_n 2, 1) := by decide +kernel
theorem dX0_meetFoe_54 : decode cX0_meetFoe 54 = .ok (.invokevirtual 72, 3) := by decide +kernel
theorem dX0_meetFoe_57 : decode cX0_meetFoe 57 = .ok (.return_, 1) := by decide +kernel
theorem dX0_strike_0 : decode cX0_strike 0 = .ok (.aload_n 0, 1) := by decide +kernel
theorem dX0_strike_1 : decode cX0_strike 1 = .ok (.getfield 9, 3) := by decide +kernel
theorem dX0_strike_4 : decode cX0_strike 4 = .ok (.iload_n 1, 1) := by decide +kernel
theorem dX0_strike_5 : decode cX0_strike 5 = .ok (.dup2, 1) := by decide +kernel
theorem dX0_strike_6 : decode cX0_strike 6 = .ok (.iaload, 1) := by decide +kernel
theorem dX0_strike_7 : decode cX0_strike 7 = .ok (.iconst 1, 1) := by decide +kernel
theorem dX0_strike_8 : decode cX0_strike 8 = .ok (.iload_n 2, 1) := by decide +kernel
theorem dX0_strike_9 : decode cX0_strike 9 = .ok (.ishl, 1) := by decide +kernel
theorem dX0_strike_10 : decode cX0_strike 10 = .ok (.ior, 1) := by decide +kernel
theorem dX0_strike_11 : decode cX0_strike 11 = .ok (.iastore, 1) := by decide +kernel
theorem dX0_strike_12 : decode cX0_strike 12 = .ok (.aload_n 0, 1) := by decide +kernel
theorem dX0_strike_13 : decode cX0_strike 13 = .ok (.getfield 15, 3) := by decide +kernel
theorem dX0_strike_16 : decode cX0_strike 16 = .ok (.iload_n 2, 1) := by decide +kernel
theorem dX0_strike_17 : decode cX0_strike 17 = .ok (.dup2, 1) := by decide +kernel
theorem dX0_strike_18 : decode cX0_strike 18 = .ok (.iaload, 1) := by decide +kernel
theorem dX0_strike_19 : decode cX0_strike 19 = .ok (.iconst 1, 1) := by decide +kernel
theorem dX0_strike_20 : decode cX0_strike 20 = .ok (.iload_n 1, 1) := by decide +kernel
theorem dX0_strike_21 : decode cX0_strike 21 = .ok (.ishl, 1) := by decide +kernel
theorem dX0_strike_22 : decode cX0_strike 22 = .ok (.ior, 1) := by decide +kernel
theorem dX0_strike_23 : decode cX0_strike 23 = .ok (.iastore, 1) := by decide +kernel
theorem dX0_strike_24 : decode cX0_strike 24 = .ok (.return_, 1) := by decide +kernel
theorem dX0_struckBy_0 : decode cX0_struckBy 0 = .ok (.aload_n 0, 1) := by decide +kernel
theorem dX0_struckBy_1 : decode cX0_struckBy 1 = .ok (.aload_n 0, 1) := by decide +kernel
theorem dX0_struckBy_2 : decode cX0_struckBy 2 = .ok (.getfield 9, 3) := by decide +kernel
theorem dX0_struckBy_5 : decode cX0_struckBy 5 = .ok (.iload_n 1, 1) := by decide +kernel
theorem dX0_struckBy_6 : decode cX0_struckBy 6 = .ok (.invokevirtual 76, 3) := by decide +kernel
theorem dX0_struckBy_9 : decode cX0_struckBy 9 = .ok (.ireturn, 1) := by decide +kernel
theorem dX0_unionOver_0 : decode cX0_unionOver 0 = .ok (.iconst 0, 1) := by decide +kernel
theorem dX0_unionOver_1 : decode cX0_unionOver 1 = .ok (.istore_n 3, 1) := by decide +kernel
theorem dX0_unionOver_2 : decode cX0_unionOver 2 = .ok (.iconst 0, 1) := by decide +kernel
theorem dX0_unionOver_3 : decode cX0_unionOver 3 = .ok (.istore 4, 2) := by decide +kernel
theorem dX0_unionOver_5 : decode cX0_unionOver 5 = .ok (.iload 4, 2) := by decide +kernel
theorem dX0_unionOver_7 : decode cX0_unionOver 7 = .ok (.aload_n 0, 1) := by decide +kernel
theorem dX0_unionOver_8 : decode cX0_unionOver 8 = .ok (.getfield 29, 3) := by decide +kernel
theorem dX0_unionOver_11 : decode cX0_unionOver 11 = .ok (.getfield 39, 3) := by decide +kernel
theorem dX0_unionOver_14 : decode cX0_unionOver 14 = .ok (.if_icmp .ge 25, 3) := by decide +kernel
theorem dX0_unionOver_17 : decode cX0_unionOver 17 = .ok (.iload_n 2, 1) := by decide +kernel
theorem dX0_unionOver_18 : decode cX0_unionOver 18 = .ok (.iload 4, 2) := by decide +kernel
theorem dX0_unionOver_20 : decode cX0_unionOver 20 = .ok (.ishr, 1) := by decide +kernel
theorem dX0_unionOver_21 : decode cX0_unionOver 21 = .ok (.iconst 1, 1) := by decide +kernel
theorem dX0_unionOver_22 : decode cX0_unionOver 22 = .ok (.iand, 1) := by decide +kernel
theorem dX0_unionOver_23 : decode cX0_unionOver 23 = .ok (.ifCond .eq 10, 3) := by decide +kernel
theorem dX0_unionOver_26 : decode cX0_unionOver 26 = .ok (.iload_n 3, 1) := by decide +kernel
theorem dX0_unionOver_27 : decode cX0_unionOver 27 = .ok (.aload_n 1, 1) := by decide +kernel
theorem dX0_unionOver_28 : decode cX0_unionOver 28 = .ok (.iload 4, 2) := by decide +kernel
theorem dX0_unionOver_30 : decode cX0_unionOver 30 = .ok (.iaload, 1) := by decide +kernel
theorem dX0_unionOver_31 : decode cX0_unionOver 31 = .ok (.ior, 1) := by decide +kernel
theorem dX0_unionOver_32 : decode cX0_unionOver 32 = .ok (.istore_n 3, 1) := by decide +kernel
theorem dX0_unionOver_33 : decode cX0_unionOver 33 = .ok (.iinc 4 1, 3) := by decide +kernel
theorem dX0_unionOver_36 : decode cX0_unionOver 36 = .ok (.goto (-31), 3) := by decide +kernel
theorem dX0_unionOver_39 : decode cX0_unionOver 39 = .ok (.iload_n 3, 1) := by decide +kernel
theorem dX0_unionOver_40 : decode cX0_unionOver 40 = .ok (.ireturn, 1) := by decide +kernel
theorem dX0_answersForItself_0 : decode cX0_answersForItself 0 = .ok (.iload_n 1, 1) := by decide +kernel
theorem dX0_answersForItself_1 : decode cX0_answersForItself 1 = .ok (.aload_n 0, 1) := by decide +kernel
theorem dX0_answersForItself_2 : decode cX0_answersForItself 2 = .ok (.getfield 25, 3) := by decide +kernel
theorem dX0_answersForItself_5 : decode cX0_answersForItself 5 = .ok (.iconst (-1), 1) := by decide +kernel
theorem dX0_answersForItself_6 : decode cX0_answersForItself 6 = .ok (.ixor, 1) := by decide +kernel
theorem dX0_answersForItself_7 : decode cX0_answersForItself 7 = .ok (.iand, 1) := by decide +kernel
theorem dX0_answersForItself_8 : decode cX0_answersForItself 8 = .ok (.ifCond .eq 5, 3) := by decide +kernel
theorem dX0_answersForItself_11 : decode cX0_answersForItself 11 = .ok (.iconst 0, 1) := by decide +kernel
theorem dX0_answersForItself_12 : decode cX0_answersForItself 12 = .ok (.ireturn, 1) := by decide +kernel
theorem dX0_answersForItself_13 : decode cX0_answersForItself 13 = .ok (.aload_n 0, 1) := by decide +kernel
theorem dX0_answersForItself_14 : decode cX0_answersForItself 14 = .ok (.iload_n 1, 1) := by decide +kernel
theorem dX0_answersForItself_15 : decode cX0_answersForItself 15 = .ok (.invokevirtual 80, 3) := by decide +kernel
theorem dX0_answersForItself_18 : decode cX0_answersForItself 18 = .ok (.istore_n 2, 1) := by decide +kernel
theorem dX0_answersForItself_19 : decode cX0_answersForItself 19 = .ok (.iload_n 2, 1) := by decide +kernel
theorem dX0_answersForItself_20 : decode cX0_answersForItself 20 = .ok (.iload_n 1, 1) := by decide +kernel
theorem dX0_answersForItself_21 : decode cX0_answersForItself 21 = .ok (.iand, 1) := by decide +kernel
theorem dX0_answersForItself_22 : decode cX0_answersForItself 22 = .ok (.ifCond .ne 23, 3) := by decide +kernel
theorem dX0_answersForItself_25 : decode cX0_answersForItself 25 = .ok (.aload_n 0, 1) := by decide +kernel
theorem dX0_answersForItself_26 : decode cX0_answersForItself 26 = .ok (.aload_n 0, 1) := by decide +kernel
theorem dX0_answersForItself_27 : decode cX0_answersForItself 27 = .ok (.getfield 15, 3) := by decide +kernel
theorem dX0_answersForItself_30 : decode cX0_answersForItself 30 = .ok (.iload_n 1, 1) := by decide +kernel
theorem dX0_answersForItself_31 : decode cX0_answersForItself 31 = .ok (.invokevirtual 76, 3) := by decide +kernel
theorem dX0_answersForItself_34 : decode cX0_answersForItself 34 = .ok (.iload_n 2, 1) := by decide +kernel
theorem dX0_answersForItself_35 : decode cX0_answersForItself 35 = .ok (.iconst (-1), 1) := by decide +kernel
theorem dX0_answersForItself_36 : decode cX0_answersForItself 36 = .ok (.ixor, 1) := by decide +kernel
theorem dX0_answersForItself_37 : decode cX0_answersForItself 37 = .ok (.iand, 1) := by decide +kernel
theorem dX0_answersForItself_38 : decode cX0_answersForItself 38 = .ok (.ifCond .ne 7, 3) := by decide +kernel
theorem dX0_answersForItself_41 : decode cX0_answersForItself 41 = .ok (.iconst 1, 1) := by decide +kernel
theorem dX0_answersForItself_42 : decode cX0_answersForItself 42 = .ok (.goto 4, 3) := by decide +kernel
theorem dX0_answersForItself_45 : decode cX0_answersForItself 45 = .ok (.iconst 0, 1) := by decide +kernel
theorem dX0_answersForItself_46 : decode cX0_answersForItself 46 = .ok (.ireturn, 1) := by decide +kernel
theorem dX0_leastSet_0 : decode cX0_leastSet 0 = .ok (.iconst 0, 1) := by decide +kernel
theorem dX0_leastSet_1 : decode cX0_leastSet 1 = .ok (.istore_n 1, 1) := by decide +kernel
theorem dX0_leastSet_2 : decode cX0_leastSet 2 = .ok (.iconst 0, 1) := by decide +kernel
theorem dX0_leastSet_3 : decode cX0_leastSet 3 = .ok (.istore_n 2, 1) := by decide +kernel
theorem dX0_leastSet_4 : decode cX0_leastSet 4 = .ok (.iload_n 2, 1) := by decide +kernel
theorem dX0_leastSet_5 : decode cX0_leastSet 5 = .ok (.aload_n 0, 1) := by decide +kernel
theorem dX0_leastSet_6 : decode cX0_leastSet 6 = .ok (.getfield 29, 3) := by decide +kernel
theorem dX0_leastSet_9 : decode cX0_leastSet 9 = .ok (.getfield 39, 3) := by decide +kernel
theorem dX0_leastSet_12 : decode cX0_leastSet 12 = .ok (.if_icmp .gt 28, 3) := by decide +kernel
theorem dX0_leastSet_15 : decode cX0_leastSet 15 = .ok (.aload_n 0, 1) := by decide +kernel
theorem dX0_leastSet_16 : decode cX0_leastSet 16 = .ok (.aload_n 0, 1) := by decide +kernel
theorem dX0_leastSet_17 : decode cX0_leastSet 17 = .ok (.iload_n 1, 1) := by decide +kernel
theorem dX0_leastSet_18 : decode cX0_leastSet 18 = .ok (.invokevirtual 80, 3) := by decide +kernel
theorem dX0_leastSet_21 : decode cX0_leastSet 21 = .ok (.invokevirtual 84, 3) := by decide +kernel
theorem dX0_leastSet_24 : decode cX0_leastSet 24 = .ok (.istore_n 3, 1) := by decide +kernel
theorem dX0_leastSet_25 : decode cX0_leastSet 25 = .ok (.iload_n 3, 1) := by decide +kernel
theorem dX0_leastSet_26 : decode cX0_leastSet 26 = .ok (.iload_n 1, 1) := by decide +kernel
theorem dX0_leastSet_27 : decode cX0_leastSet 27 = .ok (.if_icmp .ne 5, 3) := by decide +kernel
theorem dX0_leastSet_30 : decode cX0_leastSet 30 = .ok (.iload_n 1, 1) := by decide +kernel
theorem dX0_leastSet_31 : decode cX0_leastSet 31 = .ok (.ireturn, 1) := by decide +kernel
theorem dX0_leastSet_32 : decode cX0_leastSet 32 = .ok (.iload_n 3, 1) := by decide +kernel
theorem dX0_leastSet_33 : decode cX0_leastSet 33 = .ok (.istore_n 1, 1) := by decide +kernel
theorem dX0_leastSet_34 : decode cX0_leastSet 34 = .ok (.iinc 2 1, 3) := by decide +kernel
theorem dX0_leastSet_37 : decode cX0_leastSet 37 = .ok (.goto (-33), 3) := by decide +kernel
theorem dX0_leastSet_40 : decode cX0_leastSet 40 = .ok (.iload_n 1, 1) := by decide +kernel
theorem dX0_leastSet_41 : decode cX0_leastSet 41 = .ok (.ireturn, 1) := by decide +kernel
theorem dX0_unstruckBut_0 : decode cX0_unstruckBut 0 = .ok (.iconst 0, 1) := by decide +kernel
theorem dX0_unstruckBut_1 : decode cX0_unstruckBut 1 = .ok (.istore_n 2, 1) := by decide +kernel
theorem dX0_unstruckBut_2 : decode cX0_unstruckBut 2 = .ok (.iconst 0, 1) := by decide +kernel
theorem dX0_unstruckBut_3 : decode cX0_unstruckBut 3 = .ok (.istore_n 3, 1) := by decide +kernel
theorem dX0_unstruckBut_4 : decode cX0_unstruckBut 4 = .ok (.iload_n 3, 1) := by decide +kernel
theorem dX0_unstruckBut_5 : decode cX0_unstruckBut 5 = .ok (.aload_n 0, 1) := by decide +kernel
theorem dX0_unstruckBut_6 : decode cX0_unstruckBut 6 = .ok (.getfield 29, 3) := by decide +kernel
theorem dX0_unstruckBut_9 : decode cX0_unstruckBut 9 = .ok (.getfield 39, 3) := by decide +kernel
theorem dX0_unstruckBut_12 : decode cX0_unstruckBut 12 = .ok (.if_icmp .ge 39, 3) := by decide +kernel
theorem dX0_unstruckBut_15 : decode cX0_unstruckBut 15 = .ok (.aload_n 0, 1) := by decide +kernel
theorem dX0_unstruckBut_16 : decode cX0_unstruckBut 16 = .ok (.getfield 25, 3) := by decide +kernel
theorem dX0_unstruckBut_19 : decode cX0_unstruckBut 19 = .ok (.iload_n 3, 1) := by decide +kernel
theorem dX0_unstruckBut_20 : decode cX0_unstruckBut 20 = .ok (.ishr, 1) := by decide +kernel
theorem dX0_unstruckBut_21 : decode cX0_unstruckBut 21 = .ok (.iconst 1, 1) := by decide +kernel
theorem dX0_unstruckBut_22 : decode cX0_unstruckBut 22 = .ok (.iand, 1) := by decide +kernel
theorem dX0_unstruckBut_23 : decode cX0_unstruckBut 23 = .ok (.ifCond .eq 22, 3) := by decide +kernel
theorem dX0_unstruckBut_26 : decode cX0_unstruckBut 26 = .ok (.aload_n 0, 1) := by decide +kernel
theorem dX0_unstruckBut_27 : decode cX0_unstruckBut 27 = .ok (.getfield 15, 3) := by decide +kernel
theorem dX0_unstruckBut_30 : decode cX0_unstruckBut 30 = .ok (.iload_n 3, 1) := by decide +kernel
theorem dX0_unstruckBut_31 : decode cX0_unstruckBut 31 = .ok (.iaload, 1) := by decide +kernel
theorem dX0_unstruckBut_32 : decode cX0_unstruckBut 32 = .ok (.iload_n 1, 1) := by decide +kernel
theorem dX0_unstruckBut_33 : decode cX0_unstruckBut 33 = .ok (.iconst (-1), 1) := by decide +kernel
theorem dX0_unstruckBut_34 : decode cX0_unstruckBut 34 = .ok (.ixor, 1) := by decide +kernel
theorem dX0_unstruckBut_35 : decode cX0_unstruckBut 35 = .ok (.iand, 1) := by decide +kernel
theorem dX0_unstruckBut_36 : decode cX0_unstruckBut 36 = .ok (.ifCond .ne 9, 3) := by decide +kernel
theorem dX0_unstruckBut_39 : decode cX0_unstruckBut 39 = .ok (.iload_n 2, 1) := by decide +kernel
theorem dX0_unstruckBut_40 : decode cX0_unstruckBut 40 = .ok (.iconst 1, 1) := by decide +kernel
theorem dX0_unstruckBut_41 : decode cX0_unstruckBut 41 = .ok (.iload_n 3, 1) := by decide +kernel
theorem dX0_unstruckBut_42 : decode cX0_unstruckBut 42 = .ok (.ishl, 1) := by decide +kernel
theorem dX0_unstruckBut_43 : decode cX0_unstruckBut 43 = .ok (.ior, 1) := by decide +kernel
theorem dX0_unstruckBut_44 : decode cX0_unstruckBut 44 = .ok (.istore_n 2, 1) := by decide +kernel
theorem dX0_unstruckBut_45 : decode cX0_unstruckBut 45 = .ok (.iinc 3 1, 3) := by decide +kernel
theorem dX0_unstruckBut_48 : decode cX0_unstruckBut 48 = .ok (.goto (-44), 3) := by decide +kernel
theorem dX0_unstruckBut_51 : decode cX0_unstruckBut 51 = .ok (.iload_n 2, 1) := by decide +kernel
theorem dX0_unstruckBut_52 : decode cX0_unstruckBut 52 = .ok (.ireturn, 1) := by decide +kernel
theorem dX0_markFullSets_0 : decode cX0_markFullSets 0 = .ok (.aload_n 0, 1) := by decide +kernel
theorem dX0_markFullSets_1 : decode cX0_markFullSets 1 = .ok (.getfield 25, 3) := by decide +kernel
theorem dX0_markFullSets_4 : decode cX0_markFullSets 4 = .ok (.istore_n 1, 1) := by decide +kernel
theorem dX0_markFullSets_5 : decode cX0_markFullSets 5 = .ok (.iload_n 1, 1) := by decide +kernel
theorem dX0_markFullSets_6 : decode cX0_markFullSets 6 = .ok (.ifCond .lt 56, 3) := by decide +kernel
theorem dX0_markFullSets_9 : decode cX0_markFullSets 9 = .ok (.iload_n 1, 1) := by decide +kernel
theorem dX0_markFullSets_10 : decode cX0_markFullSets 10 = .ok (.aload_n 0, 1) := by decide +kernel
theorem dX0_markFullSets_11 : decode cX0_markFullSets 11 = .ok (.getfield 25, 3) := by decide +kernel
theorem dX0_markFullSets_14 : decode cX0_markFullSets 14 = .ok (.iconst (-1), 1) := by decide +kernel
theorem dX0_markFullSets_15 : decode cX0_markFullSets 15 = .ok (.ixor, 1) := by decide +kernel
theorem dX0_markFullSets_16 : decode cX0_markFullSets 16 = .ok (.iand, 1) := by decide +kernel
theorem dX0_markFullSets_17 : decode cX0_markFullSets 17 = .ok (.ifCond .ne 39, 3) := by decide +kernel
theorem dX0_markFullSets_20 : decode cX0_markFullSets 20 = .ok (.aload_n 0, 1) := by decide +kernel
theorem dX0_markFullSets_21 : decode cX0_markFullSets 21 = .ok (.iload_n 1, 1) := by decide +kernel
theorem dX0_markFullSets_22 : decode cX0_markFullSets 22 = .ok (.invokevirtual 87, 3) := by decide +kernel
theorem dX0_markFullSets_25 : decode cX0_markFullSets 25 = .ok (.ifCond .eq 7, 3) := by decide +kernel
theorem dX0_markFullSets_28 : decode cX0_markFullSets 28 = .ok (.iconst 1, 1) := by decide +kernel
theorem dX0_markFullSets_29 : decode cX0_markFullSets 29 = .ok (.goto 4, 3) := by decide +kernel
theorem dX0_markFullSets_32 : decode cX0_markFullSets 32 = .ok (.iconst 0, 1) := by decide +kernel
theorem dX0_markFullSets_33 : decode cX0_markFullSets 33 = .ok (.istore_n 2, 1) := by decide +kernel
theorem dX0_markFullSets_34 : decode cX0_markFullSets 34 = .ok (.aload_n 0, 1) := by decide +kernel
theorem dX0_markFullSets_35 : decode cX0_markFullSets 35 = .ok (.getfield 21, 3) := by decide +kernel
theorem dX0_markFullSets_38 : decode cX0_markFullSets 38 = .ok (.iload_n 1, 1) := by decide +kernel
theorem dX0_markFullSets_39 : decode cX0_markFullSets 39 = .ok (.aload_n 0, 1) := by decide +kernel
theorem dX0_markFullSets_40 : decode cX0_markFullSets 40 = .ok (.iload_n 1, 1) := by decide +kernel
theorem dX0_markFullSets_41 : decode cX0_markFullSets 41 = .ok (.invokevirtual 91, 3) := by decide +kernel
theorem dX0_markFullSets_44 : decode cX0_markFullSets 44 = .ok (.ifCond .eq 9, 3) := by decide +kernel
theorem dX0_markFullSets_47 : decode cX0_markFullSets 47 = .ok (.iload_n 2, 1) := by decide +kernel
theorem dX0_markFullSets_48 : decode cX0_markFullSets 48 = .ok (.iconst 2, 1) := by decide +kernel
theorem dX0_markFullSets_49 : decode cX0_markFullSets 49 = .ok (.ior, 1) := by decide +kernel
theorem dX0_markFullSets_50 : decode cX0_markFullSets 50 = .ok (.goto 4, 3) := by decide +kernel
theorem dX0_markFullSets_53 : decode cX0_markFullSets 53 = .ok (.iload_n 2, 1) := by decide +kernel
theorem dX0_markFullSets_54 : decode cX0_markFullSets 54 = .ok (.i2b, 1) := by decide +kernel
theorem dX0_markFullSets_55 : decode cX0_markFullSets 55 = .ok (.bastore, 1) := by decide +kernel
theorem dX0_markFullSets_56 : decode cX0_markFullSets 56 = .ok (.iinc 1 (-1), 3) := by decide +kernel
theorem dX0_markFullSets_59 : decode cX0_markFullSets 59 = .ok (.goto (-54), 3) := by decide +kernel
theorem dX0_markFullSets_62 : decode cX0_markFullSets 62 = .ok (.return_, 1) := by decide +kernel
theorem dX0_hasGreater_0 : decode cX0_hasGreater 0 = .ok (.iconst 0, 1) := by decide +kernel
theorem dX0_hasGreater_1 : decode cX0_hasGreater 1 = .ok (.istore_n 2, 1) := by decide +kernel
theorem dX0_hasGreater_2 : decode cX0_hasGreater 2 = .ok (.iload_n 2, 1) := by decide +kernel
theorem dX0_hasGreater_3 : decode cX0_hasGreater 3 = .ok (.aload_n 0, 1) := by decide +kernel
theorem dX0_hasGreater_4 : decode cX0_hasGreater 4 = .ok (.getfield 29, 3) := by decide +kernel
theorem dX0_hasGreater_7 : decode cX0_hasGreater 7 = .ok (.getfield 39, 3) := by decide +kernel
theorem dX0_hasGreater_10 : decode cX0_hasGreater 10 = .ok (.if_icmp .ge 41, 3) := by decide +kernel
theorem dX0_hasGreater_13 : decode cX0_hasGreater 13 = .ok (.iload_n 1, 1) := by decide +kernel
theorem dX0_hasGreater_14 : decode cX0_hasGreater 14 = .ok (.iconst 1, 1) := by decide +kernel
theorem dX0_hasGreater_15 : decode cX0_hasGreater 15 = .ok (.iload_n 2, 1) := by decide +kernel
theorem dX0_hasGreater_16 : decode cX0_hasGreater 16 = .ok (.ishl, 1) := by decide +kernel
theorem dX0_hasGreater_17 : decode cX0_hasGreater 17 = .ok (.ior, 1) := by decide +kernel
theorem dX0_hasGreater_18 : decode cX0_hasGreater 18 = .ok (.istore_n 3, 1) := by decide +kernel
theorem dX0_hasGreater_19 : decode cX0_hasGreater 19 = .ok (.aload_n 0, 1) := by decide +kernel
theorem dX0_hasGreater_20 : decode cX0_hasGreater 20 = .ok (.getfield 25, 3) := by decide +kernel
theorem dX0_hasGreater_23 : decode cX0_hasGreater 23 = .ok (.iload_n 1, 1) := by decide +kernel
theorem dX0_hasGreater_24 : decode cX0_hasGreater 24 = .ok (.iconst (-1), 1) := by decide +kernel
theorem dX0_hasGreater_25 : decode cX0_hasGreater 25 = .ok (.ixor, 1) := by decide +kernel
theorem dX0_hasGreater_26 : decode cX0_hasGreater 26 = .ok (.iand, 1) := by decide +kernel
theorem dX0_hasGreater_27 : decode cX0_hasGreater 27 = .ok (.iconst 1, 1) := by decide +kernel
theorem dX0_hasGreater_28 : decode cX0_hasGreater 28 = .ok (.iload_n 2, 1) := by decide +kernel
theorem dX0_hasGreater_29 : decode cX0_hasGreater 29 = .ok (.ishl, 1) := by decide +kernel
theorem dX0_hasGreater_30 : decode cX0_hasGreater 30 = .ok (.iand, 1) := by decide +kernel
theorem dX0_hasGreater_31 : decode cX0_hasGreater 31 = .ok (.ifCond .eq 14, 3) := by decide +kernel
theorem dX0_hasGreater_34 : decode cX0_hasGreater 34 = .ok (.aload_n 0, 1) := by decide +kernel
theorem dX0_hasGreater_35 : decode cX0_hasGreater 35 = .ok (.getfield 21, 3) := by decide +kernel
theorem dX0_hasGreater_38 : decode cX0_hasGreater 38 = .ok (.iload_n 3, 1) := by decide +kernel
theorem dX0_hasGreater_39 : decode cX0_hasGreater 39 = .ok (.baload, 1) := by decide +kernel
theorem dX0_hasGreater_40 : decode cX0_hasGreater 40 = .ok (.ifCond .eq 5, 3) := by decide +kernel
theorem dX0_hasGreater_43 : decode cX0_hasGreater 43 = .ok (.iconst 1, 1) := by decide +kernel
theorem dX0_hasGreater_44 : decode cX0_hasGreater 44 = .ok (.ireturn, 1) := by decide +kernel
theorem dX0_hasGreater_45 : decode cX0_hasGreater 45 = .ok (.iinc 2 1, 3) := by decide +kernel
theorem dX0_hasGreater_48 : decode cX0_hasGreater 48 = .ok (.goto (-46), 3) := by decide +kernel
theorem dX0_hasGreater_51 : decode cX0_hasGreater 51 = .ok (.iconst 0, 1) := by decide +kernel
theorem dX0_hasGreater_52 : decode cX0_hasGreater 52 = .ok (.ireturn, 1) := by decide +kernel
theorem dX0_isFullSet_0 : decode cX0_isFullSet 0 = .ok (.iload_n 1, 1) := by decide +kernel
theorem dX0_isFullSet_1 : decode cX0_isFullSet 1 = .ok (.aload_n 0, 1) := by decide +kernel
theorem dX0_isFullSet_2 : decode cX0_isFullSet 2 = .ok (.getfield 25, 3) := by decide +kernel
theorem dX0_isFullSet_5 : decode cX0_isFullSet 5 = .ok (.iconst (-1), 1) := by decide +kernel
theorem dX0_isFullSet_6 : decode cX0_isFullSet 6 = .ok (.ixor, 1) := by decide +kernel
theorem dX0_isFullSet_7 : decode cX0_isFullSet 7 = .ok (.iand, 1) := by decide +kernel
theorem dX0_isFullSet_8 : decode cX0_isFullSet 8 = .ok (.ifCond .ne 17, 3) := by decide +kernel
theorem dX0_isFullSet_11 : decode cX0_isFullSet 11 = .ok (.aload_n 0, 1) := by decide +kernel
theorem dX0_isFullSet_12 : decode cX0_isFullSet 12 = .ok (.getfield 21, 3) := by decide +kernel
theorem dX0_isFullSet_15 : decode cX0_isFullSet 15 = .ok (.iload_n 1, 1) := by decide +kernel
theorem dX0_isFullSet_16 : decode cX0_isFullSet 16 = .ok (.baload, 1) := by decide +kernel
theorem dX0_isFullSet_17 : decode cX0_isFullSet 17 = .ok (.iconst 1, 1) := by decide +kernel
theorem dX0_isFullSet_18 : decode cX0_isFullSet 18 = .ok (.if_icmp .ne 7, 3) := by decide +kernel
theorem dX0_isFullSet_21 : decode cX0_isFullSet 21 = .ok (.iconst 1, 1) := by decide +kernel
theorem dX0_isFullSet_22 : decode cX0_isFullSet 22 = .ok (.goto 4, 3) := by decide +kernel
theorem dX0_isFullSet_25 : decode cX0_isFullSet 25 = .ok (.iconst 0, 1) := by decide +kernel
theorem dX0_isFullSet_26 : decode cX0_isFullSet 26 = .ok (.ireturn, 1) := by decide +kernel
theorem dX0_fullSets_0 : decode cX0_fullSets 0 = .ok (.iconst 0, 1) := by decide +kernel
theorem dX0_fullSets_1 : decode cX0_fullSets 1 = .ok (.istore_n 1, 1) := by decide +kernel
theorem dX0_fullSets_2 : decode cX0_fullSets 2 = .ok (.iconst 0, 1) := by decide +kernel
theorem dX0_fullSets_3 : decode cX0_fullSets 3 = .ok (.istore_n 2, 1) := by decide +kernel
theorem dX0_fullSets_4 : decode cX0_fullSets 4 = .ok (.iload_n 2, 1) := by decide +kernel
theorem dX0_fullSets_5 : decode cX0_fullSets 5 = .ok (.aload_n 0, 1) := by decide +kernel
theorem dX0_fullSets_6 : decode cX0_fullSets 6 = .ok (.getfield 25, 3) := by decide +kernel
theorem dX0_fullSets_9 : decode cX0_fullSets 9 = .ok (.if_icmp .gt 20, 3) := by decide +kernel
theorem dX0_fullSets_12 : decode cX0_fullSets 12 = .ok (.aload_n 0, 1) := by decide +kernel
theorem dX0_fullSets_13 : decode cX0_fullSets 13 = .ok (.iload_n 2, 1) := by decide +kernel
theorem dX0_fullSets_14 : decode cX0_fullSets 14 = .ok (.invokevirtual 94, 3) := by decide +kernel
theorem dX0_fullSets_17 : decode cX0_fullSets 17 = .ok (.ifCond .eq 6, 3) := by decide +kernel
theorem dX0_fullSets_20 : decode cX0_fullSets 20 = .ok (.iinc 1 1, 3) := by decide +kernel
theorem dX0_fullSets_23 : decode cX0_fullSets 23 = .ok (.iinc 2 1, 3) := by decide +kernel
theorem dX0_fullSets_26 : decode cX0_fullSets 26 = .ok (.goto (-22), 3) := by decide +kernel
theorem dX0_fullSets_29 : decode cX0_fullSets 29 = .ok (.iload_n 1, 1) := by decide +kernel
theorem dX0_fullSets_30 : decode cX0_fullSets 30 = .ok (.ireturn, 1) := by decide +kernel
theorem dX0_fullSet_0 : decode cX0_fullSet 0 = .ok (.iload_n 1, 1) := by decide +kernel
theorem dX0_fullSet_1 : decode cX0_fullSet 1 = .ok (.istore_n 2, 1) := by decide +kernel
theorem dX0_fullSet_2 : decode cX0_fullSet 2 = .ok (.iconst 0, 1) := by decide +kernel
theorem dX0_fullSet_3 : decode cX0_fullSet 3 = .ok (.istore_n 3, 1) := by decide +kernel
theorem dX0_fullSet_4 : decode cX0_fullSet 4 = .ok (.iload_n 3, 1) := by decide +kernel
theorem dX0_fullSet_5 : decode cX0_fullSet 5 = .ok (.aload_n 0, 1) := by decide +kernel
theorem dX0_fullSet_6 : decode cX0_fullSet 6 = .ok (.getfield 25, 3) := by decide +kernel
theorem dX0_fullSet_9 : decode cX0_fullSet 9 = .ok (.if_icmp .gt 26, 3) := by decide +kernel
theorem dX0_fullSet_12 : decode cX0_fullSet 12 = .ok (.aload_n 0, 1) := by decide +kernel
theorem dX0_fullSet_13 : decode cX0_fullSet 13 = .ok (.iload_n 3, 1) := by decide +kernel
theorem dX0_fullSet_14 : decode cX0_fullSet 14 = .ok (.invokevirtual 94, 3) := by decide +kernel
theorem dX0_fullSet_17 : decode cX0_fullSet 17 = .ok (.ifCond .eq 12, 3) := by decide +kernel
theorem dX0_fullSet_20 : decode cX0_fullSet 20 = .ok (.iload_n 2, 1) := by decide +kernel
theorem dX0_fullSet_21 : decode cX0_fullSet 21 = .ok (.ifCond .ne 5, 3) := by decide +kernel
theorem dX0_fullSet_24 : decode cX0_fullSet 24 = .ok (.iload_n 3, 1) := by decide +kernel
theorem dX0_fullSet_25 : decode cX0_fullSet 25 = .ok (.ireturn, 1) := by decide +kernel
theorem dX0_fullSet_26 : decode cX0_fullSet 26 = .ok (.iinc 2 (-1), 3) := by decide +kernel
theorem dX0_fullSet_29 : decode cX0_fullSet 29 = .ok (.iinc 3 1, 3) := by decide +kernel
theorem dX0_fullSet_32 : decode cX0_fullSet 32 = .ok (.goto (-28), 3) := by decide +kernel
theorem dX0_fullSet_35 : decode cX0_fullSet 35 = .ok (.iconst (-1), 1) := by decide +kernel
theorem dX0_fullSet_36 : decode cX0_fullSet 36 = .ok (.ireturn, 1) := by decide +kernel
theorem dX0_firmness_0 : decode cX0_firmness 0 = .ok (.iconst 1, 1) := by decide +kernel
theorem dX0_firmness_1 : decode cX0_firmness 1 = .ok (.istore_n 2, 1) := by decide +kernel
theorem dX0_firmness_2 : decode cX0_firmness 2 = .ok (.iconst 0, 1) := by decide +kernel
theorem dX0_firmness_3 : decode cX0_firmness 3 = .ok (.istore_n 3, 1) := by decide +kernel
theorem dX0_firmness_4 : decode cX0_firmness 4 = .ok (.iconst 0, 1) := by decide +kernel
theorem dX0_firmness_5 : decode cX0_firmness 5 = .ok (.istore 4, 2) := by decide +kernel
theorem dX0_firmness_7 : decode cX0_firmness 7 = .ok (.iload 4, 2) := by decide +kernel
theorem dX0_firmness_9 : decode cX0_firmness 9 = .ok (.aload_n 0, 1) := by decide +kernel
theorem dX0_firmness_10 : decode cX0_firmness 10 = .ok (.getfield 25, 3) := by decide +kernel
theorem dX0_firmness_13 : decode cX0_firmness 13 = .ok (.if_icmp .gt 44, 3) := by decide +kernel
theorem dX0_firmness_16 : decode cX0_firmness 16 = .ok (.aload_n 0, 1) := by decide +kernel
theorem dX0_firmness_17 : decode cX0_firmness 17 = .ok (.iload 4, 2) := by decide +kernel
theorem dX0_firmness_19 : decode cX0_firmness 19 = .ok (.invokevirtual 94, 3) := by decide +kernel
theorem dX0_firmness_22 : decode cX0_firmness 22 = .ok (.ifCond .eq 29, 3) := by decide +kernel
theorem dX0_firmness_25 : decode cX0_firmness 25 = .ok (.iload 4, 2) := by decide +kernel
theorem dX0_firmness_27 : decode cX0_firmness 27 = .ok (.iload_n 1, 1) := by decide +kernel
theorem dX0_firmness_28 : decode cX0_firmness 28 = .ok (.ishr, 1) := by decide +kernel
theorem dX0_firmness_29 : decode cX0_firmness 29 = .ok (.iconst 1, 1) := by decide +kernel
theorem dX0_firmness_30 : decode cX0_firmness 30 = .ok (.iand, 1) := by decide +kernel
theorem dX0_firmness_31 : decode cX0_firmness 31 = .ok (.ifCond .eq 7, 3) := by decide +kernel
theorem dX0_firmness_34 : decode cX0_firmness 34 = .ok (.iconst 1, 1) := by decide +kernel
theorem dX0_firmness_35 : decode cX0_firmness 35 = .ok (.goto 4, 3) := by decide +kernel
theorem dX0_firmness_38 : decode cX0_firmness 38 = .ok (.iconst 0, 1) := by decide +kernel
theorem dX0_firmness_39 : decode cX0_firmness 39 = .ok (.istore 5, 2) := by decide +kernel
theorem dX0_firmness_41 : decode cX0_firmness 41 = .ok (.iload_n 2, 1) := by decide +kernel
theorem dX0_firmness_42 : decode cX0_firmness 42 = .ok (.iload 5, 2) := by decide +kernel
theorem dX0_firmness_44 : decode cX0_firmness 44 = .ok (.iand, 1) := by decide +kernel
theorem dX0_firmness_45 : decode cX0_firmness 45 = .ok (.istore_n 2, 1) := by decide +kernel
theorem dX0_firmness_46 : decode cX0_firmness 46 = .ok (.iload_n 3, 1) := by decide +kernel
theorem dX0_firmness_47 : decode cX0_firmness 47 = .ok (.iload 5, 2) := by decide +kernel
theorem dX0_firmness_49 : decode cX0_firmness 49 = .ok (.ior, 1) := by decide +kernel
theorem dX0_firmness_50 : decode cX0_firmness 50 = .ok (.istore_n 3, 1) := by decide +kernel
theorem dX0_firmness_51 : decode cX0_firmness 51 = .ok (.iinc 4 1, 3) := by decide +kernel
theorem dX0_firmness_54 : decode cX0_firmness 54 = .ok (.goto (-47), 3) := by decide +kernel
theorem dX0_firmness_57 : decode cX0_firmness 57 = .ok (.iload_n 3, 1) := by decide +kernel
theorem dX0_firmness_58 : decode cX0_firmness 58 = .ok (.ifCond .eq 15, 3) := by decide +kernel
theorem dX0_firmness_61 : decode cX0_firmness 61 = .ok (.iload_n 2, 1) := by decide +kernel
theorem dX0_firmness_62 : decode cX0_firmness 62 = .ok (.ifCond .eq 7, 3) := by decide +kernel
theorem dX0_firmness_65 : decode cX0_firmness 65 = .ok (.iconst 2, 1) := by decide +kernel
theorem dX0_firmness_66 : decode cX0_firmness 66 = .ok (.goto 8, 3) := by decide +kernel
theorem dX0_firmness_69 : decode cX0_firmness 69 = .ok (.iconst 1, 1) := by decide +kernel
theorem dX0_firmness_70 : decode cX0_firmness 70 = .ok (.goto 4, 3) := by decide +kernel
theorem dX0_firmness_73 : decode cX0_firmness 73 = .ok (.iconst 0, 1) := by decide +kernel
theorem dX0_firmness_74 : decode cX0_firmness 74 = .ok (.ireturn, 1) := by decide +kernel
theorem dX0_onRings_0 : decode cX0_onRings 0 = .ok (.aload_n 0, 1) := by decide +kernel
theorem dX0_onRings_1 : decode cX0_onRings 1 = .ok (.getfield 9, 3) := by decide +kernel
theorem dX0_onRings_4 : decode cX0_onRings 4 = .ok (.iconst 0, 1) := by decide +kernel
theorem dX0_onRings_5 : decode cX0_onRings 5 = .ok (.aload_n 0, 1) := by decide +kernel
theorem dX0_onRings_6 : decode cX0_onRings 6 = .ok (.getfield 18, 3) := by decide +kernel
theorem dX0_onRings_9 : decode cX0_onRings 9 = .ok (.iconst 0, 1) := by decide +kernel
theorem dX0_onRings_10 : decode cX0_onRings 10 = .ok (.bipush 10, 2) := by decide +kernel
theorem dX0_onRings_12 : decode cX0_onRings 12 = .ok (.invokestatic 97, 3) := by decide +kernel
theorem dX0_onRings_15 : decode cX0_onRings 15 = .ok (.iconst 0, 1) := by decide +kernel
theorem dX0_onRings_16 : decode cX0_onRings 16 = .ok (.istore_n 1, 1) := by decide +kernel
theorem dX0_onRings_17 : decode cX0_onRings 17 = .ok (.iload_n 1, 1) := by decide +kernel
theorem dX0_onRings_18 : decode cX0_onRings 18 = .ok (.aload_n 0, 1) := by decide +kernel
theorem dX0_onRings_19 : decode cX0_onRings 19 = .ok (.getfield 29, 3) := by decide +kernel
theorem dX0_onRings_22 : decode cX0_onRings 22 = .ok (.getfield 39, 3) := by decide +kernel
theorem dX0_onRings_25 : decode cX0_onRings 25 = .ok (.if_icmp .ge 56, 3) := by decide +kernel
theorem dX0_onRings_28 : decode cX0_onRings 28 = .ok (.iconst 0, 1) := by decide +kernel
theorem dX0_onRings_29 : decode cX0_onRings 29 = .ok (.istore_n 2, 1) := by decide +kernel
theorem dX0_onRings_30 : decode cX0_onRings 30 = .ok (.iload_n 2, 1) := by decide +kernel
theorem dX0_onRings_31 : decode cX0_onRings 31 = .ok (.aload_n 0, 1) := by decide +kernel
theorem dX0_onRings_32 : decode cX0_onRings 32 = .ok (.getfield 29, 3) := by decide +kernel
theorem dX0_onRings_35 : decode cX0_onRings 35 = .ok (.getfield 39, 3) := by decide +kernel
theorem dX0_onRings_38 : decode cX0_onRings 38 = .ok (.if_icmp .ge 37, 3) := by decide +kernel
theorem dX0_onRings_41 : decode cX0_onRings 41 = .ok (.aload_n 0, 1) := by decide +kernel
theorem dX0_onRings_42 : decode cX0_onRings 42 = .ok (.getfield 18, 3) := by decide +kernel
theorem dX0_onRings_45 : decode cX0_onRings 45 = .ok (.iload_n 2, 1) := by decide +kernel
theorem dX0_onRings_46 : decode cX0_onRings 46 = .ok (.iaload, 1) := by decide +kernel
theorem dX0_onRings_47 : decode cX0_onRings 47 = .ok (.iload_n 1, 1) := by decide +kernel
theorem dX0_onRings_48 : decode cX0_onRings 48 = .ok (.ishr, 1) := by decide +kernel
theorem dX0_onRings_49 : decode cX0_onRings 49 = .ok (.iconst 1, 1) := by decide +kernel
theorem dX0_onRings_50 : decode cX0_onRings 50 = .ok (.iand, 1) := by decide +kernel
theorem dX0_onRings_51 : decode cX0_onRings 51 = .ok (.ifCond .eq 18, 3) := by decide +kernel
theorem dX0_onRings_54 : decode cX0_onRings 54 = .ok (.aload_n 0, 1) := by decide +kernel
theorem dX0_onRings_55 : decode cX0_onRings 55 = .ok (.getfield 18, 3) := by decide +kernel
theorem dX0_onRings_58 : decode cX0_onRings 58 = .ok (.iload_n 2, 1) := by decide +kernel
theorem dX0_onRings_59 : decode cX0_onRings 59 = .ok (.dup2, 1) := by decide +kernel
theorem dX0_onRings_60 : decode cX0_onRings 60 = .ok (.iaload, 1) := by decide +kernel
theorem dX0_onRings_61 : decode cX0_onRings 61 = .ok (.aload_n 0, 1) := by decide +kernel
theorem dX0_onRings_62 : decode cX0_onRings 62 = .ok (.getfield 18, 3) := by decide +kernel
theorem dX0_onRings_65 : decode cX0_onRings 65 = .ok (.iload_n 1, 1) := by decide +kernel
theorem dX0_onRings_66 : decode cX0_onRings 66 = .ok (.iaload, 1) := by decide +kernel
theorem dX0_onRings_67 : decode cX0_onRings 67 = .ok (.ior, 1) := by decide +kernel
theorem dX0_onRings_68 : decode cX0_onRings 68 = .ok (.iastore, 1) := by decide +kernel
theorem dX0_onRings_69 : decode cX0_onRings 69 = .ok (.iinc 2 1, 3) := by decide +kernel
theorem dX0_onRings_72 : decode cX0_onRings 72 = .ok (.goto (-42), 3) := by decide +kernel
theorem dX0_onRings_75 : decode cX0_onRings 75 = .ok (.iinc 1 1, 3) := by decide +kernel
theorem dX0_onRings_78 : decode cX0_onRings 78 = .ok (.goto (-61), 3) := by decide +kernel
theorem dX0_onRings_81 : decode cX0_onRings 81 = .ok (.iconst 0, 1) := by decide +kernel
theorem dX0_onRings_82 : decode cX0_onRings 82 = .ok (.istore_n 1, 1) := by decide +kernel
theorem dX0_onRings_83 : decode cX0_onRings 83 = .ok (.iconst 0, 1) := by decide +kernel
theorem dX0_onRings_84 : decode cX0_onRings 84 = .ok (.istore_n 2, 1) := by decide +kernel
theorem dX0_onRings_85 : decode cX0_onRings 85 = .ok (.iload_n 2, 1) := by decide +kernel
theorem dX0_onRings_86 : decode cX0_onRings 86 = .ok (.aload_n 0, 1) := by decide +kernel
theorem dX0_onRings_87 : decode cX0_onRings 87 = .ok (.getfield 29, 3) := by decide +kernel
theorem dX0_onRings_90 : decode cX0_onRings 90 = .ok (.getfield 39, 3) := by decide +kernel
theorem dX0_onRings_93 : decode cX0_onRings 93 = .ok (.if_icmp .ge 22, 3) := by decide +kernel
theorem dX0_onRings_96 : decode cX0_onRings 96 = .ok (.iload_n 1, 1) := by decide +kernel
theorem dX0_onRings_97 : decode cX0_onRings 97 = .ok (.aload_n 0, 1) := by decide +kernel
theorem dX0_onRings_98 : decode cX0_onRings 98 = .ok (.getfield 18, 3) := by decide +kernel
theorem dX0_onRings_101 : decode cX0_onRings 101 = .ok (.iload_n 2, 1) := by decide +kernel
theorem dX0_onRings_102 : decode cX0_onRings 102 = .ok (.iaload, 1) := by decide +kernel
theorem dX0_onRings_103 : decode cX0_onRings 103 = .ok (.iconst 1, 1) := by decide +kernel
theorem dX0_onRings_104 : decode cX0_onRings 104 = .ok (.iload_n 2, 1) := by decide +kernel
theorem dX0_onRings_105 : decode cX0_onRings 105 = .ok (.ishl, 1) := by decide +kernel
theorem dX0_onRings_106 : decode cX0_onRings 106 = .ok (.iand, 1) := by decide +kernel
theorem dX0_onRings_107 : decode cX0_onRings 107 = .ok (.ior, 1) := by decide +kernel
theorem dX0_onRings_108 : decode cX0_onRings 108 = .ok (.istore_n 1, 1) := by decide +kernel
theorem dX0_onRings_109 : decode cX0_onRings 109 = .ok (.iinc 2 1, 3) := by decide +kernel
theorem dX0_onRings_112 : decode cX0_onRings 112 = .ok (.goto (-27), 3) := by decide +kernel
theorem dX0_onRings_115 : decode cX0_onRings 115 = .ok (.iload_n 1, 1) := by decide +kernel
theorem dX0_onRings_116 : decode cX0_onRings 116 = .ok (.ireturn, 1) := by decide +kernel
theorem dX1_init_0 : decode cX1_init 0 = .ok (.aload_n 0, 1) := by decide +kernel
theorem dX1_init_1 : decode cX1_init 1 = .ok (.invokespecial 3, 3) := by decide +kernel
theorem dX1_init_4 : decode cX1_init 4 = .ok (.aload_n 0, 1) := by decide +kernel
theorem dX1_init_5 : decode cX1_init 5 = .ok (.iconst 0, 1) := by decide +kernel
theorem dX1_init_6 : decode cX1_init 6 = .ok (.putfield 9, 3) := by decide +kernel
theorem dX1_init_9 : decode cX1_init 9 = .ok (.aload_n 0, 1) := by decide +kernel
theorem dX1_init_10 : decode cX1_init 10 = .ok (.iconst 0, 1) := by decide +kernel
theorem dX1_init_11 : decode cX1_init 11 = .ok (.putfield 15, 3) := by decide +kernel
theorem dX1_init_14 : decode cX1_init 14 = .ok (.aload_n 0, 1) := by decide +kernel
theorem dX1_init_15 : decode cX1_init 15 = .ok (.iconst 0, 1) := by decide +kernel
theorem dX1_init_16 : decode cX1_init 16 = .ok (.putfield 18, 3) := by decide +kernel
theorem dX1_init_19 : decode cX1_init 19 = .ok (.aload_n 0, 1) := by decide +kernel
theorem dX1_init_20 : decode cX1_init 20 = .ok (.aload_n 1, 1) := by decide +kernel
theorem dX1_init_21 : decode cX1_init 21 = .ok (.putfield 21, 3) := by decide +kernel
theorem dX1_init_24 : decode cX1_init 24 = .ok (.return_, 1) := by decide +kernel
theorem dX1_begin_0 : decode cX1_begin 0 = .ok (.aload_n 0, 1) := by decide +kernel
theorem dX1_begin_1 : decode cX1_begin 1 = .ok (.iconst 0, 1) := by decide +kernel
theorem dX1_begin_2 : decode cX1_begin 2 = .ok (.putfield 9, 3) := by decide +kernel
theorem dX1_begin_5 : decode cX1_begin 5 = .ok (.aload_n 0, 1) := by decide +kernel
theorem dX1_begin_6 : decode cX1_begin 6 = .ok (.iconst 0, 1) := by decide +kernel
theorem dX1_begin_7 : decode cX1_begin 7 = .ok (.putfield 15, 3) := by decide +kernel
theorem dX1_begin_10 : decode cX1_begin 10 = .ok (.aload_n 0, 1) := by decide +kernel
theorem dX1_begin_11 : decode cX1_begin 11 = .ok (.iconst 0, 1) := by decide +kernel
theorem dX1_begin_12 : decode cX1_begin 12 = .ok (.putfield 18, 3) := by decide +kernel
theorem dX1_begin_15 : decode cX1_begin 15 = .ok (.return_, 1) := by decide +kernel
theorem dX1_byNumbers_0 : decode cX1_byNumbers 0 = .ok (.aload_n 0, 1) := by decide +kernel
theorem dX1_byNumbers_1 : decode cX1_byNumbers 1 = .ok (.invokevirtual 25, 3) := by decide +kernel
theorem dX1_byNumbers_4 : decode cX1_byNumbers 4 = .ok (.iconst 0, 1) := by decide +kernel
theorem dX1_byNumbers_5 : decode cX1_byNumbers 5 = .ok (.istore_n 3, 1) := by decide +kernel
theorem dX1_byNumbers_6 : decode cX1_byNumbers 6 = .ok (.iload_n 3, 1) := by decide +kernel
theorem dX1_byNumbers_7 : decode cX1_byNumbers 7 = .ok (.aload_n 0, 1) := by decide +kernel
theorem dX1_byNumbers_8 : decode cX1_byNumbers 8 = .ok (.getfield 21, 3) := by decide +kernel
theorem dX1_byNumbers_11 : decode cX1_byNumbers 11 = .ok (.getfield 28, 3) := by decide +kernel
theorem dX1_byNumbers_14 : decode cX1_byNumbers 14 = .ok (.if_icmp .ge 23, 3) := by decide +kernel
theorem dX1_byNumbers_17 : decode cX1_byNumbers 17 = .ok (.iload_n 2, 1) := by decide +kernel
theorem dX1_byNumbers_18 : decode cX1_byNumbers 18 = .ok (.iload_n 3, 1) := by decide +kernel
theorem dX1_byNumbers_19 : decode cX1_byNumbers 19 = .ok (.ishr, 1) := by decide +kernel
theorem dX1_byNumbers_20 : decode cX1_byNumbers 20 = .ok (.iconst 1, 1) := by decide +kernel
theorem dX1_byNumbers_21 : decode cX1_byNumbers 21 = .ok (.iand, 1) := by decide +kernel
theorem dX1_byNumbers_22 : decode cX1_byNumbers 22 = .ok (.ifCond .eq 9, 3) := by decide +kernel
theorem dX1_byNumbers_25 : decode cX1_byNumbers 25 = .ok (.aload_n 0, 1) := by decide +kernel
theorem dX1_byNumbers_26 : decode cX1_byNumbers 26 = .ok (.aload_n 1, 1) := by decide +kernel
theorem dX1_byNumbers_27 : decode cX1_byNumbers 27 = .ok (.iload_n 3, 1) := by decide +kernel
theorem dX1_byNumbers_28 : decode cX1_byNumbers 28 = .ok (.invokevirtual 33, 3) := by decide +kernel
theorem dX1_byNumbers_31 : decode cX1_byNumbers 31 = .ok (.iinc 3 1, 3) := by decide +kernel
theorem dX1_byNumbers_34 : decode cX1_byNumbers 34 = .ok (.goto (-28), 3) := by decide +kernel
theorem dX1_byNumbers_37 : decode cX1_byNumbers 37 = .ok (.return_, 1) := by decide +kernel
theorem dX1_outcome_0 : decode cX1_outcome 0 = .ok (.iload_n 1, 1) := by decide +kernel
theorem dX1_outcome_1 : decode cX1_outcome 1 = .ok (.ifCond .ne 8, 3) := by decide +kernel
theorem dX1_outcome_4 : decode cX1_outcome 4 = .ok (.aload_n 0, 1) := by decide +kernel
theorem dX1_outcome_5 : decode cX1_outcome 5 = .ok (.getfield 9, 3) := by decide +kernel
theorem dX1_outcome_8 : decode cX1_outcome 8 = .ok (.ireturn, 1) := by decide +kernel
theorem dX1_outcome_9 : decode cX1_outcome 9 = .ok (.iload_n 1, 1) := by decide +kernel
theorem dX1_outcome_10 : decode cX1_outcome 10 = .ok (.iconst 1, 1) := by decide +kernel
theorem dX1_outcome_11 : decode cX1_outcome 11 = .ok (.if_icmp .ne 10, 3) := by decide +kernel
theorem dX1_outcome_14 : decode cX1_outcome 14 = .ok (.aload_n 0, 1) := by decide +kernel
theorem dX1_outcome_15 : decode cX1_outcome 15 = .ok (.getfield 15, 3) := by decide +kernel
theorem dX1_outcome_18 : decode cX1_outcome 18 = .ok (.goto 7, 3) := by decide +kernel
theorem dX1_outcome_21 : decode cX1_outcome 21 = .ok (.aload_n 0, 1) := by decide +kernel
theorem dX1_outcome_22 : decode cX1_outcome 22 = .ok (.getfield 18, 3) := by decide +kernel
theorem dX1_outcome_25 : decode cX1_outcome 25 = .ok (.ireturn, 1) := by decide +kernel
theorem dX1_onHead_0 : decode cX1_onHead 0 = .ok (.iconst 0, 1) := by decide +kernel
theorem dX1_onHead_1 : decode cX1_onHead 1 = .ok (.istore_n 2, 1) := by decide +kernel
theorem dX1_onHead_2 : decode cX1_onHead 2 = .ok (.iconst 0, 1) := by decide +kernel
theorem dX1_onHead_3 : decode cX1_onHead 3 = .ok (.istore_n 3, 1) := by decide +kernel
theorem dX1_onHead_4 : decode cX1_onHead 4 = .ok (.iload_n 3, 1) := by decide +kernel
theorem dX1_onHead_5 : decode cX1_onHead 5 = .ok (.aload_n 0, 1) := by decide +kernel
theorem dX1_onHead_6 : decode cX1_onHead 6 = .ok (.getfield 21, 3) := by decide +kernel
theorem dX1_onHead_9 : decode cX1_onHead 9 = .ok (.getfield 28, 3) := by decide +kernel
theorem dX1_onHead_12 : decode cX1_onHead 12 = .ok (.if_icmp .ge 60, 3) := by decide +kernel
theorem dX1_onHead_15 : decode cX1_onHead 15 = .ok (.aload_n 0, 1) := by decide +kernel
theorem dX1_onHead_16 : decode cX1_onHead 16 = .ok (.getfield 21, 3) := by decide +kernel
theorem dX1_onHead_19 : decode cX1_onHead 19 = .ok (.getfield 37, 3) := by decide +kernel
theorem dX1_onHead_22 : decode cX1_onHead 22 = .ok (.iload_n 3, 1) := by decide +kernel
theorem dX1_onHead_23 : decode cX1_onHead 23 = .ok (.iaload, 1) := by decide +kernel
theorem dX1_onHead_24 : decode cX1_onHead 24 = .ok (.ifCond .ne 42, 3) := by decide +kernel
theorem dX1_onHead_27 : decode cX1_onHead 27 = .ok (.aload_n 0, 1) := by decide +kernel
theorem dX1_onHead_28 : decode cX1_onHead 28 = .ok (.getfield 15, 3) := by decide +kernel
theorem dX1_onHead_31 : decode cX1_onHead 31 = .ok (.iload_n 3, 1) := by decide +kernel
theorem dX1_onHead_32 : decode cX1_onHead 32 = .ok (.ishr, 1) := by decide +kernel
theorem dX1_onHead_33 : decode cX1_onHead 33 = .ok (.iconst 1, 1) := by decide +kernel
theorem dX1_onHead_34 : decode cX1_onHead 34 = .ok (.iand, 1) := by decide +kernel
theorem dX1_onHead_35 : decode cX1_onHead 35 = .ok (.ifCond .eq 31, 3) := by decide +kernel
theorem dX1_onHead_38 : decode cX1_onHead 38 = .ok (.aload_n 0, 1) := by decide +kernel
theorem dX1_onHead_39 : decode cX1_onHead 39 = .ok (.getfield 21, 3) := by decide +kernel
theorem dX1_onHead_42 : decode cX1_onHead 42 = .ok (.getfield 41, 3) := by decide +kernel
theorem dX1_onHead_45 : decode cX1_onHead 45 = .ok (.iload_n 3, 1) := by decide +kernel
theorem dX1_onHead_46 : decode cX1_onHead 46 = .ok (.iaload, 1) := by decide +kernel
theorem dX1_onHead_47 : decode cX1_onHead 47 = .ok (.iload_n 1, 1) := by decide +kernel
theorem dX1_onHead_48 : decode cX1_onHead 48 = .ok (.ishr, 1) := by decide +kernel
theorem dX1_onHead_49 : decode cX1_onHead 49 = .ok (.iconst 1, 1) := by decide +kernel
theorem dX1_onHead_50 : decode cX1_onHead 50 = .ok (.iand, 1) := by decide +kernel
theorem dX1_onHead_51 : decode cX1_onHead 51 = .ok (.ifCond .eq 15, 3) := by decide +kernel
theorem dX1_onHead_54 : decode cX1_onHead 54 = .ok (.iload_n 2, 1) := by decide +kernel
theorem dX1_onHead_55 : decode cX1_onHead 55 = .ok (.aload_n 0, 1) := by decide +kernel
theorem dX1_onHead_56 : decode cX1_onHead 56 = .ok (.getfield 21, 3) := by decide +kernel
theorem dX1_onHead_59 : decode cX1_onHead 59 = .ok (.getfield 44, 3) := by decide +kernel
theorem dX1_onHead_62 : decode cX1_onHead 62 = .ok (.iload_n 3, 1) := by decide +kernel
theorem dX1_onHead_63 : decode cX1_onHead 63 = .ok (.iaload, 1) := by decide +kernel
theorem dX1_onHead_64 : decode cX1_onHead 64 = .ok (.iadd, 1) := by decide +kernel
theorem dX1_onHead_65 : decode cX1_onHead 65 = .ok (.istore_n 2, 1) := by decide +kernel
theorem dX1_onHead_66 : decode cX1_onHead 66 = .ok (.iinc 3 1, 3) := by decide +kernel
theorem dX1_onHead_69 : decode cX1_onHead 69 = .ok (.goto (-65), 3) := by decide +kernel
theorem dX1_onHead_72 : decode cX1_onHead 72 = .ok (.iload_n 2, 1) := by decide +kernel
theorem dX1_onHead_73 : decode cX1_onHead 73 = .ok (.ireturn, 1) := by decide +kernel
theorem dX1_hangingOn_0 : decode cX1_hangingOn 0 = .ok (.aload_n 0, 1) := by decide +kernel
theorem dX1_hangingOn_1 : decode cX1_hangingOn 1 = .ok (.aload_n 1, 1) := by decide +kernel
theorem dX1_hangingOn_2 : decode cX1_hangingOn 2 = .ok (.iload_n 2, 1) := by decide +kernel
theorem dX1_hangingOn_3 : decode cX1_hangingOn 3 = .ok (.invokevirtual 47, 3) := by decide +kernel
theorem dX1_hangingOn_6 : decode cX1_hangingOn 6 = .ok (.aload_n 0, 1) := by decide +kernel
theorem dX1_hangingOn_7 : decode cX1_hangingOn 7 = .ok (.getfield 9, 3) := by decide +kernel
theorem dX1_hangingOn_10 : decode cX1_hangingOn 10 = .ok (.istore 4, 2) := by decide +kernel
theorem dX1_hangingOn_12 : decode cX1_hangingOn 12 = .ok (.aload_n 0, 1) := by decide +kernel
theorem dX1_hangingOn_13 : decode cX1_hangingOn 13 = .ok (.aload_n 1, 1) := by decide +kernel
theorem dX1_hangingOn_14 : decode cX1_hangingOn 14 = .ok (.iload_n 2, 1) := by decide +kernel
theorem dX1_hangingOn_15 : decode cX1_hangingOn 15 = .ok (.iconst 1, 1) := by decide +kernel
theorem dX1_hangingOn_16 : decode cX1_hangingOn 16 = .ok (.iload_n 3, 1) := by decide +kernel
theorem dX1_hangingOn_17 : decode cX1_hangingOn 17 = .ok (.ishl, 1) := by decide +kernel
theorem dX1_hangingOn_18 : decode cX1_hangingOn 18 = .ok (.iconst (-1), 1) := by decide +kernel
theorem dX1_hangingOn_19 : decode cX1_hangingOn 19 = .ok (.ixor, 1) := by decide +kernel
theorem dX1_hangingOn_20 : decode cX1_hangingOn 20 = .ok (.iand, 1) := by decide +kernel
theorem dX1_hangingOn_21 : decode cX1_hangingOn 21 = .ok (.invokevirtual 47, 3) := by decide +kernel
theorem dX1_hangingOn_24 : decode cX1_hangingOn 24 = .ok (.iload 4, 2) := by decide +kernel
theorem dX1_hangingOn_26 : decode cX1_hangingOn 26 = .ok (.aload_n 0, 1) := by decide +kernel
theorem dX1_hangingOn_27 : decode cX1_hangingOn 27 = .ok (.getfield 9, 3) := by decide +kernel
theorem dX1_hangingOn_30 : decode cX1_hangingOn 30 = .ok (.ixor, 1) := by decide +kernel
theorem dX1_hangingOn_31 : decode cX1_hangingOn 31 = .ok (.iconst 1, 1) := by decide +kernel
theorem dX1_hangingOn_32 : decode cX1_hangingOn 32 = .ok (.iload_n 3, 1) := by decide +kernel
theorem dX1_hangingOn_33 : decode cX1_hangingOn 33 = .ok (.ishl, 1) := by decide +kernel
theorem dX1_hangingOn_34 : decode cX1_hangingOn 34 = .ok (.iconst (-1), 1) := by decide +kernel
theorem dX1_hangingOn_35 : decode cX1_hangingOn 35 = .ok (.ixor, 1) := by decide +kernel
theorem dX1_hangingOn_36 : decode cX1_hangingOn 36 = .ok (.iand, 1) := by decide +kernel
theorem dX1_hangingOn_37 : decode cX1_hangingOn 37 = .ok (.invokestatic 50, 3) := by decide +kernel
theorem dX1_hangingOn_40 : decode cX1_hangingOn 40 = .ok (.ireturn, 1) := by decide +kernel
theorem dX1_ordersWith_0 : decode cX1_ordersWith 0 = .ok (.iload_n 2, 1) := by decide +kernel
theorem dX1_ordersWith_1 : decode cX1_ordersWith 1 = .ok (.ifCond .ne 5, 3) := by decide +kernel
theorem dX1_ordersWith_4 : decode cX1_ordersWith 4 = .ok (.iconst 1, 1) := by decide +kernel
theorem dX1_ordersWith_5 : decode cX1_ordersWith 5 = .ok (.ireturn, 1) := by decide +kernel
theorem dX1_ordersWith_6 : decode cX1_ordersWith 6 = .ok (.iload 4, 2) := by decide +kernel
theorem dX1_ordersWith_8 : decode cX1_ordersWith 8 = .ok (.bipush 7, 2) := by decide +kernel
theorem dX1_ordersWith_10 : decode cX1_ordersWith 10 = .ok (.if_icmp .lt 5, 3) := by decide +kernel
theorem dX1_ordersWith_13 : decode cX1_ordersWith 13 = .ok (.iconst 0, 1) := by decide +kernel
theorem dX1_ordersWith_14 : decode cX1_ordersWith 14 = .ok (.ireturn, 1) := by decide +kernel
theorem dX1_ordersWith_15 : decode cX1_ordersWith 15 = .ok (.aload_n 0, 1) := by decide +kernel
theorem dX1_ordersWith_16 : decode cX1_ordersWith 16 = .ok (.getfield 9, 3) := by decide +kernel
theorem dX1_ordersWith_19 : decode cX1_ordersWith 19 = .ok (.istore 5, 2) := by decide +kernel
theorem dX1_ordersWith_21 : decode cX1_ordersWith 21 = .ok (.aload_n 0, 1) := by decide +kernel
theorem dX1_ordersWith_22 : decode cX1_ordersWith 22 = .ok (.getfield 15, 3) := by decide +kernel
theorem dX1_ordersWith_25 : decode cX1_ordersWith 25 = .ok (.istore 6, 2) := by decide +kernel
theorem dX1_ordersWith_27 : decode cX1_ordersWith 27 = .ok (.aload_n 0, 1) := by decide +kernel
theorem dX1_ordersWith_28 : decode cX1_ordersWith 28 = .ok (.getfield 18, 3) := by decide +kernel
theorem dX1_ordersWith_31 : decode cX1_ordersWith 31 = .ok (.istore 7, 2) := by decide +kernel
theorem dX1_ordersWith_33 : decode cX1_ordersWith 33 = .ok (.iconst 0, 1) := by decide +kernel
theorem dX1_ordersWith_34 : decode cX1_ordersWith 34 = .ok (.istore 8, 2) := by decide +kernel
theorem dX1_ordersWith_36 : decode cX1_ordersWith 36 = .ok (.iconst 0, 1) := by decide +kernel
theorem dX1_ordersWith_37 : decode cX1_ordersWith 37 = .ok (.istore 9, 2) := by decide +kernel
theorem dX1_ordersWith_39 : decode cX1_ordersWith 39 = .ok (.iload 9, 2) := by decide +kernel
theorem dX1_ordersWith_41 : decode cX1_ordersWith 41 = .ok (.aload_n 0, 1) := by decide +kernel
theorem dX1_ordersWith_42 : decode cX1_ordersWith 42 = .ok (.getfield 21, 3) := by decide +kernel
theorem dX1_ordersWith_45 : decode cX1_ordersWith 45 = .ok (.getfield 28, 3) := by decide +kernel
theorem dX1_ordersWith_48 : decode cX1_ordersWith 48 = .ok (.if_icmp .ge 84, 3) := by decide +kernel
theorem dX1_ordersWith_51 : decode cX1_ordersWith 51 = .ok (.iload_n 2, 1) := by decide +kernel
theorem dX1_ordersWith_52 : decode cX1_ordersWith 52 = .ok (.iload 9, 2) := by decide +kernel
theorem dX1_ordersWith_54 : decode cX1_ordersWith 54 = .ok (.ishr, 1) := by decide +kernel
theorem dX1_ordersWith_55 : decode cX1_ordersWith 55 = .ok (.iconst 1, 1) := by decide +kernel
theorem dX1_ordersWith_56 : decode cX1_ordersWith 56 = .ok (.iand, 1) := by decide +kernel
theorem dX1_ordersWith_57 : decode cX1_ordersWith 57 = .ok (.ifCond .eq 69, 3) := by decide +kernel
theorem dX1_ordersWith_60 : decode cX1_ordersWith 60 = .ok (.aload_n 0, 1) := by decide +kernel
theorem dX1_ordersWith_61 : decode cX1_ordersWith 61 = .ok (.aload_n 1, 1) := by decide +kernel
theorem dX1_ordersWith_62 : decode cX1_ordersWith 62 = .ok (.iload 9, 2) := by decide +kernel
theorem dX1_ordersWith_64 : decode cX1_ordersWith 64 = .ok (.invokevirtual 33, 3) := by decide +kernel
theorem dX1_ordersWith_67 : decode cX1_ordersWith 67 = .ok (.iload_n 2, 1) := by decide +kernel
theorem dX1_ordersWith_68 : decode cX1_ordersWith 68 = .ok (.iconst 1, 1) := by decide +kernel
theorem dX1_ordersWith_69 : decode cX1_ordersWith 69 = .ok (.iload 9, 2) := by decide +kernel
theorem dX1_ordersWith_71 : decode cX1_ordersWith 71 = .ok (.ishl, 1) := by decide +kernel
theorem dX1_ordersWith_72 : decode cX1_ordersWith 72 = .ok (.iconst (-1), 1) := by decide +kernel
theorem dX1_ordersWith_73 : decode cX1_ordersWith 73 = .ok (.ixor, 1) := by decide +kernel
theorem dX1_ordersWith_74 : decode cX1_ordersWith 74 = .ok (.iand, 1) := by decide +kernel
theorem dX1_ordersWith_75 : decode cX1_ordersWith 75 = .ok (.istore 10, 2) := by decide +kernel
theorem dX1_ordersWith_77 : decode cX1_ordersWith 77 = .ok (.aload_n 0, 1) := by decide +kernel
theorem dX1_ordersWith_78 : decode cX1_ordersWith 78 = .ok (.getfield 9, 3) := by decide +kernel
theorem dX1_ordersWith_81 : decode cX1_ordersWith 81 = .ok (.iload 10, 2) := by decide +kernel
theorem dX1_ordersWith_83 : decode cX1_ordersWith 83 = .ok (.ior, 1) := by decide +kernel
theorem dX1_ordersWith_84 : decode cX1_ordersWith 84 = .ok (.iload_n 3, 1) := by decide +kernel
theorem dX1_ordersWith_85 : decode cX1_ordersWith 85 = .ok (.ishr, 1) := by decide +kernel
theorem dX1_ordersWith_86 : decode cX1_ordersWith 86 = .ok (.iconst 1, 1) := by decide +kernel
theorem dX1_ordersWith_87 : decode cX1_ordersWith 87 = .ok (.iand, 1) := by decide +kernel
theorem dX1_ordersWith_88 : decode cX1_ordersWith 88 = .ok (.ifCond .eq 20, 3) := by decide +kernel
theorem dX1_ordersWith_91 : decode cX1_ordersWith 91 = .ok (.iload 8, 2) := by decide +kernel
theorem dX1_ordersWith_93 : decode cX1_ordersWith 93 = .ok (.aload_n 0, 1) := by decide +kernel
theorem dX1_ordersWith_94 : decode cX1_ordersWith 94 = .ok (.aload_n 1, 1) := by decide +kernel
theorem dX1_ordersWith_95 : decode cX1_ordersWith 95 = .ok (.iload 10, 2) := by decide +kernel
theorem dX1_ordersWith_97 : decode cX1_ordersWith 97 = .ok (.iload_n 3, 1) := by decide +kernel
theorem dX1_ordersWith_98 : decode cX1_ordersWith 98 = .ok (.iload 4, 2) := by decide +kernel
theorem dX1_ordersWith_100 : decode cX1_ordersWith 100 = .ok (.iconst 1, 1) := by decide +kernel
theorem dX1_ordersWith_101 : decode cX1_ordersWith 101 = .ok (.iadd, 1) := by decide +kernel
theorem dX1_ordersWith_102 : decode cX1_ordersWith 102 = .ok (.invokevirtual 56, 3) := by decide +kernel
theorem dX1_ordersWith_105 : decode cX1_ordersWith 105 = .ok (.iadd, 1) := by decide +kernel
theorem dX1_ordersWith_106 : decode cX1_ordersWith 106 = .ok (.istore 8, 2) := by decide +kernel
theorem dX1_ordersWith_108 : decode cX1_ordersWith 108 = .ok (.aload_n 0, 1) := by decide +kernel
theorem dX1_ordersWith_109 : decode cX1_ordersWith 109 = .ok (.iload 5, 2) := by decide +kernel
theorem dX1_ordersWith_111 : decode cX1_ordersWith 111 = .ok (.putfield 9, 3) := by decide +kernel
theorem dX1_ordersWith_114 : decode cX1_ordersWith 114 = .ok (.aload_n 0, 1) := by decide +kernel
theorem dX1_ordersWith_115 : decode cX1_ordersWith 115 = .ok (.iload 6, 2) := by decide +kernel
theorem dX1_ordersWith_117 : decode cX1_ordersWith 117 = .ok (.putfield 15, 3) := by decide +kernel
theorem dX1_ordersWith_120 : decode cX1_ordersWith 120 = .ok (.aload_n 0, 1) := by decide +kernel
theorem dX1_ordersWith_121 : decode cX1_ordersWith 121 = .ok (.iload 7, 2) := by decide +kernel
theorem dX1_ordersWith_123 : decode cX1_ordersWith 123 = .ok (.putfield 18, 3) := by decide +kernel
theorem dX1_ordersWith_126 : decode cX1_ordersWith 126 = .ok (.iinc 9 1, 3) := by decide +kernel
theorem dX1_ordersWith_129 : decode cX1_ordersWith 129 = .ok (.goto (-90), 3) := by decide +kernel
theorem dX1_ordersWith_132 : decode cX1_ordersWith 132 = .ok (.iload 8, 2) := by decide +kernel
theorem dX1_ordersWith_134 : decode cX1_ordersWith 134 = .ok (.ireturn, 1) := by decide +kernel
theorem dX1_hearNext_0 : decode cX1_hearNext 0 = .ok (.aload_n 0, 1) := by decide +kernel
theorem dX1_hearNext_1 : decode cX1_hearNext 1 = .ok (.aload_n 1, 1) := by decide +kernel
theorem dX1_hearNext_2 : decode cX1_hearNext 2 = .ok (.iload_n 2, 1) := by decide +kernel
theorem dX1_hearNext_3 : decode cX1_hearNext 3 = .ok (.invokevirtual 60, 3) := by decide +kernel
theorem dX1_hearNext_6 : decode cX1_hearNext 6 = .ok (.ifCond .eq 27, 3) := by decide +kernel
theorem dX1_hearNext_9 : decode cX1_hearNext 9 = .ok (.aload_n 0, 1) := by decide +kernel
theorem dX1_hearNext_10 : decode cX1_hearNext 10 = .ok (.dup, 1) := by decide +kernel
theorem dX1_hearNext_11 : decode cX1_hearNext 11 = .ok (.getfield 9, 3) := by decide +kernel
theorem dX1_hearNext_14 : decode cX1_hearNext 14 = .ok (.iconst 1, 1) := by decide +kernel
theorem dX1_hearNext_15 : decode cX1_hearNext 15 = .ok (.iload_n 2, 1) := by decide +kernel
theorem dX1_hearNext_16 : decode cX1_hearNext 16 = .ok (.ishl, 1) := by decide +kernel
theorem dX1_hearNext_17 : decode cX1_hearNext 17 = .ok (.ior, 1) := by decide +kernel
theorem dX1_hearNext_18 : decode cX1_hearNext 18 = .ok (.putfield 9, 3) := by decide +kernel
theorem dX1_hearNext_21 : decode cX1_hearNext 21 = .ok (.aload_n 0, 1) := by decide +kernel
theorem dX1_hearNext_22 : decode cX1_hearNext 22 = .ok (.aload_n 1, 1) := by decide +kernel
theorem dX1_hearNext_23 : decode cX1_hearNext 23 = .ok (.iload_n 2, 1) := by decide +kernel
theorem dX1_hearNext_24 : decode cX1_hearNext 24 = .ok (.invokevirtual 64, 3) := by decide +kernel
theorem dX1_hearNext_27 : decode cX1_hearNext 27 = .ok (.aload_n 0, 1) := by decide +kernel
theorem dX1_hearNext_28 : decode cX1_hearNext 28 = .ok (.aload_n 1, 1) := by decide +kernel
theorem dX1_hearNext_29 : decode cX1_hearNext 29 = .ok (.iload_n 2, 1) := by decide +kernel
theorem dX1_hearNext_30 : decode cX1_hearNext 30 = .ok (.invokevirtual 67, 3) := by decide +kernel
theorem dX1_hearNext_33 : decode cX1_hearNext 33 = .ok (.return_, 1) := by decide +kernel
theorem dX1_isAble_0 : decode cX1_isAble 0 = .ok (.aload_n 0, 1) := by decide +kernel
theorem dX1_isAble_1 : decode cX1_isAble 1 = .ok (.getfield 21, 3) := by decide +kernel
theorem dX1_isAble_4 : decode cX1_isAble 4 = .ok (.getfield 41, 3) := by decide +kernel
theorem dX1_isAble_7 : decode cX1_isAble 7 = .ok (.iload_n 2, 1) := by decide +kernel
theorem dX1_isAble_8 : decode cX1_isAble 8 = .ok (.iaload, 1) := by decide +kernel
theorem dX1_isAble_9 : decode cX1_isAble 9 = .ok (.istore_n 3, 1) := by decide +kernel
theorem dX1_isAble_10 : decode cX1_isAble 10 = .ok (.aload_n 1, 1) := by decide +kernel
theorem dX1_isAble_11 : decode cX1_isAble 11 = .ok (.getfield 70, 3) := by decide +kernel
theorem dX1_isAble_14 : decode cX1_isAble 14 = .ok (.ifCond .ne 14, 3) := by decide +kernel
theorem dX1_isAble_17 : decode cX1_isAble 17 = .ok (.iload_n 3, 1) := by decide +kernel
theorem dX1_isAble_18 : decode cX1_isAble 18 = .ok (.aload_n 0, 1) := by decide +kernel
theorem dX1_isAble_19 : decode cX1_isAble 19 = .ok (.getfield 18, 3) := by decide +kernel
theorem dX1_isAble_22 : decode cX1_isAble 22 = .ok (.iand, 1) := by decide +kernel
theorem dX1_isAble_23 : decode cX1_isAble 23 = .ok (.ifCond .eq 5, 3) := by decide +kernel
theorem dX1_isAble_26 : decode cX1_isAble 26 = .ok (.iconst 0, 1) := by decide +kernel
theorem dX1_isAble_27 : decode cX1_isAble 27 = .ok (.ireturn, 1) := by decide +kernel
theorem dX1_isAble_28 : decode cX1_isAble 28 = .ok (.iload_n 3, 1) := by decide +kernel
theorem dX1_isAble_29 : decode cX1_isAble 29 = .ok (.aload_n 0, 1) := by decide +kernel
theorem dX1_isAble_30 : decode cX1_isAble 30 = .ok (.getfield 18, 3) := by decide +kernel
theorem dX1_isAble_33 : decode cX1_isAble 33 = .ok (.iconst (-1), 1) := by decide +kernel
theorem dX1_isAble_34 : decode cX1_isAble 34 = .ok (.ixor, 1) := by decide +kernel
theorem dX1_isAble_35 : decode cX1_isAble 35 = .ok (.iand, 1) := by decide +kernel
theorem dX1_isAble_36 : decode cX1_isAble 36 = .ok (.invokestatic 50, 3) := by decide +kernel
theorem dX1_isAble_39 : decode cX1_isAble 39 = .ok (.aload_n 1, 1) := by decide +kernel
theorem dX1_isAble_40 : decode cX1_isAble 40 = .ok (.getfield 75, 3) := by decide +kernel
theorem dX1_isAble_43 : decode cX1_isAble 43 = .ok (.if_icmp .lt 7, 3) := by decide +kernel
theorem dX1_isAble_46 : decode cX1_isAble 46 = .ok (.iconst 1, 1) := by decide +kernel
theorem dX1_isAble_47 : decode cX1_isAble 47 = .ok (.goto 4, 3) := by decide +kernel
theorem dX1_isAble_50 : decode cX1_isAble 50 = .ok (.iconst 0, 1) := by decide +kernel
theorem dX1_isAble_51 : decode cX1_isAble 51 = .ok (.ireturn, 1) := by decide +kernel
theorem dX1_quarrel_0 : decode cX1_quarrel 0 = .ok (.aload_n 0, 1) := by decide +kernel
theorem dX1_quarrel_1 : decode cX1_quarrel 1 = .ok (.getfield 21, 3) := by decide +kernel
theorem dX1_quarrel_4 : decode cX1_quarrel 4 = .ok (.getfield 78, 3) := by decide +kernel
theorem dX1_quarrel_7 : decode cX1_quarrel 7 = .ok (.iload_n 2, 1) := by decide +kernel
theorem dX1_quarrel_8 : decode cX1_quarrel 8 = .ok (.iaload, 1) := by decide +kernel
theorem dX1_quarrel_9 : decode cX1_quarrel 9 = .ok (.aload_n 0, 1) := by decide +kernel
theorem dX1_quarrel_10 : decode cX1_quarrel 10 = .ok (.getfield 9, 3) := by decide +kernel
theorem dX1_quarrel_13 : decode cX1_quarrel 13 = .ok (.iand, 1) := by decide +kernel
theorem dX1_quarrel_14 : decode cX1_quarrel 14 = .ok (.istore_n 3, 1) := by decide +kernel
theorem dX1_quarrel_15 : decode cX1_quarrel 15 = .ok (.iconst 0, 1) := by decide +kernel
theorem dX1_quarrel_16 : decode cX1_quarrel 16 = .ok (.istore 4, 2) := by decide +kernel
theorem dX1_quarrel_18 : decode cX1_quarrel 18 = .ok (.iload 4, 2) := by decide +kernel
theorem dX1_quarrel_20 : decode cX1_quarrel 20 = .ok (.aload_n 0, 1) := by decide +kernel
theorem dX1_quarrel_21 : decode cX1_quarrel 21 = .ok (.getfield 21, 3) := by decide +kernel
theorem dX1_quarrel_24 : decode cX1_quarrel 24 = .ok (.getfield 28, 3) := by decide +kernel
theorem dX1_quarrel_27 : decode cX1_quarrel 27 = .ok (.if_icmp .ge 55, 3) := by decide +kernel
theorem dX1_quarrel_30 : decode cX1_quarrel 30 = .ok (.iload_n 3, 1) := by decide +kernel
theorem dX1_quarrel_31 : decode cX1_quarrel 31 = .ok (.iload 4, 2) := by decide +kernel
theorem dX1_quarrel_33 : decode cX1_quarrel 33 = .ok (.ishr, 1) := by decide +kernel
theorem dX1_quarrel_34 : decode cX1_quarrel 34 = .ok (.ifCond .eq 48, 3) := by decide +kernel
theorem dX1_quarrel_37 : decode cX1_quarrel 37 = .ok (.aload_n 0, 1) := by decide +kernel
theorem dX1_quarrel_38 : decode cX1_quarrel 38 = .ok (.getfield 9, 3) := by decide +kernel
theorem dX1_quarrel_41 : decode cX1_quarrel 41 = .ok (.iload_n 2, 1) := by decide +kernel
theorem dX1_quarrel_42 : decode cX1_quarrel 42 = .ok (.ishr, 1) := by decide +kernel
theorem dX1_quarrel_43 : decode cX1_quarrel 43 = .ok (.iconst 1, 1) := by decide +kernel
theorem dX1_quarrel_44 : decode cX1_quarrel 44 = .ok (.iand, 1) := by decide +kernel
theorem dX1_quarrel_45 : decode cX1_quarrel 45 = .ok (.ifCond .eq 37, 3) := by decide +kernel
theorem dX1_quarrel_48 : decode cX1_quarrel 48 = .ok (.iload_n 3, 1) := by decide +kernel
theorem dX1_quarrel_49 : decode cX1_quarrel 49 = .ok (.iload 4, 2) := by decide +kernel
theorem dX1_quarrel_51 : decode cX1_quarrel 51 = .ok (.ishr, 1) := by decide +kernel
theorem dX1_quarrel_52 : decode cX1_quarrel 52 = .ok (.iconst 1, 1) := by decide +kernel
theorem dX1_quarrel_53 : decode cX1_quarrel 53 = .ok (.iand, 1) := by decide +kernel
theorem dX1_quarrel_54 : decode cX1_quarrel 54 = .ok (.ifCond .eq 22, 3) := by decide +kernel
theorem dX1_quarrel_57 : decode cX1_quarrel 57 = .ok (.aload_n 0, 1) := by decide +kernel
theorem dX1_quarrel_58 : decode cX1_quarrel 58 = .ok (.dup, 1) := by decide +kernel
theorem dX1_quarrel_59 : decode cX1_quarrel 59 = .ok (.getfield 9, 3) := by decide +kernel
theorem dX1_quarrel_62 : decode cX1_quarrel 62 = .ok (.aload_n 0, 1) := by decide +kernel
theorem dX1_quarrel_63 : decode cX1_quarrel 63 = .ok (.aload_n 1, 1) := by decide +kernel
theorem dX1_quarrel_64 : decode cX1_quarrel 64 = .ok (.iload 4, 2) := by decide +kernel
theorem dX1_quarrel_66 : decode cX1_quarrel 66 = .ok (.iload_n 2, 1) := by decide +kernel
theorem dX1_quarrel_67 : decode cX1_quarrel 67 = .ok (.invokevirtual 81, 3) := by decide +kernel
theorem dX1_quarrel_70 : decode cX1_quarrel 70 = .ok (.iconst (-1), 1) := by decide +kernel
theorem dX1_quarrel_71 : decode cX1_quarrel 71 = .ok (.ixor, 1) := by decide +kernel
theorem dX1_quarrel_72 : decode cX1_quarrel 72 = .ok (.iand, 1) := by decide +kernel
theorem dX1_quarrel_73 : decode cX1_quarrel 73 = .ok (.putfield 9, 3) := by decide +kernel
theorem dX1_quarrel_76 : decode cX1_quarrel 76 = .ok (.iinc 4 1, 3) := by decide +kernel
theorem dX1_quarrel_79 : decode cX1_quarrel 79 = .ok (.goto (-61), 3) := by decide +kernel
theorem dX1_quarrel_82 : decode cX1_quarrel 82 = .ok (.return_, 1) := by decide +kernel
theorem dX1_fallen_0 : decode cX1_fallen 0 = .ok (.aload_n 1, 1) := by decide +kernel
theorem dX1_fallen_1 : decode cX1_fallen 1 = .ok (.getfield 85, 3) := by decide +kernel
theorem dX1_fallen_4 : decode cX1_fallen 4 = .ok (.iconst 1, 1) := by decide +kernel
theorem dX1_fallen_5 : decode cX1_fallen 5 = .ok (.if_icmp .ne 7, 3) := by decide +kernel
theorem dX1_fallen_8 : decode cX1_fallen 8 = .ok (.iconst 1, 1) := by decide +kernel
theorem dX1_fallen_9 : decode cX1_fallen 9 = .ok (.iload_n 3, 1) := by decide +kernel
theorem dX1_fallen_10 : decode cX1_fallen 10 = .ok (.ishl, 1) := by decide +kernel
theorem dX1_fallen_11 : decode cX1_fallen 11 = .ok (.ireturn, 1) := by decide +kernel
theorem dX1_fallen_12 : decode cX1_fallen 12 = .ok (.iconst 1, 1) := by decide +kernel
theorem dX1_fallen_13 : decode cX1_fallen 13 = .ok (.iload_n 2, 1) := by decide +kernel
theorem dX1_fallen_14 : decode cX1_fallen 14 = .ok (.ishl, 1) := by decide +kernel
theorem dX1_fallen_15 : decode cX1_fallen 15 = .ok (.iconst 1, 1) := by decide +kernel
theorem dX1_fallen_16 : decode cX1_fallen 16 = .ok (.iload_n 3, 1) := by decide +kernel
theorem dX1_fallen_17 : decode cX1_fallen 17 = .ok (.ishl, 1) := by decide +kernel
theorem dX1_fallen_18 : decode cX1_fallen 18 = .ok (.ior, 1) := by decide +kernel
theorem dX1_fallen_19 : decode cX1_fallen 19 = .ok (.istore 4, 2) := by decide +kernel
theorem dX1_fallen_21 : decode cX1_fallen 21 = .ok (.aload_n 1, 1) := by decide +kernel
theorem dX1_fallen_22 : decode cX1_fallen 22 = .ok (.getfield 85, 3) := by decide +kernel
theorem dX1_fallen_25 : decode cX1_fallen 25 = .ok (.ifCond .ne 6, 3) := by decide +kernel
theorem dX1_fallen_28 : decode cX1_fallen 28 = .ok (.iload 4, 2) := by decide +kernel
theorem dX1_fallen_30 : decode cX1_fallen 30 = .ok (.ireturn, 1) := by decide +kernel
theorem dX1_fallen_31 : decode cX1_fallen 31 = .ok (.aload_n 0, 1) := by decide +kernel
theorem dX1_fallen_32 : decode cX1_fallen 32 = .ok (.getfield 21, 3) := by decide +kernel
theorem dX1_fallen_35 : decode cX1_fallen 35 = .ok (.getfield 88, 3) := by decide +kernel
theorem dX1_fallen_38 : decode cX1_fallen 38 = .ok (.iload_n 2, 1) := by decide +kernel
theorem dX1_fallen_39 : decode cX1_fallen 39 = .ok (.iaload, 1) := by decide +kernel
theorem dX1_fallen_40 : decode cX1_fallen 40 = .ok (.aload_n 0, 1) := by decide +kernel
theorem dX1_fallen_41 : decode cX1_fallen 41 = .ok (.getfield 21, 3) := by decide +kernel
theorem dX1_fallen_44 : decode cX1_fallen 44 = .ok (.getfield 88, 3) := by decide +kernel
theorem dX1_fallen_47 : decode cX1_fallen 47 = .ok (.iload_n 3, 1) := by decide +kernel
theorem dX1_fallen_48 : decode cX1_fallen 48 = .ok (.iaload, 1) := by decide +kernel
theorem dX1_fallen_49 : decode cX1_fallen 49 = .ok (.isub, 1) := by decide +kernel
theorem dX1_fallen_50 : decode cX1_fallen 50 = .ok (.istore 5, 2) := by decide +kernel
theorem dX1_fallen_52 : decode cX1_fallen 52 = .ok (.iload 5, 2) := by decide +kernel
theorem dX1_fallen_54 : decode cX1_fallen 54 = .ok (.ifCond .ne 8, 3) := by decide +kernel
theorem dX1_fallen_57 : decode cX1_fallen 57 = .ok (.iload 4, 2) := by decide +kernel
theorem dX1_fallen_59 : decode cX1_fallen 59 = .ok (.goto 17, 3) := by decide +kernel
theorem dX1_fallen_62 : decode cX1_fallen 62 = .ok (.iload 5, 2) := by decide +kernel
theorem dX1_fallen_64 : decode cX1_fallen 64 = .ok (.ifCond .le 9, 3) := by decide +kernel
theorem dX1_fallen_67 : decode cX1_fallen 67 = .ok (.iconst 1, 1) := by decide +kernel
theorem dX1_fallen_68 : decode cX1_fallen 68 = .ok (.iload_n 3, 1) := by decide +kernel
theorem dX1_fallen_69 : decode cX1_fallen 69 = .ok (.ishl, 1) := by decide +kernel
theorem dX1_fallen_70 : decode cX1_fallen 70 = .ok (.goto 6, 3) := by decide +kernel
theorem dX1_fallen_73 : decode cX1_fallen 73 = .ok (.iconst 1, 1) := by decide +kernel
theorem dX1_fallen_74 : decode cX1_fallen 74 = .ok (.iload_n 2, 1) := by decide +kernel
theorem dX1_fallen_75 : decode cX1_fallen 75 = .ok (.ishl, 1) := by decide +kernel
theorem dX1_fallen_76 : decode cX1_fallen 76 = .ok (.ireturn, 1) := by decide +kernel
theorem dX1_beElsewhere_0 : decode cX1_beElsewhere 0 = .ok (.aload_n 0, 1) := by decide +kernel
theorem dX1_beElsewhere_1 : decode cX1_beElsewhere 1 = .ok (.getfield 9, 3) := by decide +kernel
theorem dX1_beElsewhere_4 : decode cX1_beElsewhere 4 = .ok (.iload_n 2, 1) := by decide +kernel
theorem dX1_beElsewhere_5 : decode cX1_beElsewhere 5 = .ok (.ishr, 1) := by decide +kernel
theorem dX1_beElsewhere_6 : decode cX1_beElsewhere 6 = .ok (.iconst 1, 1) := by decide +kernel
theorem dX1_beElsewhere_7 : decode cX1_beElsewhere 7 = .ok (.iand, 1) := by decide +kernel
theorem dX1_beElsewhere_8 : decode cX1_beElsewhere 8 = .ok (.ifCond .ne 4, 3) := by decide +kernel
theorem dX1_beElsewhere_11 : decode cX1_beElsewhere 11 = .ok (.return_, 1) := by decide +kernel
theorem dX1_beElsewhere_12 : decode cX1_beElsewhere 12 = .ok (.aload_n 0, 1) := by decide +kernel
theorem dX1_beElsewhere_13 : decode cX1_beElsewhere 13 = .ok (.getfield 21, 3) := by decide +kernel
theorem dX1_beElsewhere_16 : decode cX1_beElsewhere 16 = .ok (.getfield 91, 3) := by decide +kernel
theorem dX1_beElsewhere_19 : decode cX1_beElsewhere 19 = .ok (.iload_n 2, 1) := by decide +kernel
theorem dX1_beElsewhere_20 : decode cX1_beElsewhere 20 = .ok (.iaload, 1) := by decide +kernel
theorem dX1_beElsewhere_21 : decode cX1_beElsewhere 21 = .ok (.aload_n 0, 1) := by decide +kernel
theorem dX1_beElsewhere_22 : decode cX1_beElsewhere 22 = .ok (.getfield 9, 3) := by decide +kernel
theorem dX1_beElsewhere_25 : decode cX1_beElsewhere 25 = .ok (.iand, 1) := by decide +kernel
theorem dX1_beElsewhere_26 : decode cX1_beElsewhere 26 = .ok (.ifCond .eq 20, 3) := by decide +kernel
theorem dX1_beElsewhere_29 : decode cX1_beElsewhere 29 = .ok (.aload_n 0, 1) := by decide +kernel
theorem dX1_beElsewhere_30 : decode cX1_beElsewhere 30 = .ok (.aload_n 1, 1) := by decide +kernel
theorem dX1_beElsewhere_31 : decode cX1_beElsewhere 31 = .ok (.aload_n 0, 1) := by decide +kernel
theorem dX1_beElsewhere_32 : decode cX1_beElsewhere 32 = .ok (.getfield 21, 3) := by decide +kernel
theorem dX1_beElsewhere_35 : decode cX1_beElsewhere 35 = .ok (.getfield 44, 3) := by decide +kernel
theorem dX1_beElsewhere_38 : decode cX1_beElsewhere 38 = .ok (.iload_n 2, 1) := by decide +kernel
theorem dX1_beElsewhere_39 : decode cX1_beElsewhere 39 = .ok (.iaload, 1) := by decide +kernel
theorem dX1_beElsewhere_40 : decode cX1_beElsewhere 40 = .ok (.invokevirtual 94, 3) := by decide +kernel
theorem dX1_beElsewhere_43 : decode cX1_beElsewhere 43 = .ok (.goto 26, 3) := by decide +kernel
theorem dX1_beElsewhere_46 : decode cX1_beElsewhere 46 = .ok (.aload_n 0, 1) := by decide +kernel
theorem dX1_beElsewhere_47 : decode cX1_beElsewhere 47 = .ok (.getfield 21, 3) := by decide +kernel
theorem dX1_beElsewhere_50 : decode cX1_beElsewhere 50 = .ok (.getfield 97, 3) := by decide +kernel
theorem dX1_beElsewhere_53 : decode cX1_beElsewhere 53 = .ok (.iload_n 2, 1) := by decide +kernel
theorem dX1_beElsewhere_54 : decode cX1_beElsewhere 54 = .ok (.iaload, 1) := by decide +kernel
theorem dX1_beElsewhere_55 : decode cX1_beElsewhere 55 = .ok (.aload_n 0, 1) := by decide +kernel
theorem dX1_beElsewhere_56 : decode cX1_beElsewhere 56 = .ok (.getfield 9, 3) := by decide +kernel
theorem dX1_beElsewhere_59 : decode cX1_beElsewhere 59 = .ok (.iand, 1) := by decide +kernel
theorem dX1_beElsewhere_60 : decode cX1_beElsewhere 60 = .ok (.ifCond .eq 9, 3) := by decide +kernel
theorem dX1_beElsewhere_63 : decode cX1_beElsewhere 63 = .ok (.aload_n 0, 1) := by decide +kernel
theorem dX1_beElsewhere_64 : decode cX1_beElsewhere 64 = .ok (.aload_n 1, 1) := by decide +kernel
theorem dX1_beElsewhere_65 : decode cX1_beElsewhere 65 = .ok (.iload_n 2, 1) := by decide +kernel
theorem dX1_beElsewhere_66 : decode cX1_beElsewhere 66 = .ok (.invokevirtual 94, 3) := by decide +kernel
theorem dX1_beElsewhere_69 : decode cX1_beElsewhere 69 = .ok (.return_, 1) := by decide +kernel
theorem dX1_undo_0 : decode cX1_undo 0 = .ok (.aload_n 0, 1) := by decide +kernel
theorem dX1_undo_1 : decode cX1_undo 1 = .ok (.dup, 1) := by decide +kernel
theorem dX1_undo_2 : decode cX1_undo 2 = .ok (.getfield 9, 3) := by decide +kernel
theorem dX1_undo_5 : decode cX1_undo 5 = .ok (.iconst 1, 1) := by decide +kernel
theorem dX1_undo_6 : decode cX1_undo 6 = .ok (.iload_n 2, 1) := by decide +kernel
theorem dX1_undo_7 : decode cX1_undo 7 = .ok (.ishl, 1) := by decide +kernel
theorem dX1_undo_8 : decode cX1_undo 8 = .ok (.iconst (-1), 1) := by decide +kernel
theorem dX1_undo_9 : decode cX1_undo 9 = .ok (.ixor, 1) := by decide +kernel
theorem dX1_undo_10 : decode cX1_undo 10 = .ok (.iand, 1) := by decide +kernel
theorem dX1_undo_11 : decode cX1_undo 11 = .ok (.putfield 9, 3) := by decide +kernel
theorem dX1_undo_14 : decode cX1_undo 14 = .ok (.aload_n 0, 1) := by decide +kernel
theorem dX1_undo_15 : decode cX1_undo 15 = .ok (.dup, 1) := by decide +kernel
theorem dX1_undo_16 : decode cX1_undo 16 = .ok (.getfield 15, 3) := by decide +kernel
theorem dX1_undo_19 : decode cX1_undo 19 = .ok (.iconst 1, 1) := by decide +kernel
theorem dX1_undo_20 : decode cX1_undo 20 = .ok (.iload_n 2, 1) := by decide +kernel
theorem dX1_undo_21 : decode cX1_undo 21 = .ok (.ishl, 1) := by decide +kernel
theorem dX1_undo_22 : decode cX1_undo 22 = .ok (.ior, 1) := by decide +kernel
theorem dX1_undo_23 : decode cX1_undo 23 = .ok (.putfield 15, 3) := by decide +kernel
theorem dX1_undo_26 : decode cX1_undo 26 = .ok (.aload_n 1, 1) := by decide +kernel
theorem dX1_undo_27 : decode cX1_undo 27 = .ok (.getfield 100, 3) := by decide +kernel
theorem dX1_undo_30 : decode cX1_undo 30 = .ok (.iconst 1, 1) := by decide +kernel
theorem dX1_undo_31 : decode cX1_undo 31 = .ok (.if_icmp .ne 21, 3) := by decide +kernel
theorem dX1_undo_34 : decode cX1_undo 34 = .ok (.aload_n 0, 1) := by decide +kernel
theorem dX1_undo_35 : decode cX1_undo 35 = .ok (.dup, 1) := by decide +kernel
theorem dX1_undo_36 : decode cX1_undo 36 = .ok (.getfield 18, 3) := by decide +kernel
theorem dX1_undo_39 : decode cX1_undo 39 = .ok (.aload_n 0, 1) := by decide +kernel
theorem dX1_undo_40 : decode cX1_undo 40 = .ok (.getfield 21, 3) := by decide +kernel
theorem dX1_undo_43 : decode cX1_undo 43 = .ok (.getfield 41, 3) := by decide +kernel
theorem dX1_undo_46 : decode cX1_undo 46 = .ok (.iload_n 2, 1) := by decide +kernel
theorem dX1_undo_47 : decode cX1_undo 47 = .ok (.iaload, 1) := by decide +kernel
theorem dX1_undo_48 : decode cX1_undo 48 = .ok (.ior, 1) := by decide +kernel
theorem dX1_undo_49 : decode cX1_undo 49 = .ok (.putfield 18, 3) := by decide +kernel
theorem dX1_undo_52 : decode cX1_undo 52 = .ok (.return_, 1) := by decide +kernel
theorem dX2_init_0 : decode cX2_init 0 = .ok (.aload_n 0, 1) := by decide +kernel
theorem dX2_init_1 : decode cX2_init 1 = .ok (.invokespecial 3, 3) := by decide +kernel
theorem dX2_init_4 : decode cX2_init 4 = .ok (.aload_n 0, 1) := by decide +kernel
theorem dX2_init_5 : decode cX2_init 5 = .ok (.bipush 40, 2) := by decide +kernel
theorem dX2_init_7 : decode cX2_init 7 = .ok (.newarray .int, 2) := by decide +kernel
theorem dX2_init_9 : decode cX2_init 9 = .ok (.putfield 9, 3) := by decide +kernel
theorem dX2_init_12 : decode cX2_init 12 = .ok (.aload_n 0, 1) := by decide +kernel
theorem dX2_init_13 : decode cX2_init 13 = .ok (.iconst 0, 1) := by decide +kernel
theorem dX2_init_14 : decode cX2_init 14 = .ok (.putfield 15, 3) := by decide +kernel
theorem dX2_init_17 : decode cX2_init 17 = .ok (.aload_n 0, 1) := by decide +kernel
theorem dX2_init_18 : decode cX2_init 18 = .ok (.iconst (-1), 1) := by decide +kernel
theorem dX2_init_19 : decode cX2_init 19 = .ok (.putfield 19, 3) := by decide +kernel
theorem dX2_init_22 : decode cX2_init 22 = .ok (.aload_n 0, 1) := by decide +kernel
theorem dX2_init_23 : decode cX2_init 23 = .ok (.iconst 2, 1) := by decide +kernel
theorem dX2_init_24 : decode cX2_init 24 = .ok (.putfield 22, 3) := by decide +kernel
theorem dX2_init_27 : decode cX2_init 27 = .ok (.aload_n 0, 1) := by decide +kernel
theorem dX2_init_28 : decode cX2_init 28 = .ok (.iconst 0, 1) := by decide +kernel
theorem dX2_init_29 : decode cX2_init 29 = .ok (.putfield 25, 3) := by decide +kernel
theorem dX2_init_32 : decode cX2_init 32 = .ok (.aload_n 0, 1) := by decide +kernel
theorem dX2_init_33 : decode cX2_init 33 = .ok (.iconst 0, 1) := by decide +kernel
theorem dX2_init_34 : decode cX2_init 34 = .ok (.putfield 28, 3) := by decide +kernel
theorem dX2_init_37 : decode cX2_init 37 = .ok (.aload_n 0, 1) := by decide +kernel
theorem dX2_init_38 : decode cX2_init 38 = .ok (.iconst 0, 1) := by decide +kernel
theorem dX2_init_39 : decode cX2_init 39 = .ok (.putfield 31, 3) := by decide +kernel
theorem dX2_init_42 : decode cX2_init 42 = .ok (.return_, 1) := by decide +kernel
theorem dX2_append_0 : decode cX2_append 0 = .ok (.aload_n 0, 1) := by decide +kernel
theorem dX2_append_1 : decode cX2_append 1 = .ok (.getfield 9, 3) := by decide +kernel
theorem dX2_append_4 : decode cX2_append 4 = .ok (.aload_n 0, 1) := by decide +kernel
theorem dX2_append_5 : decode cX2_append 5 = .ok (.getfield 15, 3) := by decide +kernel
theorem dX2_append_8 : decode cX2_append 8 = .ok (.iload_n 1, 1) := by decide +kernel
theorem dX2_append_9 : decode cX2_append 9 = .ok (.iastore, 1) := by decide +kernel
theorem dX2_append_10 : decode cX2_append 10 = .ok (.aload_n 0, 1) := by decide +kernel
theorem dX2_append_11 : decode cX2_append 11 = .ok (.dup, 1) := by decide +kernel
theorem dX2_append_12 : decode cX2_append 12 = .ok (.getfield 15, 3) := by decide +kernel
theorem dX2_append_15 : decode cX2_append 15 = .ok (.iconst 1, 1) := by decide +kernel
theorem dX2_append_16 : decode cX2_append 16 = .ok (.iadd, 1) := by decide +kernel
theorem dX2_append_17 : decode cX2_append 17 = .ok (.putfield 15, 3) := by decide +kernel
theorem dX2_append_20 : decode cX2_append 20 = .ok (.aload_n 0, 1) := by decide +kernel
theorem dX2_append_21 : decode cX2_append 21 = .ok (.invokevirtual 34, 3) := by decide +kernel
theorem dX2_append_24 : decode cX2_append 24 = .ok (.return_, 1) := by decide +kernel
theorem dX2_empty_0 : decode cX2_empty 0 = .ok (.aload_n 0, 1) := by decide +kernel
theorem dX2_empty_1 : decode cX2_empty 1 = .ok (.iconst 0, 1) := by decide +kernel
theorem dX2_empty_2 : decode cX2_empty 2 = .ok (.putfield 15, 3) := by decide +kernel
theorem dX2_empty_5 : decode cX2_empty 5 = .ok (.aload_n 0, 1) := by decide +kernel
theorem dX2_empty_6 : decode cX2_empty 6 = .ok (.invokevirtual 34, 3) := by decide +kernel
theorem dX2_empty_9 : decode cX2_empty 9 = .ok (.return_, 1) := by decide +kernel
theorem dX2_saysTheSameAs_0 : decode cX2_saysTheSameAs 0 = .ok (.aload_n 0, 1) := by decide +kernel
theorem dX2_saysTheSameAs_1 : decode cX2_saysTheSameAs 1 = .ok (.getfield 22, 3) := by decide +kernel
theorem dX2_saysTheSameAs_4 : decode cX2_saysTheSameAs 4 = .ok (.aload_n 1, 1) := by decide +kernel
theorem dX2_saysTheSameAs_5 : decode cX2_saysTheSameAs 5 = .ok (.getfield 22, 3) := by decide +kernel
theorem dX2_saysTheSameAs_8 : decode cX2_saysTheSameAs 8 = .ok (.if_icmp .ne 40, 3) := by decide +kernel
theorem dX2_saysTheSameAs_11 : decode cX2_saysTheSameAs 11 = .ok (.aload_n 0, 1) := by decide +kernel
theorem dX2_saysTheSameAs_12 : decode cX2_saysTheSameAs 12 = .ok (.getfield 25, 3) := by decide +kernel
theorem dX2_saysTheSameAs_15 : decode cX2_saysTheSameAs 15 = .ok (.aload_n 1, 1) := by decide +kernel
theorem dX2_saysTheSameAs_16 : decode cX2_saysTheSameAs 16 = .ok (.getfield 25, 3) := by decide +kernel
theorem dX2_saysTheSameAs_19 : decode cX2_saysTheSameAs 19 = .ok (.if_icmp .ne 29, 3) := by decide +kernel
theorem dX2_saysTheSameAs_22 : decode cX2_saysTheSameAs 22 = .ok (.aload_n 0, 1) := by decide +kernel
theorem dX2_saysTheSameAs_23 : decode cX2_saysTheSameAs 23 = .ok (.getfield 28, 3) := by decide +kernel
theorem dX2_saysTheSameAs_26 : decode cX2_saysTheSameAs 26 = .ok (.aload_n 1, 1) := by decide +kernel
theorem dX2_saysTheSameAs_27 : decode cX2_saysTheSameAs 27 = .ok (.getfield 28, 3) := by decide +kernel
theorem dX2_saysTheSameAs_30 : decode cX2_saysTheSameAs 30 = .ok (.if_icmp .ne 18, 3) := by decide +kernel
theorem dX2_saysTheSameAs_33 : decode cX2_saysTheSameAs 33 = .ok (.aload_n 0, 1) := by decide +kernel
theorem dX2_saysTheSameAs_34 : decode cX2_saysTheSameAs 34 = .ok (.getfield 31, 3) := by decide +kernel
theorem dX2_saysTheSameAs_37 : decode cX2_saysTheSameAs 37 = .ok (.aload_n 1, 1) := by decide +kernel
theorem dX2_saysTheSameAs_38 : decode cX2_saysTheSameAs 38 = .ok (.getfield 31, 3) := by decide +kernel
theorem dX2_saysTheSameAs_41 : decode cX2_saysTheSameAs 41 = .ok (.if_icmp .ne 7, 3) := by decide +kernel
theorem dX2_saysTheSameAs_44 : decode cX2_saysTheSameAs 44 = .ok (.iconst 1, 1) := by decide +kernel
theorem dX2_saysTheSameAs_45 : decode cX2_saysTheSameAs 45 = .ok (.goto 4, 3) := by decide +kernel
theorem dX2_saysTheSameAs_48 : decode cX2_saysTheSameAs 48 = .ok (.iconst 0, 1) := by decide +kernel
theorem dX2_saysTheSameAs_49 : decode cX2_saysTheSameAs 49 = .ok (.ireturn, 1) := by decide +kernel
theorem dX2_understand_0 : decode cX2_understand 0 = .ok (.aload_n 0, 1) := by decide +kernel
theorem dX2_understand_1 : decode cX2_understand 1 = .ok (.aload_n 0, 1) := by decide +kernel
theorem dX2_understand_2 : decode cX2_understand 2 = .ok (.invokevirtual 37, 3) := by decide +kernel
theorem dX2_understand_5 : decode cX2_understand 5 = .ok (.putfield 19, 3) := by decide +kernel
theorem dX2_understand_8 : decode cX2_understand 8 = .ok (.aload_n 0, 1) := by decide +kernel
theorem dX2_understand_9 : decode cX2_understand 9 = .ok (.iconst 2, 1) := by decide +kernel
theorem dX2_understand_10 : decode cX2_understand 10 = .ok (.putfield 22, 3) := by decide +kernel
theorem dX2_understand_13 : decode cX2_understand 13 = .ok (.aload_n 0, 1) := by decide +kernel
theorem dX2_understand_14 : decode cX2_understand 14 = .ok (.iconst 0, 1) := by decide +kernel
theorem dX2_understand_15 : decode cX2_understand 15 = .ok (.putfield 25, 3) := by decide +kernel
theorem dX2_understand_18 : decode cX2_understand 18 = .ok (.aload_n 0, 1) := by decide +kernel
theorem dX2_understand_19 : decode cX2_understand 19 = .ok (.iconst 0, 1) := by decide +kernel
theorem dX2_understand_20 : decode cX2_understand 20 = .ok (.putfield 28, 3) := by decide +kernel
theorem dX2_understand_23 : decode cX2_understand 23 = .ok (.aload_n 0, 1) := by decide +kernel
theorem dX2_understand_24 : decode cX2_understand 24 = .ok (.iconst 0, 1) := by decide +kernel
theorem dX2_understand_25 : decode cX2_understand 25 = .ok (.putfield 31, 3) := by decide +kernel
theorem dX2_understand_28 : decode cX2_understand 28 = .ok (.aload_n 0, 1) := by decide +kernel
theorem dX2_understand_29 : decode cX2_understand 29 = .ok (.getfield 19, 3) := by decide +kernel
theorem dX2_understand_32 : decode cX2_understand 32 = .ok (.iconst (-1), 1) := by decide +kernel
theorem dX2_understand_33 : decode cX2_understand 33 = .ok (.if_icmp .ne 42, 3) := by decide +kernel
theorem dX2_understand_36 : decode cX2_understand 36 = .ok (.iconst 0, 1) := by decide +kernel
theorem dX2_understand_37 : decode cX2_understand 37 = .ok (.istore_n 1, 1) := by decide +kernel
theorem dX2_understand_38 : decode cX2_understand 38 = .ok (.iload_n 1, 1) := by decide +kernel
theorem dX2_understand_39 : decode cX2_understand 39 = .ok (.iconst 2, 1) := by decide +kernel
theorem dX2_understand_40 : decode cX2_understand 40 = .ok (.iadd, 1) := by decide +kernel
theorem dX2_understand_41 : decode cX2_understand 41 = .ok (.aload_n 0, 1) := by decide +kernel
theorem dX2_understand_42 : decode cX2_understand 42 = .ok (.getfield 15, 3) := by decide +kernel
theorem dX2_understand_45 : decode cX2_understand 45 = .ok (.if_icmp .ge 30, 3) := by decide +kernel
theorem dX2_understand_48 : decode cX2_understand 48 = .ok (.aload_n 0, 1) := by decide +kernel
theorem dX2_understand_49 : decode cX2_understand 49 = .ok (.aload_n 0, 1) := by decide +kernel
theorem dX2_understand_50 : decode cX2_understand 50 = .ok (.getfield 9, 3) := by decide +kernel
theorem dX2_understand_53 : decode cX2_understand 53 = .ok (.iload_n 1, 1) := by decide +kernel
theorem dX2_understand_54 : decode cX2_understand 54 = .ok (.iaload, 1) := by decide +kernel
theorem dX2_understand_55 : decode cX2_understand 55 = .ok (.aload_n 0, 1) := by decide +kernel
theorem dX2_understand_56 : decode cX2_understand 56 = .ok (.getfield 9, 3) := by decide +kernel
theorem dX2_understand_59 : decode cX2_understand 59 = .ok (.iload_n 1, 1) := by decide +kernel
theorem dX2_understand_60 : decode cX2_understand 60 = .ok (.iconst 2, 1) := by decide +kernel
theorem dX2_understand_61 : decode cX2_understand 61 = .ok (.iadd, 1) := by decide +kernel
theorem dX2_understand_62 : decode cX2_understand 62 = .ok (.iaload, 1) := by decide +kernel
theorem dX2_understand_63 : decode cX2_understand 63 = .ok (.bipush 48, 2) := by decide +kernel
theorem dX2_understand_65 : decode cX2_understand 65 = .ok (.isub, 1) := by decide +kernel
theorem dX2_understand_66 : decode cX2_understand 66 = .ok (.invokevirtual 41, 3) := by decide +kernel
theorem dX2_understand_69 : decode cX2_understand 69 = .ok (.iinc 1 4, 3) := by decide +kernel
theorem dX2_understand_72 : decode cX2_understand 72 = .ok (.goto (-34), 3) := by decide +kernel
theorem dX2_understand_75 : decode cX2_understand 75 = .ok (.return_, 1) := by decide +kernel
theorem dX2_takePart_0 : decode cX2_takePart 0 = .ok (.iload_n 1, 1) := by decide +kernel
theorem dX2_takePart_1 : decode cX2_takePart 1 = .ok (.tableswitch 59 99 103 #[43, 59, 51, 59, 35], 35) := by decide +kernel
theorem dX2_takePart_36 : decode cX2_takePart 36 = .ok (.aload_n 0, 1) := by decide +kernel
theorem dX2_takePart_37 : decode cX2_takePart 37 = .ok (.iload_n 2, 1) := by decide +kernel
theorem dX2_takePart_38 : decode cX2_takePart 38 = .ok (.putfield 22, 3) := by decide +kernel
theorem dX2_takePart_41 : decode cX2_takePart 41 = .ok (.goto 24, 3) := by decide +kernel
theorem dX2_takePart_44 : decode cX2_takePart 44 = .ok (.aload_n 0, 1) := by decide +kernel
theorem dX2_takePart_45 : decode cX2_takePart 45 = .ok (.iload_n 2, 1) := by decide +kernel
theorem dX2_takePart_46 : decode cX2_takePart 46 = .ok (.putfield 25, 3) := by decide +kernel
theorem dX2_takePart_49 : decode cX2_takePart 49 = .ok (.goto 16, 3) := by decide +kernel
theorem dX2_takePart_52 : decode cX2_takePart 52 = .ok (.aload_n 0, 1) := by decide +kernel
theorem dX2_takePart_53 : decode cX2_takePart 53 = .ok (.iload_n 2, 1) := by decide +kernel
theorem dX2_takePart_54 : decode cX2_takePart 54 = .ok (.putfield 28, 3) := by decide +kernel
theorem dX2_takePart_57 : decode cX2_takePart 57 = .ok (.goto 8, 3) := by decide +kernel
theorem dX2_takePart_60 : decode cX2_takePart 60 = .ok (.aload_n 0, 1) := by decide +kernel
theorem dX2_takePart_61 : decode cX2_takePart 61 = .ok (.iload_n 2, 1) := by decide +kernel
theorem dX2_takePart_62 : decode cX2_takePart 62 = .ok (.putfield 31, 3) := by decide +kernel
theorem dX2_takePart_65 : decode cX2_takePart 65 = .ok (.return_, 1) := by decide +kernel
theorem dX2_seekFault_0 : decode cX2_seekFault 0 = .ok (.iconst 0, 1) := by decide +kernel
theorem dX2_seekFault_1 : decode cX2_seekFault 1 = .ok (.istore_n 1, 1) := by decide +kernel
theorem dX2_seekFault_2 : decode cX2_seekFault 2 = .ok (.iload_n 1, 1) := by decide +kernel
theorem dX2_seekFault_3 : decode cX2_seekFault 3 = .ok (.aload_n 0, 1) := by decide +kernel
theorem dX2_seekFault_4 : decode cX2_seekFault 4 = .ok (.getfield 15, 3) := by decide +kernel
theorem dX2_seekFault_7 : decode cX2_seekFault 7 = .ok (.if_icmp .ge 19, 3) := by decide +kernel
theorem dX2_seekFault_10 : decode cX2_seekFault 10 = .ok (.aload_n 0, 1) := by decide +kernel
theorem dX2_seekFault_11 : decode cX2_seekFault 11 = .ok (.iload_n 1, 1) := by decide +kernel
theorem dX2_seekFault_12 : decode cX2_seekFault 12 = .ok (.invokevirtual 45, 3) := by decide +kernel
theorem dX2_seekFault_15 : decode cX2_seekFault 15 = .ok (.ifCond .ne 5, 3) := by decide +kernel
theorem dX2_seekFault_18 : decode cX2_seekFault 18 = .ok (.iload_n 1, 1) := by decide +kernel
theorem dX2_seekFault_19 : decode cX2_seekFault 19 = .ok (.ireturn, 1) := by decide +kernel
theorem dX2_seekFault_20 : decode cX2_seekFault 20 = .ok (.iinc 1 1, 3) := by decide +kernel
theorem dX2_seekFault_23 : decode cX2_seekFault 23 = .ok (.goto (-21), 3) := by decide +kernel
theorem dX2_seekFault_26 : decode cX2_seekFault 26 = .ok (.aload_n 0, 1) := by decide +kernel
theorem dX2_seekFault_27 : decode cX2_seekFault 27 = .ok (.getfield 15, 3) := by decide +kernel
theorem dX2_seekFault_30 : decode cX2_seekFault 30 = .ok (.ifCond .eq 13, 3) := by decide +kernel
theorem dX2_seekFault_33 : decode cX2_seekFault 33 = .ok (.aload_n 0, 1) := by decide +kernel
theorem dX2_seekFault_34 : decode cX2_seekFault 34 = .ok (.getfield 15, 3) := by decide +kernel
theorem dX2_seekFault_37 : decode cX2_seekFault 37 = .ok (.iconst 4, 1) := by decide +kernel
theorem dX2_seekFault_38 : decode cX2_seekFault 38 = .ok (.irem, 1) := by decide +kernel
theorem dX2_seekFault_39 : decode cX2_seekFault 39 = .ok (.iconst 3, 1) := by decide +kernel
theorem dX2_seekFault_40 : decode cX2_seekFault 40 = .ok (.if_icmp .ne 7, 3) := by decide +kernel
theorem dX2_seekFault_43 : decode cX2_seekFault 43 = .ok (.iconst (-1), 1) := by decide +kernel
theorem dX2_seekFault_44 : decode cX2_seekFault 44 = .ok (.goto 7, 3) := by decide +kernel
theorem dX2_seekFault_47 : decode cX2_seekFault 47 = .ok (.aload_n 0, 1) := by decide +kernel
theorem dX2_seekFault_48 : decode cX2_seekFault 48 = .ok (.getfield 15, 3) := by decide +kernel
theorem dX2_seekFault_51 : decode cX2_seekFault 51 = .ok (.ireturn, 1) := by decide +kernel
theorem dX2_fits_0 : decode cX2_fits 0 = .ok (.iload_n 1, 1) := by decide +kernel
theorem dX2_fits_1 : decode cX2_fits 1 = .ok (.iconst 4, 1) := by decide +kernel
theorem dX2_fits_2 : decode cX2_fits 2 = .ok (.irem, 1) := by decide +kernel
theorem dX2_fits_3 : decode cX2_fits 3 = .ok (.tableswitch 87 0 2 #[25, 46, 63], 25) := by decide +kernel
theorem dX2_fits_28 : decode cX2_fits 28 = .ok (.ldc 49, 2) := by decide +kernel
theorem dX2_fits_30 : decode cX2_fits 30 = .ok (.aload_n 0, 1) := by decide +kernel
theorem dX2_fits_31 : decode cX2_fits 31 = .ok (.getfield 9, 3) := by decide +kernel
theorem dX2_fits_34 : decode cX2_fits 34 = .ok (.iload_n 1, 1) := by decide +kernel
theorem dX2_fits_35 : decode cX2_fits 35 = .ok (.iaload, 1) := by decide +kernel
theorem dX2_fits_36 : decode cX2_fits 36 = .ok (.i2c, 1) := by decide +kernel
theorem dX2_fits_37 : decode cX2_fits 37 = .ok (.invokevirtual 51, 3) := by decide +kernel
theorem dX2_fits_40 : decode cX2_fits 40 = .ok (.ifCond .lt 7, 3) := by decide +kernel
theorem dX2_fits_43 : decode cX2_fits 43 = .ok (.iconst 1, 1) := by decide +kernel
theorem dX2_fits_44 : decode cX2_fits 44 = .ok (.goto 4, 3) := by decide +kernel
theorem dX2_fits_47 : decode cX2_fits 47 = .ok (.iconst 0, 1) := by decide +kernel
theorem dX2_fits_48 : decode cX2_fits 48 = .ok (.ireturn, 1) := by decide +kernel
theorem dX2_fits_49 : decode cX2_fits 49 = .ok (.aload_n 0, 1) := by decide +kernel
theorem dX2_fits_50 : decode cX2_fits 50 = .ok (.getfield 9, 3) := by decide +kernel
theorem dX2_fits_53 : decode cX2_fits 53 = .ok (.iload_n 1, 1) := by decide +kernel
theorem dX2_fits_54 : decode cX2_fits 54 = .ok (.iaload, 1) := by decide +kernel
theorem dX2_fits_55 : decode cX2_fits 55 = .ok (.bipush 61, 2) := by decide +kernel
theorem dX2_fits_57 : decode cX2_fits 57 = .ok (.if_icmp .ne 7, 3) := by decide +kernel
theorem dX2_fits_60 : decode cX2_fits 60 = .ok (.iconst 1, 1) := by decide +kernel
theorem dX2_fits_61 : decode cX2_fits 61 = .ok (.goto 4, 3) := by decide +kernel
theorem dX2_fits_64 : decode cX2_fits 64 = .ok (.iconst 0, 1) := by decide +kernel
theorem dX2_fits_65 : decode cX2_fits 65 = .ok (.ireturn, 1) := by decide +kernel
theorem dX2_fits_66 : decode cX2_fits 66 = .ok (.ldc 49, 2) := by decide +kernel
theorem dX2_fits_68 : decode cX2_fits 68 = .ok (.aload_n 0, 1) := by decide +kernel
theorem dX2_fits_69 : decode cX2_fits 69 = .ok (.getfield 9, 3) := by decide +kernel
theorem dX2_fits_72 : decode cX2_fits 72 = .ok (.iload_n 1, 1) := by decide +kernel
theorem dX2_fits_73 : decode cX2_fits 73 = .ok (.iconst 2, 1) := by decide +kernel
theorem dX2_fits_74 : decode cX2_fits 74 = .ok (.isub, 1) := by decide +kernel
theorem dX2_fits_75 : decode cX2_fits 75 = .ok (.iaload, 1) := by decide +kernel
theorem dX2_fits_76 : decode cX2_fits 76 = .ok (.i2c, 1) := by decide +kernel
theorem dX2_fits_77 : decode cX2_fits 77 = .ok (.invokevirtual 51, 3) := by decide +kernel
theorem dX2_fits_80 : decode cX2_fits 80 = .ok (.aload_n 0, 1) := by decide +kernel
theorem dX2_fits_81 : decode cX2_fits 81 = .ok (.getfield 9, 3) := by decide +kernel
theorem dX2_fits_84 : decode cX2_fits 84 = .ok (.iload_n 1, 1) := by decide +kernel
theorem dX2_fits_85 : decode cX2_fits 85 = .ok (.iaload, 1) := by decide +kernel
theorem dX2_fits_86 : decode cX2_fits 86 = .ok (.invokestatic 57, 3) := by decide +kernel
theorem dX2_fits_89 : decode cX2_fits 89 = .ok (.ireturn, 1) := by decide +kernel
theorem dX2_fits_90 : decode cX2_fits 90 = .ok (.aload_n 0, 1) := by decide +kernel
theorem dX2_fits_91 : decode cX2_fits 91 = .ok (.getfield 9, 3) := by decide +kernel
theorem dX2_fits_94 : decode cX2_fits 94 = .ok (.iload_n 1, 1) := by decide +kernel
theorem dX2_fits_95 : decode cX2_fits 95 = .ok (.iaload, 1) := by decide +kernel
theorem dX2_fits_96 : decode cX2_fits 96 = .ok (.bipush 59, 2) := by decide +kernel
theorem dX2_fits_98 : decode cX2_fits 98 = .ok (.if_icmp .ne 7, 3) := by decide +kernel
theorem dX2_fits_101 : decode cX2_fits 101 = .ok (.iconst 1, 1) := by decide +kernel
theorem dX2_fits_102 : decode cX2_fits 102 = .ok (.goto 4, 3) := by decide +kernel
theorem dX2_fits_105 : decode cX2_fits 105 = .ok (.iconst 0, 1) := by decide +kernel
theorem dX2_fits_106 : decode cX2_fits 106 = .ok (.ireturn, 1) := by decide +kernel
theorem dX2_isFigureOf_0 : decode cX2_isFigureOf 0 = .ok (.iload_n 0, 1) := by decide +kernel
theorem dX2_isFigureOf_1 : decode cX2_isFigureOf 1 = .ok (.ifCond .lt 12, 3) := by decide +kernel
theorem dX2_isFigureOf_4 : decode cX2_isFigureOf 4 = .ok (.iload_n 0, 1) := by decide +kernel
theorem dX2_isFigureOf_5 : decode cX2_isFigureOf 5 = .ok (.ldc 49, 2) := by decide +kernel
theorem dX2_isFigureOf_7 : decode cX2_isFigureOf 7 = .ok (.invokevirtual 61, 3) := by decide +kernel
theorem dX2_isFigureOf_10 : decode cX2_isFigureOf 10 = .ok (.if_icmp .lt 5, 3) := by decide +kernel
theorem dX2_isFigureOf_13 : decode cX2_isFigureOf 13 = .ok (.iconst 0, 1) := by decide +kernel
theorem dX2_isFigureOf_14 : decode cX2_isFigureOf 14 = .ok (.ireturn, 1) := by decide +kernel
theorem dX2_isFigureOf_15 : decode cX2_isFigureOf 15 = .ok (.iload_n 1, 1) := by decide +kernel
theorem dX2_isFigureOf_16 : decode cX2_isFigureOf 16 = .ok (.ldc 64, 2) := by decide +kernel
theorem dX2_isFigureOf_18 : decode cX2_isFigureOf 18 = .ok (.iload_n 0, 1) := by decide +kernel
theorem dX2_isFigureOf_19 : decode cX2_isFigureOf 19 = .ok (.invokevirtual 66, 3) := by decide +kernel
theorem dX2_isFigureOf_22 : decode cX2_isFigureOf 22 = .ok (.if_icmp .lt 17, 3) := by decide +kernel
theorem dX2_isFigureOf_25 : decode cX2_isFigureOf 25 = .ok (.iload_n 1, 1) := by decide +kernel
theorem dX2_isFigureOf_26 : decode cX2_isFigureOf 26 = .ok (.ldc 70, 2) := by decide +kernel
theorem dX2_isFigureOf_28 : decode cX2_isFigureOf 28 = .ok (.iload_n 0, 1) := by decide +kernel
theorem dX2_isFigureOf_29 : decode cX2_isFigureOf 29 = .ok (.invokevirtual 66, 3) := by decide +kernel
theorem dX2_isFigureOf_32 : decode cX2_isFigureOf 32 = .ok (.if_icmp .gt 7, 3) := by decide +kernel
theorem dX2_isFigureOf_35 : decode cX2_isFigureOf 35 = .ok (.iconst 1, 1) := by decide +kernel
theorem dX2_isFigureOf_36 : decode cX2_isFigureOf 36 = .ok (.goto 4, 3) := by decide +kernel
theorem dX2_isFigureOf_39 : decode cX2_isFigureOf 39 = .ok (.iconst 0, 1) := by decide +kernel
theorem dX2_isFigureOf_40 : decode cX2_isFigureOf 40 = .ok (.ireturn, 1) := by decide +kernel
theorem dX3_init_0 : decode cX3_init 0 = .ok (.aload_n 0, 1) := by decide +kernel
theorem dX3_init_1 : decode cX3_init 1 = .ok (.invokespecial 3, 3) := by decide +kernel
theorem dX3_init_4 : decode cX3_init 4 = .ok (.aload_n 0, 1) := by decide +kernel
theorem dX3_init_5 : decode cX3_init 5 = .ok (.bipush 36, 2) := by decide +kernel
theorem dX3_init_7 : decode cX3_init 7 = .ok (.newarray .int, 2) := by decide +kernel
theorem dX3_init_9 : decode cX3_init 9 = .ok (.putfield 9, 3) := by decide +kernel
theorem dX3_init_12 : decode cX3_init 12 = .ok (.aload_n 0, 1) := by decide +kernel
theorem dX3_init_13 : decode cX3_init 13 = .ok (.bipush 36, 2) := by decide +kernel
theorem dX3_init_15 : decode cX3_init 15 = .ok (.newarray .int, 2) := by decide +kernel
theorem dX3_init_17 : decode cX3_init 17 = .ok (.putfield 15, 3) := by decide +kernel
theorem dX3_init_20 : decode cX3_init 20 = .ok (.aload_n 0, 1) := by decide +kernel
theorem dX3_init_21 : decode cX3_init 21 = .ok (.invokevirtual 18, 3) := by decide +kernel
theorem dX3_init_24 : decode cX3_init 24 = .ok (.return_, 1) := by decide +kernel
theorem dX3_build_0 : decode cX3_build 0 = .ok (.aload_n 0, 1) := by decide +kernel
theorem dX3_build_1 : decode cX3_build 1 = .ok (.getfield 9, 3) := by decide +kernel
theorem dX3_build_4 : decode cX3_build 4 = .ok (.iload_n 1, 1) := by decide +kernel
theorem dX3_build_5 : decode cX3_build 5 = .ok (.bipush 6, 2) := by decide +kernel
theorem dX3_build_7 : decode cX3_build 7 = .ok (.imul, 1) := by decide +kernel
theorem dX3_build_8 : decode cX3_build 8 = .ok (.iload_n 2, 1) := by decide +kernel
theorem dX3_build_9 : decode cX3_build 9 = .ok (.iadd, 1) := by decide +kernel
theorem dX3_build_10 : decode cX3_build 10 = .ok (.iaload, 1) := by decide +kernel
theorem dX3_build_11 : decode cX3_build 11 = .ok (.istore 4, 2) := by decide +kernel
theorem dX3_build_13 : decode cX3_build 13 = .ok (.aload_n 0, 1) := by decide +kernel
theorem dX3_build_14 : decode cX3_build 14 = .ok (.getfield 9, 3) := by decide +kernel
theorem dX3_build_17 : decode cX3_build 17 = .ok (.iload_n 1, 1) := by decide +kernel
theorem dX3_build_18 : decode cX3_build 18 = .ok (.bipush 6, 2) := by decide +kernel
theorem dX3_build_20 : decode cX3_build 20 = .ok (.imul, 1) := by decide +kernel
theorem dX3_build_21 : decode cX3_build 21 = .ok (.iload_n 2, 1) := by decide +kernel
theorem dX3_build_22 : decode cX3_build 22 = .ok (.iadd, 1) := by decide +kernel
theorem dX3_build_23 : decode cX3_build 23 = .ok (.iload_n 3, 1) := by decide +kernel
theorem dX3_build_24 : decode cX3_build 24 = .ok (.iastore, 1) := by decide +kernel
theorem dX3_build_25 : decode cX3_build 25 = .ok (.aload_n 0, 1) := by decide +kernel
theorem dX3_build_26 : decode cX3_build 26 = .ok (.getfield 9, 3) := by decide +kernel
theorem dX3_build_29 : decode cX3_build 29 = .ok (.iload_n 2, 1) := by decide +kernel
theorem dX3_build_30 : decode cX3_build 30 = .ok (.bipush 6, 2) := by decide +kernel
theorem dX3_build_32 : decode cX3_build 32 = .ok (.imul, 1) := by decide +kernel
theorem dX3_build_33 : decode cX3_build 33 = .ok (.iload_n 1, 1) := by decide +kernel
theorem dX3_build_34 : decode cX3_build 34 = .ok (.iadd, 1) := by decide +kernel
theorem dX3_build_35 : decode cX3_build 35 = .ok (.iload_n 3, 1) := by decide +kernel
theorem dX3_build_36 : decode cX3_build 36 = .ok (.iastore, 1) := by decide +kernel
theorem dX3_build_37 : decode cX3_build 37 = .ok (.aload_n 0, 1) := by decide +kernel
theorem dX3_build_38 : decode cX3_build 38 = .ok (.invokevirtual 18, 3) := by decide +kernel
theorem dX3_build_41 : decode cX3_build 41 = .ok (.iload 4, 2) := by decide +kernel
theorem dX3_build_43 : decode cX3_build 43 = .ok (.ireturn, 1) := by decide +kernel
theorem dX3_between_0 : decode cX3_between 0 = .ok (.aload_n 0, 1) := by decide +kernel
theorem dX3_between_1 : decode cX3_between 1 = .ok (.getfield 15, 3) := by decide +kernel
theorem dX3_between_4 : decode cX3_between 4 = .ok (.iload_n 1, 1) := by decide +kernel
theorem dX3_between_5 : decode cX3_between 5 = .ok (.bipush 6, 2) := by decide +kernel
theorem dX3_between_7 : decode cX3_between 7 = .ok (.imul, 1) := by decide +kernel
theorem dX3_between_8 : decode cX3_between 8 = .ok (.iload_n 2, 1) := by decide +kernel
theorem dX3_between_9 : decode cX3_between 9 = .ok (.iadd, 1) := by decide +kernel
theorem dX3_between_10 : decode cX3_between 10 = .ok (.iaload, 1) := by decide +kernel
theorem dX3_between_11 : decode cX3_between 11 = .ok (.ireturn, 1) := by decide +kernel
theorem dX3_number_0 : decode cX3_number 0 = .ok (.iconst 0, 1) := by decide +kernel
theorem dX3_number_1 : decode cX3_number 1 = .ok (.istore_n 1, 1) := by decide +kernel
theorem dX3_number_2 : decode cX3_number 2 = .ok (.iconst 0, 1) := by decide +kernel
theorem dX3_number_3 : decode cX3_number 3 = .ok (.istore_n 2, 1) := by decide +kernel
theorem dX3_number_4 : decode cX3_number 4 = .ok (.iload_n 2, 1) := by decide +kernel
theorem dX3_number_5 : decode cX3_number 5 = .ok (.bipush 6, 2) := by decide +kernel
theorem dX3_number_7 : decode cX3_number 7 = .ok (.if_icmp .ge 39, 3) := by decide +kernel
theorem dX3_number_10 : decode cX3_number 10 = .ok (.iconst 0, 1) := by decide +kernel
theorem dX3_number_11 : decode cX3_number 11 = .ok (.istore_n 3, 1) := by decide +kernel
theorem dX3_number_12 : decode cX3_number 12 = .ok (.iload_n 3, 1) := by decide +kernel
theorem dX3_number_13 : decode cX3_number 13 = .ok (.iload_n 2, 1) := by decide +kernel
theorem dX3_number_14 : decode cX3_number 14 = .ok (.if_icmp .ge 26, 3) := by decide +kernel
theorem dX3_number_17 : decode cX3_number 17 = .ok (.aload_n 0, 1) := by decide +kernel
theorem dX3_number_18 : decode cX3_number 18 = .ok (.getfield 9, 3) := by decide +kernel
theorem dX3_number_21 : decode cX3_number 21 = .ok (.iload_n 2, 1) := by decide +kernel
theorem dX3_number_22 : decode cX3_number 22 = .ok (.bipush 6, 2) := by decide +kernel
theorem dX3_number_24 : decode cX3_number 24 = .ok (.imul, 1) := by decide +kernel
theorem dX3_number_25 : decode cX3_number 25 = .ok (.iload_n 3, 1) := by decide +kernel
theorem dX3_number_26 : decode cX3_number 26 = .ok (.iadd, 1) := by decide +kernel
theorem dX3_number_27 : decode cX3_number 27 = .ok (.iaload, 1) := by decide +kernel
theorem dX3_number_28 : decode cX3_number 28 = .ok (.ifCond .eq 6, 3) := by decide +kernel
theorem dX3_number_31 : decode cX3_number 31 = .ok (.iinc 1 1, 3) := by decide +kernel
theorem dX3_number_34 : decode cX3_number 34 = .ok (.iinc 3 1, 3) := by decide +kernel
theorem dX3_number_37 : decode cX3_number 37 = .ok (.goto (-25), 3) := by decide +kernel
theorem dX3_number_40 : decode cX3_number 40 = .ok (.iinc 2 1, 3) := by decide +kernel
theorem dX3_number_43 : decode cX3_number 43 = .ok (.goto (-39), 3) := by decide +kernel
theorem dX3_number_46 : decode cX3_number 46 = .ok (.iload_n 1, 1) := by decide +kernel
theorem dX3_number_47 : decode cX3_number 47 = .ok (.ireturn, 1) := by decide +kernel
theorem dX3_seekQuickest_0 : decode cX3_seekQuickest 0 = .ok (.iconst 0, 1) := by decide +kernel
theorem dX3_seekQuickest_1 : decode cX3_seekQuickest 1 = .ok (.istore_n 1, 1) := by decide +kernel
theorem dX3_seekQuickest_2 : decode cX3_seekQuickest 2 = .ok (.iload_n 1, 1) := by decide +kernel
theorem dX3_seekQuickest_3 : decode cX3_seekQuickest 3 = .ok (.bipush 6, 2) := by decide +kernel
theorem dX3_seekQuickest_5 : decode cX3_seekQuickest 5 = .ok (.if_icmp .ge 66, 3) := by decide +kernel
theorem dX3_seekQuickest_8 : decode cX3_seekQuickest 8 = .ok (.iconst 0, 1) := by decide +kernel
theorem dX3_seekQuickest_9 : decode cX3_seekQuickest 9 = .ok (.istore_n 2, 1) := by decide +kernel
theorem dX3_seekQuickest_10 : decode cX3_seekQuickest 10 = .ok (.iload_n 2, 1) := by decide +kernel
theorem dX3_seekQuickest_11 : decode cX3_seekQuickest 11 = .ok (.bipush 6, 2) := by decide +kernel
theorem dX3_seekQuickest_13 : decode cX3_seekQuickest 13 = .ok (.if_icmp .ge 52, 3) := by decide +kernel
theorem dX3_seekQuickest_16 : decode cX3_seekQuickest 16 = .ok (.aload_n 0, 1) := by decide +kernel
theorem dX3_seekQuickest_17 : decode cX3_seekQuickest 17 = .ok (.getfield 9, 3) := by decide +kernel
theorem dX3_seekQuickest_20 : decode cX3_seekQuickest 20 = .ok (.iload_n 1, 1) := by decide +kernel
theorem dX3_seekQuickest_21 : decode cX3_seekQuickest 21 = .ok (.bipush 6, 2) := by decide +kernel
theorem dX3_seekQuickest_23 : decode cX3_seekQuickest 23 = .ok (.imul, 1) := by decide +kernel
theorem dX3_seekQuickest_24 : decode cX3_seekQuickest 24 = .ok (.iload_n 2, 1) := by decide +kernel
theorem dX3_seekQuickest_25 : decode cX3_seekQuickest 25 = .ok (.iadd, 1) := by decide +kernel
theorem dX3_seekQuickest_26 : decode cX3_seekQuickest 26 = .ok (.iaload, 1) := by decide +kernel
theorem dX3_seekQuickest_27 : decode cX3_seekQuickest 27 = .ok (.istore_n 3, 1) := by decide +kernel
theorem dX3_seekQuickest_28 : decode cX3_seekQuickest 28 = .ok (.aload_n 0, 1) := by decide +kernel
theorem dX3_seekQuickest_29 : decode cX3_seekQuickest 29 = .ok (.getfield 15, 3) := by decide +kernel
theorem dX3_seekQuickest_32 : decode cX3_seekQuickest 32 = .ok (.iload_n 1, 1) := by decide +kernel
theorem dX3_seekQuickest_33 : decode cX3_seekQuickest 33 = .ok (.bipush 6, 2) := by decide +kernel
theorem dX3_seekQuickest_35 : decode cX3_seekQuickest 35 = .ok (.imul, 1) := by decide +kernel
theorem dX3_seekQuickest_36 : decode cX3_seekQuickest 36 = .ok (.iload_n 2, 1) := by decide +kernel
theorem dX3_seekQuickest_37 : decode cX3_seekQuickest 37 = .ok (.iadd, 1) := by decide +kernel
theorem dX3_seekQuickest_38 : decode cX3_seekQuickest 38 = .ok (.iload_n 1, 1) := by decide +kernel
theorem dX3_seekQuickest_39 : decode cX3_seekQuickest 39 = .ok (.iload_n 2, 1) := by decide +kernel
theorem dX3_seekQuickest_40 : decode cX3_seekQuickest 40 = .ok (.if_icmp .ne 7, 3) := by decide +kernel
theorem dX3_seekQuickest_43 : decode cX3_seekQuickest 43 = .ok (.iconst 0, 1) := by decide +kernel
theorem dX3_seekQuickest_44 : decode cX3_seekQuickest 44 = .ok (.goto 14, 3) := by decide +kernel
theorem dX3_seekQuickest_47 : decode cX3_seekQuickest 47 = .ok (.iload_n 3, 1) := by decide +kernel
theorem dX3_seekQuickest_48 : decode cX3_seekQuickest 48 = .ok (.ifCond .ne 9, 3) := by decide +kernel
theorem dX3_seekQuickest_51 : decode cX3_seekQuickest 51 = .ok (.sipush 1000, 3) := by decide +kernel
theorem dX3_seekQuickest_54 : decode cX3_seekQuickest 54 = .ok (.goto 4, 3) := by decide +kernel
theorem dX3_seekQuickest_57 : decode cX3_seekQuickest 57 = .ok (.iload_n 3, 1) := by decide +kernel
theorem dX3_seekQuickest_58 : decode cX3_seekQuickest 58 = .ok (.iastore, 1) := by decide +kernel
theorem dX3_seekQuickest_59 : decode cX3_seekQuickest 59 = .ok (.iinc 2 1, 3) := by decide +kernel
theorem dX3_seekQuickest_62 : decode cX3_seekQuickest 62 = .ok (.goto (-52), 3) := by decide +kernel
theorem dX3_seekQuickest_65 : decode cX3_seekQuickest 65 = .ok (.iinc 1 1, 3) := by decide +kernel
theorem dX3_seekQuickest_68 : decode cX3_seekQuickest 68 = .ok (.goto (-66), 3) := by decide +kernel
theorem dX3_seekQuickest_71 : decode cX3_seekQuickest 71 = .ok (.iconst 0, 1) := by decide +kernel
theorem dX3_seekQuickest_72 : decode cX3_seekQuickest 72 = .ok (.istore_n 1, 1) := by decide +kernel
theorem dX3_seekQuickest_73 : decode cX3_seekQuickest 73 = .ok (.iload_n 1, 1) := by decide +kernel
theorem dX3_seekQuickest_74 : decode cX3_seekQuickest 74 = .ok (.bipush 6, 2) := by decide +kernel
theorem dX3_seekQuickest_76 : decode cX3_seekQuickest 76 = .ok (.if_icmp .ge 14, 3) := by decide +kernel
theorem dX3_seekQuickest_79 : decode cX3_seekQuickest 79 = .ok (.aload_n 0, 1) := by decide +kernel
theorem dX3_seekQuickest_80 : decode cX3_seekQuickest 80 = .ok (.iload_n 1, 1) := by decide +kernel
theorem dX3_seekQuickest_81 : decode cX3_seekQuickest 81 = .ok (.invokevirtual 21, 3) := by decide +kernel
theorem dX3_seekQuickest_84 : decode cX3_seekQuickest 84 = .ok (.iinc 1 1, 3) := by decide +kernel
theorem dX3_seekQuickest_87 : decode cX3_seekQuickest 87 = .ok (.goto (-14), 3) := by decide +kernel
theorem dX3_seekQuickest_90 : decode cX3_seekQuickest 90 = .ok (.return_, 1) := by decide +kernel
theorem dX3_shortenThrough_0 : decode cX3_shortenThrough 0 = .ok (.iconst 0, 1) := by decide +kernel
theorem dX3_shortenThrough_1 : decode cX3_shortenThrough 1 = .ok (.istore_n 2, 1) := by decide +kernel
theorem dX3_shortenThrough_2 : decode cX3_shortenThrough 2 = .ok (.iload_n 2, 1) := by decide +kernel
theorem dX3_shortenThrough_3 : decode cX3_shortenThrough 3 = .ok (.bipush 6, 2) := by decide +kernel
theorem dX3_shortenThrough_5 : decode cX3_shortenThrough 5 = .ok (.if_icmp .ge 77, 3) := by decide +kernel
theorem dX3_shortenThrough_8 : decode cX3_shortenThrough 8 = .ok (.iconst 0, 1) := by decide +kernel
theorem dX3_shortenThrough_9 : decode cX3_shortenThrough 9 = .ok (.istore_n 3, 1) := by decide +kernel
theorem dX3_shortenThrough_10 : decode cX3_shortenThrough 10 = .ok (.iload_n 3, 1) := by decide +kernel
theorem dX3_shortenThrough_11 : decode cX3_shortenThrough 11 = .ok (.bipush 6, 2) := by decide +kernel
theorem dX3_shortenThrough_13 : decode cX3_shortenThrough 13 = .ok (.if_icmp .ge 63, 3) := by decide +kernel
theorem dX3_shortenThrough_16 : decode cX3_shortenThrough 16 = .ok (.aload_n 0, 1) := by decide +kernel
theorem dX3_shortenThrough_17 : decode cX3_shortenThrough 17 = .ok (.getfield 15, 3) := by decide +kernel
theorem dX3_shortenThrough_20 : decode cX3_shortenThrough 20 = .ok (.iload_n 2, 1) := by decide +kernel
theorem dX3_shortenThrough_21 : decode cX3_shortenThrough 21 = .ok (.bipush 6, 2) := by decide +kernel
theorem dX3_shortenThrough_23 : decode cX3_shortenThrough 23 = .ok (.imul, 1) := by decide +kernel
theorem dX3_shortenThrough_24 : decode cX3_shortenThrough 24 = .ok (.iload_n 1, 1) := by decide +kernel
theorem dX3_shortenThrough_25 : decode cX3_shortenThrough 25 = .ok (.iadd, 1) := by decide +kernel
theorem dX3_shortenThrough_26 : decode cX3_shortenThrough 26 = .ok (.iaload, 1) := by decide +kernel
theorem dX3_shortenThrough_27 : decode cX3_shortenThrough 27 = .ok (.aload_n 0, 1) := by decide +kernel
theorem dX3_shortenThrough_28 : decode cX3_shortenThrough 28 = .ok (.getfield 15, 3) := by decide +kernel
theorem dX3_shortenThrough_31 : decode cX3_shortenThrough 31 = .ok (.iload_n 1, 1) := by decide +kernel
theorem dX3_shortenThrough_32 : decode cX3_shortenThrough 32 = .ok (.bipush 6, 2) := by decide +kernel
theorem dX3_shortenThrough_34 : decode cX3_shortenThrough 34 = .ok (.imul, 1) := by decide +kernel
theorem dX3_shortenThrough_35 : decode cX3_shortenThrough 35 = .ok (.iload_n 3, 1) := by decide +kernel
theorem dX3_shortenThrough_36 : decode cX3_shortenThrough 36 = .ok (.iadd, 1) := by decide +kernel
theorem dX3_shortenThrough_37 : decode cX3_shortenThrough 37 = .ok (.iaload, 1) := by decide +kernel
theorem dX3_shortenThrough_38 : decode cX3_shortenThrough 38 = .ok (.iadd, 1) := by decide +kernel
theorem dX3_shortenThrough_39 : decode cX3_shortenThrough 39 = .ok (.istore 4, 2) := by decide +kernel
theorem dX3_shortenThrough_41 : decode cX3_shortenThrough 41 = .ok (.iload 4, 2) := by decide +kernel
theorem dX3_shortenThrough_43 : decode cX3_shortenThrough 43 = .ok (.aload_n 0, 1) := by decide +kernel
theorem dX3_shortenThrough_44 : decode cX3_shortenThrough 44 = .ok (.getfield 15, 3) := by decide +kernel
theorem dX3_shortenThrough_47 : decode cX3_shortenThrough 47 = .ok (.iload_n 2, 1) := by decide +kernel
theorem dX3_shortenThrough_48 : decode cX3_shortenThrough 48 = .ok (.bipush 6, 2) := by decide +kernel
theorem dX3_shortenThrough_50 : decode cX3_shortenThrough 50 = .ok (.imul, 1) := by decide +kernel
theorem dX3_shortenThrough_51 : decode cX3_shortenThrough 51 = .ok (.iload_n 3, 1) := by decide +kernel
theorem dX3_shortenThrough_52 : decode cX3_shortenThrough 52 = .ok (.iadd, 1) := by decide +kernel
theorem dX3_shortenThrough_53 : decode cX3_shortenThrough 53 = .ok (.iaload, 1) := by decide +kernel
theorem dX3_shortenThrough_54 : decode cX3_shortenThrough 54 = .ok (.if_icmp .ge 16, 3) := by decide +kernel
theorem dX3_shortenThrough_57 : decode cX3_shortenThrough 57 = .ok (.aload_n 0, 1) := by decide +kernel
theorem dX3_shortenThrough_58 : decode cX3_shortenThrough 58 = .ok (.getfield 15, 3) := by decide +kernel
theorem dX3_shortenThrough_61 : decode cX3_shortenThrough 61 = .ok (.iload_n 2, 1) := by decide +kernel
theorem dX3_shortenThrough_62 : decode cX3_shortenThrough 62 = .ok (.bipush 6, 2) := by decide +kernel
theorem dX3_shortenThrough_64 : decode cX3_shortenThrough 64 = .ok (.imul, 1) := by decide +kernel
theorem dX3_shortenThrough_65 : decode cX3_shortenThrough 65 = .ok (.iload_n 3, 1) := by decide +kernel
theorem dX3_shortenThrough_66 : decode cX3_shortenThrough 66 = .ok (.iadd, 1) := by decide +kernel
theorem dX3_shortenThrough_67 : decode cX3_shortenThrough 67 = .ok (.iload 4, 2) := by decide +kernel
theorem dX3_shortenThrough_69 : decode cX3_shortenThrough 69 = .ok (.iastore, 1) := by decide +kernel
theorem dX3_shortenThrough_70 : decode cX3_shortenThrough 70 = .ok (.iinc 3 1, 3) := by decide +kernel
theorem dX3_shortenThrough_73 : decode cX3_shortenThrough 73 = .ok (.goto (-63), 3) := by decide +kernel
theorem dX3_shortenThrough_76 : decode cX3_shortenThrough 76 = .ok (.iinc 2 1, 3) := by decide +kernel
theorem dX3_shortenThrough_79 : decode cX3_shortenThrough 79 = .ok (.goto (-77), 3) := by decide +kernel
theorem dX3_shortenThrough_82 : decode cX3_shortenThrough 82 = .ok (.return_, 1) := by decide +kernel
theorem dX4_init_0 : decode cX4_init 0 = .ok (.aload_n 0, 1) := by decide +kernel
theorem dX4_init_1 : decode cX4_init 1 = .ok (.invokespecial 3, 3) := by decide +kernel
theorem dX4_init_4 : decode cX4_init 4 = .ok (.aload_n 0, 1) := by decide +kernel
theorem dX4_init_5 : decode cX4_init 5 = .ok (.bipush 40, 2) := by decide +kernel
theorem dX4_init_7 : decode cX4_init 7 = .ok (.newarray .int, 2) := by decide +kernel
theorem dX4_init_9 : decode cX4_init 9 = .ok (.putfield 9, 3) := by decide +kernel
theorem dX4_init_12 : decode cX4_init 12 = .ok (.aload_n 0, 1) := by decide +kernel
theorem dX4_init_13 : decode cX4_init 13 = .ok (.iconst 1, 1) := by decide +kernel
theorem dX4_init_14 : decode cX4_init 14 = .ok (.putfield 15, 3) := by decide +kernel
theorem dX4_init_17 : decode cX4_init 17 = .ok (.aload_n 0, 1) := by decide +kernel
theorem dX4_init_18 : decode cX4_init 18 = .ok (.iconst 0, 1) := by decide +kernel
theorem dX4_init_19 : decode cX4_init 19 = .ok (.putfield 19, 3) := by decide +kernel
theorem dX4_init_22 : decode cX4_init 22 = .ok (.aload_n 0, 1) := by decide +kernel
theorem dX4_init_23 : decode cX4_init 23 = .ok (.iconst 0, 1) := by decide +kernel
theorem dX4_init_24 : decode cX4_init 24 = .ok (.putfield 23, 3) := by decide +kernel
theorem dX4_init_27 : decode cX4_init 27 = .ok (.return_, 1) := by decide +kernel
theorem dX4_renew_0 : decode cX4_renew 0 = .ok (.aload_n 0, 1) := by decide +kernel
theorem dX4_renew_1 : decode cX4_renew 1 = .ok (.getfield 9, 3) := by decide +kernel
theorem dX4_renew_4 : decode cX4_renew 4 = .ok (.iconst 0, 1) := by decide +kernel
theorem dX4_renew_5 : decode cX4_renew 5 = .ok (.invokestatic 26, 3) := by decide +kernel
theorem dX4_renew_8 : decode cX4_renew 8 = .ok (.aload_n 0, 1) := by decide +kernel
theorem dX4_renew_9 : decode cX4_renew 9 = .ok (.iconst 0, 1) := by decide +kernel
theorem dX4_renew_10 : decode cX4_renew 10 = .ok (.putfield 15, 3) := by decide +kernel
theorem dX4_renew_13 : decode cX4_renew 13 = .ok (.aload_n 0, 1) := by decide +kernel
theorem dX4_renew_14 : decode cX4_renew 14 = .ok (.iload_n 1, 1) := by decide +kernel
theorem dX4_renew_15 : decode cX4_renew 15 = .ok (.putfield 19, 3) := by decide +kernel
theorem dX4_renew_18 : decode cX4_renew 18 = .ok (.aload_n 0, 1) := by decide +kernel
theorem dX4_renew_19 : decode cX4_renew 19 = .ok (.iload_n 2, 1) := by decide +kernel
theorem dX4_renew_20 : decode cX4_renew 20 = .ok (.putfield 23, 3) := by decide +kernel
theorem dX4_renew_23 : decode cX4_renew 23 = .ok (.return_, 1) := by decide +kernel
theorem dX4_set_0 : decode cX4_set 0 = .ok (.aload_n 0, 1) := by decide +kernel
theorem dX4_set_1 : decode cX4_set 1 = .ok (.getfield 9, 3) := by decide +kernel
theorem dX4_set_4 : decode cX4_set 4 = .ok (.iload_n 1, 1) := by decide +kernel
theorem dX4_set_5 : decode cX4_set 5 = .ok (.aload_n 0, 1) := by decide +kernel
theorem dX4_set_6 : decode cX4_set 6 = .ok (.getfield 19, 3) := by decide +kernel
theorem dX4_set_9 : decode cX4_set 9 = .ok (.ifCond .ne 8, 3) := by decide +kernel
theorem dX4_set_12 : decode cX4_set 12 = .ok (.iload_n 2, 1) := by decide +kernel
theorem dX4_set_13 : decode cX4_set 13 = .ok (.i2b, 1) := by decide +kernel
theorem dX4_set_14 : decode cX4_set 14 = .ok (.goto 17, 3) := by decide +kernel
theorem dX4_set_17 : decode cX4_set 17 = .ok (.aload_n 0, 1) := by decide +kernel
theorem dX4_set_18 : decode cX4_set 18 = .ok (.getfield 19, 3) := by decide +kernel
theorem dX4_set_21 : decode cX4_set 21 = .ok (.iconst 1, 1) := by decide +kernel
theorem dX4_set_22 : decode cX4_set 22 = .ok (.if_icmp .ne 8, 3) := by decide +kernel
theorem dX4_set_25 : decode cX4_set 25 = .ok (.iload_n 2, 1) := by decide +kernel
theorem dX4_set_26 : decode cX4_set 26 = .ok (.i2s, 1) := by decide +kernel
theorem dX4_set_27 : decode cX4_set 27 = .ok (.goto 4, 3) := by decide +kernel
theorem dX4_set_30 : decode cX4_set 30 = .ok (.iload_n 2, 1) := by decide +kernel
theorem dX4_set_31 : decode cX4_set 31 = .ok (.iastore, 1) := by decide +kernel
theorem dX4_set_32 : decode cX4_set 32 = .ok (.return_, 1) := by decide +kernel
theorem dX4_findingOf_0 : decode cX4_findingOf 0 = .ok (.aload_n 0, 1) := by decide +kernel
theorem dX4_findingOf_1 : decode cX4_findingOf 1 = .ok (.getfield 15, 3) := by decide +kernel
theorem dX4_findingOf_4 : decode cX4_findingOf 4 = .ok (.ifCond .eq 5, 3) := by decide +kernel
theorem dX4_findingOf_7 : decode cX4_findingOf 7 = .ok (.iconst 1, 1) := by decide +kernel
theorem dX4_findingOf_8 : decode cX4_findingOf 8 = .ok (.ireturn, 1) := by decide +kernel
theorem dX4_findingOf_9 : decode cX4_findingOf 9 = .ok (.iload_n 1, 1) := by decide +kernel
theorem dX4_findingOf_10 : decode cX4_findingOf 10 = .ok (.aload_n 0, 1) := by decide +kernel
theorem dX4_findingOf_11 : decode cX4_findingOf 11 = .ok (.getfield 19, 3) := by decide +kernel
theorem dX4_findingOf_14 : decode cX4_findingOf 14 = .ok (.if_icmp .eq 5, 3) := by decide +kernel
theorem dX4_findingOf_17 : decode cX4_findingOf 17 = .ok (.iconst 3, 1) := by decide +kernel
theorem dX4_findingOf_18 : decode cX4_findingOf 18 = .ok (.ireturn, 1) := by decide +kernel
theorem dX4_findingOf_19 : decode cX4_findingOf 19 = .ok (.iload_n 2, 1) := by decide +kernel
theorem dX4_findingOf_20 : decode cX4_findingOf 20 = .ok (.ifCond .lt 11, 3) := by decide +kernel
theorem dX4_findingOf_23 : decode cX4_findingOf 23 = .ok (.iload_n 2, 1) := by decide +kernel
theorem dX4_findingOf_24 : decode cX4_findingOf 24 = .ok (.aload_n 0, 1) := by decide +kernel
theorem dX4_findingOf_25 : decode cX4_findingOf 25 = .ok (.getfield 23, 3) := by decide +kernel
theorem dX4_findingOf_28 : decode cX4_findingOf 28 = .ok (.if_icmp .lt 7, 3) := by decide +kernel
theorem dX4_findingOf_31 : decode cX4_findingOf 31 = .ok (.iconst 2, 1) := by decide +kernel
theorem dX4_findingOf_32 : decode cX4_findingOf 32 = .ok (.goto 4, 3) := by decide +kernel
theorem dX4_findingOf_35 : decode cX4_findingOf 35 = .ok (.iconst 0, 1) := by decide +kernel
theorem dX4_findingOf_36 : decode cX4_findingOf 36 = .ok (.ireturn, 1) := by decide +kernel
theorem dX4_holds_0 : decode cX4_holds 0 = .ok (.iload_n 1, 1) := by decide +kernel
theorem dX4_holds_1 : decode cX4_holds 1 = .ok (.ifCond .lt 21, 3) := by decide +kernel
theorem dX4_holds_4 : decode cX4_holds 4 = .ok (.iload_n 2, 1) := by decide +kernel
theorem dX4_holds_5 : decode cX4_holds 5 = .ok (.ifCond .lt 17, 3) := by decide +kernel
theorem dX4_holds_8 : decode cX4_holds 8 = .ok (.iload_n 1, 1) := by decide +kernel
theorem dX4_holds_9 : decode cX4_holds 9 = .ok (.aload_n 0, 1) := by decide +kernel
theorem dX4_holds_10 : decode cX4_holds 10 = .ok (.getfield 23, 3) := by decide +kernel
theorem dX4_holds_13 : decode cX4_holds 13 = .ok (.iload_n 2, 1) := by decide +kernel
theorem dX4_holds_14 : decode cX4_holds 14 = .ok (.isub, 1) := by decide +kernel
theorem dX4_holds_15 : decode cX4_holds 15 = .ok (.if_icmp .gt 7, 3) := by decide +kernel
theorem dX4_holds_18 : decode cX4_holds 18 = .ok (.iconst 1, 1) := by decide +kernel
theorem dX4_holds_19 : decode cX4_holds 19 = .ok (.goto 4, 3) := by decide +kernel
theorem dX4_holds_22 : decode cX4_holds 22 = .ok (.iconst 0, 1) := by decide +kernel
theorem dX4_holds_23 : decode cX4_holds 23 = .ok (.ireturn, 1) := by decide +kernel
