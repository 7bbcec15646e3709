theorem dX0_init_0 : decode cX0_init 0 = .ok (.aload_n 0, 1) := by decide +kernel
theorem dX0_init_1 : decode cX0_init 1 = .ok (.invokespecial 3, 3) := by decide +kernel
theorem dX0_init_4 : decode cX0_init 4 = .ok (.aload_n 0, 1) := by decide +kernel
theorem dX0_init_5 : decode cX0_init 5 = .ok (.iconst 5, 1) := by decide +kernel
theorem dX0_init_6 : decode cX0_init 6 = .ok (.newarray .int, 2) := by decide +kernel
theorem dX0_init_8 : decode cX0_init 8 = .ok (.putfield 9, 3) := by decide +kernel
theorem dX0_init_11 : decode cX0_init 11 = .ok (.aload_n 0, 1) := by decide +kernel
theorem dX0_init_12 : decode cX0_init 12 = .ok (.bipush 6, 2) := by decide +kernel
theorem dX0_init_14 : decode cX0_init 14 = .ok (.newarray .int, 2) := by decide +kernel
theorem dX0_init_16 : decode cX0_init 16 = .ok (.putfield 15, 3) := by decide +kernel
theorem dX0_init_19 : decode cX0_init 19 = .ok (.return_, 1) := by decide +kernel
theorem dX0_settle_0 : decode cX0_settle 0 = .ok (.iconst 0, 1) := by decide +kernel
theorem dX0_settle_1 : decode cX0_settle 1 = .ok (.istore_n 3, 1) := by decide +kernel
theorem dX0_settle_2 : decode cX0_settle 2 = .ok (.iload_n 3, 1) := by decide +kernel
theorem dX0_settle_3 : decode cX0_settle 3 = .ok (.iconst 5, 1) := by decide +kernel
theorem dX0_settle_4 : decode cX0_settle 4 = .ok (.if_icmp .ge 21, 3) := by decide +kernel
theorem dX0_settle_7 : decode cX0_settle 7 = .ok (.aload_n 0, 1) := by decide +kernel
theorem dX0_settle_8 : decode cX0_settle 8 = .ok (.getfield 9, 3) := by decide +kernel
theorem dX0_settle_11 : decode cX0_settle 11 = .ok (.iload_n 3, 1) := by decide +kernel
theorem dX0_settle_12 : decode cX0_settle 12 = .ok (.aload_n 2, 1) := by decide +kernel
theorem dX0_settle_13 : decode cX0_settle 13 = .ok (.getfield 18, 3) := by decide +kernel
theorem dX0_settle_16 : decode cX0_settle 16 = .ok (.iload_n 3, 1) := by decide +kernel
theorem dX0_settle_17 : decode cX0_settle 17 = .ok (.iaload, 1) := by decide +kernel
theorem dX0_settle_18 : decode cX0_settle 18 = .ok (.iastore, 1) := by decide +kernel
theorem dX0_settle_19 : decode cX0_settle 19 = .ok (.iinc 3 1, 3) := by decide +kernel
theorem dX0_settle_22 : decode cX0_settle 22 = .ok (.goto (-20), 3) := by decide +kernel
theorem dX0_settle_25 : decode cX0_settle 25 = .ok (.iconst 0, 1) := by decide +kernel
theorem dX0_settle_26 : decode cX0_settle 26 = .ok (.istore_n 3, 1) := by decide +kernel
theorem dX0_settle_27 : decode cX0_settle 27 = .ok (.iload_n 3, 1) := by decide +kernel
theorem dX0_settle_28 : decode cX0_settle 28 = .ok (.bipush 20, 2) := by decide +kernel
theorem dX0_settle_30 : decode cX0_settle 30 = .ok (.if_icmp .ge 20, 3) := by decide +kernel
theorem dX0_settle_33 : decode cX0_settle 33 = .ok (.aload_n 0, 1) := by decide +kernel
theorem dX0_settle_34 : decode cX0_settle 34 = .ok (.aload_n 1, 1) := by decide +kernel
theorem dX0_settle_35 : decode cX0_settle 35 = .ok (.aload_n 2, 1) := by decide +kernel
theorem dX0_settle_36 : decode cX0_settle 36 = .ok (.invokevirtual 21, 3) := by decide +kernel
theorem dX0_settle_39 : decode cX0_settle 39 = .ok (.ifCond .ne 5, 3) := by decide +kernel
theorem dX0_settle_42 : decode cX0_settle 42 = .ok (.iload_n 3, 1) := by decide +kernel
theorem dX0_settle_43 : decode cX0_settle 43 = .ok (.ireturn, 1) := by decide +kernel
theorem dX0_settle_44 : decode cX0_settle 44 = .ok (.iinc 3 1, 3) := by decide +kernel
theorem dX0_settle_47 : decode cX0_settle 47 = .ok (.goto (-20), 3) := by decide +kernel
theorem dX0_settle_50 : decode cX0_settle 50 = .ok (.iconst (-1), 1) := by decide +kernel
theorem dX0_settle_51 : decode cX0_settle 51 = .ok (.ireturn, 1) := by decide +kernel
theorem dX0_roundChanges_0 : decode cX0_roundChanges 0 = .ok (.iconst 0, 1) := by decide +kernel
theorem dX0_roundChanges_1 : decode cX0_roundChanges 1 = .ok (.istore_n 3, 1) := by decide +kernel
theorem dX0_roundChanges_2 : decode cX0_roundChanges 2 = .ok (.iconst 0, 1) := by decide +kernel
theorem dX0_roundChanges_3 : decode cX0_roundChanges 3 = .ok (.istore 4, 2) := by decide +kernel
theorem dX0_roundChanges_5 : decode cX0_roundChanges 5 = .ok (.iload 4, 2) := by decide +kernel
theorem dX0_roundChanges_7 : decode cX0_roundChanges 7 = .ok (.aload_n 1, 1) := by decide +kernel
theorem dX0_roundChanges_8 : decode cX0_roundChanges 8 = .ok (.getfield 25, 3) := by decide +kernel
theorem dX0_roundChanges_11 : decode cX0_roundChanges 11 = .ok (.if_icmp .ge 48, 3) := by decide +kernel
theorem dX0_roundChanges_14 : decode cX0_roundChanges 14 = .ok (.aload_n 0, 1) := by decide +kernel
theorem dX0_roundChanges_15 : decode cX0_roundChanges 15 = .ok (.aload_n 1, 1) := by decide +kernel
theorem dX0_roundChanges_16 : decode cX0_roundChanges 16 = .ok (.aload_n 2, 1) := by decide +kernel
theorem dX0_roundChanges_17 : decode cX0_roundChanges 17 = .ok (.iload 4, 2) := by decide +kernel
theorem dX0_roundChanges_19 : decode cX0_roundChanges 19 = .ok (.invokevirtual 31, 3) := by decide +kernel
theorem dX0_roundChanges_22 : decode cX0_roundChanges 22 = .ok (.istore 5, 2) := by decide +kernel
theorem dX0_roundChanges_24 : decode cX0_roundChanges 24 = .ok (.iload_n 3, 1) := by decide +kernel
theorem dX0_roundChanges_25 : decode cX0_roundChanges 25 = .ok (.iload 5, 2) := by decide +kernel
theorem dX0_roundChanges_27 : decode cX0_roundChanges 27 = .ok (.aload_n 0, 1) := by decide +kernel
theorem dX0_roundChanges_28 : decode cX0_roundChanges 28 = .ok (.getfield 9, 3) := by decide +kernel
theorem dX0_roundChanges_31 : decode cX0_roundChanges 31 = .ok (.iload 4, 2) := by decide +kernel
theorem dX0_roundChanges_33 : decode cX0_roundChanges 33 = .ok (.iaload, 1) := by decide +kernel
theorem dX0_roundChanges_34 : decode cX0_roundChanges 34 = .ok (.if_icmp .eq 7, 3) := by decide +kernel
theorem dX0_roundChanges_37 : decode cX0_roundChanges 37 = .ok (.iconst 1, 1) := by decide +kernel
theorem dX0_roundChanges_38 : decode cX0_roundChanges 38 = .ok (.goto 4, 3) := by decide +kernel
theorem dX0_roundChanges_41 : decode cX0_roundChanges 41 = .ok (.iconst 0, 1) := by decide +kernel
theorem dX0_roundChanges_42 : decode cX0_roundChanges 42 = .ok (.ior, 1) := by decide +kernel
theorem dX0_roundChanges_43 : decode cX0_roundChanges 43 = .ok (.istore_n 3, 1) := by decide +kernel
theorem dX0_roundChanges_44 : decode cX0_roundChanges 44 = .ok (.aload_n 0, 1) := by decide +kernel
theorem dX0_roundChanges_45 : decode cX0_roundChanges 45 = .ok (.getfield 9, 3) := by decide +kernel
theorem dX0_roundChanges_48 : decode cX0_roundChanges 48 = .ok (.iload 4, 2) := by decide +kernel
theorem dX0_roundChanges_50 : decode cX0_roundChanges 50 = .ok (.iload 5, 2) := by decide +kernel
theorem dX0_roundChanges_52 : decode cX0_roundChanges 52 = .ok (.iastore, 1) := by decide +kernel
theorem dX0_roundChanges_53 : decode cX0_roundChanges 53 = .ok (.iinc 4 1, 3) := by decide +kernel
theorem dX0_roundChanges_56 : decode cX0_roundChanges 56 = .ok (.goto (-51), 3) := by decide +kernel
theorem dX0_roundChanges_59 : decode cX0_roundChanges 59 = .ok (.iload_n 3, 1) := by decide +kernel
theorem dX0_roundChanges_60 : decode cX0_roundChanges 60 = .ok (.ireturn, 1) := by decide +kernel
theorem dX0_bestBelt_0 : decode cX0_bestBelt 0 = .ok (.iconst 0, 1) := by decide +kernel
theorem dX0_bestBelt_1 : decode cX0_bestBelt 1 = .ok (.istore 4, 2) := by decide +kernel
theorem dX0_bestBelt_3 : decode cX0_bestBelt 3 = .ok (.iload 4, 2) := by decide +kernel
theorem dX0_bestBelt_5 : decode cX0_bestBelt 5 = .ok (.aload_n 1, 1) := by decide +kernel
theorem dX0_bestBelt_6 : decode cX0_bestBelt 6 = .ok (.getfield 35, 3) := by decide +kernel
theorem dX0_bestBelt_9 : decode cX0_bestBelt 9 = .ok (.if_icmp .ge 25, 3) := by decide +kernel
theorem dX0_bestBelt_12 : decode cX0_bestBelt 12 = .ok (.aload_n 0, 1) := by decide +kernel
theorem dX0_bestBelt_13 : decode cX0_bestBelt 13 = .ok (.getfield 15, 3) := by decide +kernel
theorem dX0_bestBelt_16 : decode cX0_bestBelt 16 = .ok (.iload 4, 2) := by decide +kernel
theorem dX0_bestBelt_18 : decode cX0_bestBelt 18 = .ok (.aload_n 0, 1) := by decide +kernel
theorem dX0_bestBelt_19 : decode cX0_bestBelt 19 = .ok (.aload_n 1, 1) := by decide +kernel
theorem dX0_bestBelt_20 : decode cX0_bestBelt 20 = .ok (.aload_n 2, 1) := by decide +kernel
theorem dX0_bestBelt_21 : decode cX0_bestBelt 21 = .ok (.iload 4, 2) := by decide +kernel
theorem dX0_bestBelt_23 : decode cX0_bestBelt 23 = .ok (.iload_n 3, 1) := by decide +kernel
theorem dX0_bestBelt_24 : decode cX0_bestBelt 24 = .ok (.invokevirtual 38, 3) := by decide +kernel
theorem dX0_bestBelt_27 : decode cX0_bestBelt 27 = .ok (.iastore, 1) := by decide +kernel
theorem dX0_bestBelt_28 : decode cX0_bestBelt 28 = .ok (.iinc 4 1, 3) := by decide +kernel
theorem dX0_bestBelt_31 : decode cX0_bestBelt 31 = .ok (.goto (-28), 3) := by decide +kernel
theorem dX0_bestBelt_34 : decode cX0_bestBelt 34 = .ok (.iconst 0, 1) := by decide +kernel
theorem dX0_bestBelt_35 : decode cX0_bestBelt 35 = .ok (.istore 4, 2) := by decide +kernel
theorem dX0_bestBelt_37 : decode cX0_bestBelt 37 = .ok (.aload_n 0, 1) := by decide +kernel
theorem dX0_bestBelt_38 : decode cX0_bestBelt 38 = .ok (.aload_n 1, 1) := by decide +kernel
theorem dX0_bestBelt_39 : decode cX0_bestBelt 39 = .ok (.aload_n 2, 1) := by decide +kernel
theorem dX0_bestBelt_40 : decode cX0_bestBelt 40 = .ok (.iload_n 3, 1) := by decide +kernel
theorem dX0_bestBelt_41 : decode cX0_bestBelt 41 = .ok (.iconst 0, 1) := by decide +kernel
theorem dX0_bestBelt_42 : decode cX0_bestBelt 42 = .ok (.invokevirtual 42, 3) := by decide +kernel
theorem dX0_bestBelt_45 : decode cX0_bestBelt 45 = .ok (.istore 5, 2) := by decide +kernel
theorem dX0_bestBelt_47 : decode cX0_bestBelt 47 = .ok (.bipush 10, 2) := by decide +kernel
theorem dX0_bestBelt_49 : decode cX0_bestBelt 49 = .ok (.istore 6, 2) := by decide +kernel
theorem dX0_bestBelt_51 : decode cX0_bestBelt 51 = .ok (.iload 6, 2) := by decide +kernel
theorem dX0_bestBelt_53 : decode cX0_bestBelt 53 = .ok (.bipush 90, 2) := by decide +kernel
theorem dX0_bestBelt_55 : decode cX0_bestBelt 55 = .ok (.if_icmp .gt 35, 3) := by decide +kernel
theorem dX0_bestBelt_58 : decode cX0_bestBelt 58 = .ok (.aload_n 0, 1) := by decide +kernel
theorem dX0_bestBelt_59 : decode cX0_bestBelt 59 = .ok (.aload_n 1, 1) := by decide +kernel
theorem dX0_bestBelt_60 : decode cX0_bestBelt 60 = .ok (.aload_n 2, 1) := by decide +kernel
theorem dX0_bestBelt_61 : decode cX0_bestBelt 61 = .ok (.iload_n 3, 1) := by decide +kernel
theorem dX0_bestBelt_62 : decode cX0_bestBelt 62 = .ok (.iload 6, 2) := by decide +kernel
theorem dX0_bestBelt_64 : decode cX0_bestBelt 64 = .ok (.invokevirtual 42, 3) := by decide +kernel
theorem dX0_bestBelt_67 : decode cX0_bestBelt 67 = .ok (.istore 7, 2) := by decide +kernel
theorem dX0_bestBelt_69 : decode cX0_bestBelt 69 = .ok (.iload 7, 2) := by decide +kernel
theorem dX0_bestBelt_71 : decode cX0_bestBelt 71 = .ok (.iload 5, 2) := by decide +kernel
theorem dX0_bestBelt_73 : decode cX0_bestBelt 73 = .ok (.if_icmp .le 11, 3) := by decide +kernel
theorem dX0_bestBelt_76 : decode cX0_bestBelt 76 = .ok (.iload 7, 2) := by decide +kernel
theorem dX0_bestBelt_78 : decode cX0_bestBelt 78 = .ok (.istore 5, 2) := by decide +kernel
theorem dX0_bestBelt_80 : decode cX0_bestBelt 80 = .ok (.iload 6, 2) := by decide +kernel
theorem dX0_bestBelt_82 : decode cX0_bestBelt 82 = .ok (.istore 4, 2) := by decide +kernel
theorem dX0_bestBelt_84 : decode cX0_bestBelt 84 = .ok (.iinc 6 10, 3) := by decide +kernel
theorem dX0_bestBelt_87 : decode cX0_bestBelt 87 = .ok (.goto (-36), 3) := by decide +kernel
theorem dX0_bestBelt_90 : decode cX0_bestBelt 90 = .ok (.iload 4, 2) := by decide +kernel
theorem dX0_bestBelt_92 : decode cX0_bestBelt 92 = .ok (.ireturn, 1) := by decide +kernel
theorem dX0_strongestRival_0 : decode cX0_strongestRival 0 = .ok (.iconst (-1), 1) := by decide +kernel
theorem dX0_strongestRival_1 : decode cX0_strongestRival 1 = .ok (.istore 5, 2) := by decide +kernel
theorem dX0_strongestRival_3 : decode cX0_strongestRival 3 = .ok (.iconst 0, 1) := by decide +kernel
theorem dX0_strongestRival_4 : decode cX0_strongestRival 4 = .ok (.istore 6, 2) := by decide +kernel
theorem dX0_strongestRival_6 : decode cX0_strongestRival 6 = .ok (.iload 6, 2) := by decide +kernel
theorem dX0_strongestRival_8 : decode cX0_strongestRival 8 = .ok (.aload_n 1, 1) := by decide +kernel
theorem dX0_strongestRival_9 : decode cX0_strongestRival 9 = .ok (.getfield 25, 3) := by decide +kernel
theorem dX0_strongestRival_12 : decode cX0_strongestRival 12 = .ok (.if_icmp .ge 54, 3) := by decide +kernel
theorem dX0_strongestRival_15 : decode cX0_strongestRival 15 = .ok (.iload 6, 2) := by decide +kernel
theorem dX0_strongestRival_17 : decode cX0_strongestRival 17 = .ok (.iload 4, 2) := by decide +kernel
theorem dX0_strongestRival_19 : decode cX0_strongestRival 19 = .ok (.if_icmp .eq 41, 3) := by decide +kernel
theorem dX0_strongestRival_22 : decode cX0_strongestRival 22 = .ok (.aload_n 2, 1) := by decide +kernel
theorem dX0_strongestRival_23 : decode cX0_strongestRival 23 = .ok (.getfield 45, 3) := by decide +kernel
theorem dX0_strongestRival_26 : decode cX0_strongestRival 26 = .ok (.iload_n 3, 1) := by decide +kernel
theorem dX0_strongestRival_27 : decode cX0_strongestRival 27 = .ok (.iload 6, 2) := by decide +kernel
theorem dX0_strongestRival_29 : decode cX0_strongestRival 29 = .ok (.invokestatic 48, 3) := by decide +kernel
theorem dX0_strongestRival_32 : decode cX0_strongestRival 32 = .ok (.iaload, 1) := by decide +kernel
theorem dX0_strongestRival_33 : decode cX0_strongestRival 33 = .ok (.aload_n 1, 1) := by decide +kernel
theorem dX0_strongestRival_34 : decode cX0_strongestRival 34 = .ok (.iload 6, 2) := by decide +kernel
theorem dX0_strongestRival_36 : decode cX0_strongestRival 36 = .ok (.aload_n 0, 1) := by decide +kernel
theorem dX0_strongestRival_37 : decode cX0_strongestRival 37 = .ok (.getfield 9, 3) := by decide +kernel
theorem dX0_strongestRival_40 : decode cX0_strongestRival 40 = .ok (.iload 6, 2) := by decide +kernel
theorem dX0_strongestRival_42 : decode cX0_strongestRival 42 = .ok (.iaload, 1) := by decide +kernel
theorem dX0_strongestRival_43 : decode cX0_strongestRival 43 = .ok (.invokevirtual 52, 3) := by decide +kernel
theorem dX0_strongestRival_46 : decode cX0_strongestRival 46 = .ok (.invokestatic 55, 3) := by decide +kernel
theorem dX0_strongestRival_49 : decode cX0_strongestRival 49 = .ok (.istore 7, 2) := by decide +kernel
theorem dX0_strongestRival_51 : decode cX0_strongestRival 51 = .ok (.iload 5, 2) := by decide +kernel
theorem dX0_strongestRival_53 : decode cX0_strongestRival 53 = .ok (.iload 7, 2) := by decide +kernel
theorem dX0_strongestRival_55 : decode cX0_strongestRival 55 = .ok (.invokestatic 55, 3) := by decide +kernel
theorem dX0_strongestRival_58 : decode cX0_strongestRival 58 = .ok (.istore 5, 2) := by decide +kernel
theorem dX0_strongestRival_60 : decode cX0_strongestRival 60 = .ok (.iinc 6 1, 3) := by decide +kernel
theorem dX0_strongestRival_63 : decode cX0_strongestRival 63 = .ok (.goto (-57), 3) := by decide +kernel
theorem dX0_strongestRival_66 : decode cX0_strongestRival 66 = .ok (.iload 5, 2) := by decide +kernel
theorem dX0_strongestRival_68 : decode cX0_strongestRival 68 = .ok (.ireturn, 1) := by decide +kernel
theorem dX0_gain_0 : decode cX0_gain 0 = .ok (.aload_n 1, 1) := by decide +kernel
theorem dX0_gain_1 : decode cX0_gain 1 = .ok (.iload_n 3, 1) := by decide +kernel
theorem dX0_gain_2 : decode cX0_gain 2 = .ok (.iload 4, 2) := by decide +kernel
theorem dX0_gain_4 : decode cX0_gain 4 = .ok (.invokevirtual 52, 3) := by decide +kernel
theorem dX0_gain_7 : decode cX0_gain 7 = .ok (.istore 5, 2) := by decide +kernel
theorem dX0_gain_9 : decode cX0_gain 9 = .ok (.iconst 0, 1) := by decide +kernel
theorem dX0_gain_10 : decode cX0_gain 10 = .ok (.istore 6, 2) := by decide +kernel
theorem dX0_gain_12 : decode cX0_gain 12 = .ok (.iconst 0, 1) := by decide +kernel
theorem dX0_gain_13 : decode cX0_gain 13 = .ok (.istore 7, 2) := by decide +kernel
theorem dX0_gain_15 : decode cX0_gain 15 = .ok (.iload 7, 2) := by decide +kernel
theorem dX0_gain_17 : decode cX0_gain 17 = .ok (.aload_n 1, 1) := by decide +kernel
theorem dX0_gain_18 : decode cX0_gain 18 = .ok (.getfield 35, 3) := by decide +kernel
theorem dX0_gain_21 : decode cX0_gain 21 = .ok (.if_icmp .ge 38, 3) := by decide +kernel
theorem dX0_gain_24 : decode cX0_gain 24 = .ok (.aload_n 2, 1) := by decide +kernel
theorem dX0_gain_25 : decode cX0_gain 25 = .ok (.getfield 45, 3) := by decide +kernel
theorem dX0_gain_28 : decode cX0_gain 28 = .ok (.iload 7, 2) := by decide +kernel
theorem dX0_gain_30 : decode cX0_gain 30 = .ok (.iload_n 3, 1) := by decide +kernel
theorem dX0_gain_31 : decode cX0_gain 31 = .ok (.invokestatic 48, 3) := by decide +kernel
theorem dX0_gain_34 : decode cX0_gain 34 = .ok (.iaload, 1) := by decide +kernel
theorem dX0_gain_35 : decode cX0_gain 35 = .ok (.iload 5, 2) := by decide +kernel
theorem dX0_gain_37 : decode cX0_gain 37 = .ok (.invokestatic 55, 3) := by decide +kernel
theorem dX0_gain_40 : decode cX0_gain 40 = .ok (.aload_n 0, 1) := by decide +kernel
theorem dX0_gain_41 : decode cX0_gain 41 = .ok (.getfield 15, 3) := by decide +kernel
theorem dX0_gain_44 : decode cX0_gain 44 = .ok (.iload 7, 2) := by decide +kernel
theorem dX0_gain_46 : decode cX0_gain 46 = .ok (.iaload, 1) := by decide +kernel
theorem dX0_gain_47 : decode cX0_gain 47 = .ok (.if_icmp .le 6, 3) := by decide +kernel
theorem dX0_gain_50 : decode cX0_gain 50 = .ok (.iinc 6 1, 3) := by decide +kernel
theorem dX0_gain_53 : decode cX0_gain 53 = .ok (.iinc 7 1, 3) := by decide +kernel
theorem dX0_gain_56 : decode cX0_gain 56 = .ok (.goto (-41), 3) := by decide +kernel
theorem dX0_gain_59 : decode cX0_gain 59 = .ok (.bipush 10, 2) := by decide +kernel
theorem dX0_gain_61 : decode cX0_gain 61 = .ok (.iload 6, 2) := by decide +kernel
theorem dX0_gain_63 : decode cX0_gain 63 = .ok (.imul, 1) := by decide +kernel
theorem dX0_gain_64 : decode cX0_gain 64 = .ok (.iconst 3, 1) := by decide +kernel
theorem dX0_gain_65 : decode cX0_gain 65 = .ok (.iconst 0, 1) := by decide +kernel
theorem dX0_gain_66 : decode cX0_gain 66 = .ok (.iload 5, 2) := by decide +kernel
theorem dX0_gain_68 : decode cX0_gain 68 = .ok (.aload_n 1, 1) := by decide +kernel
theorem dX0_gain_69 : decode cX0_gain 69 = .ok (.getfield 60, 3) := by decide +kernel
theorem dX0_gain_72 : decode cX0_gain 72 = .ok (.iload_n 3, 1) := by decide +kernel
theorem dX0_gain_73 : decode cX0_gain 73 = .ok (.iaload, 1) := by decide +kernel
theorem dX0_gain_74 : decode cX0_gain 74 = .ok (.isub, 1) := by decide +kernel
theorem dX0_gain_75 : decode cX0_gain 75 = .ok (.invokestatic 55, 3) := by decide +kernel
theorem dX0_gain_78 : decode cX0_gain 78 = .ok (.bipush 10, 2) := by decide +kernel
theorem dX0_gain_80 : decode cX0_gain 80 = .ok (.idiv, 1) := by decide +kernel
theorem dX0_gain_81 : decode cX0_gain 81 = .ok (.imul, 1) := by decide +kernel
theorem dX0_gain_82 : decode cX0_gain 82 = .ok (.isub, 1) := by decide +kernel
theorem dX0_gain_83 : decode cX0_gain 83 = .ok (.ireturn, 1) := by decide +kernel
theorem dX1_init_0 : decode cX1_init 0 = .ok (.aload_n 0, 1) := by decide +kernel
theorem dX1_init_1 : decode cX1_init 1 = .ok (.invokespecial 3, 3) := by decide +kernel
theorem dX1_init_4 : decode cX1_init 4 = .ok (.aload_n 0, 1) := by decide +kernel
theorem dX1_init_5 : decode cX1_init 5 = .ok (.bipush 15, 2) := by decide +kernel
theorem dX1_init_7 : decode cX1_init 7 = .ok (.newarray .int, 2) := by decide +kernel
theorem dX1_init_9 : decode cX1_init 9 = .ok (.putfield 9, 3) := by decide +kernel
theorem dX1_init_12 : decode cX1_init 12 = .ok (.aload_n 0, 1) := by decide +kernel
theorem dX1_init_13 : decode cX1_init 13 = .ok (.bipush 15, 2) := by decide +kernel
theorem dX1_init_15 : decode cX1_init 15 = .ok (.newarray .int, 2) := by decide +kernel
theorem dX1_init_17 : decode cX1_init 17 = .ok (.putfield 15, 3) := by decide +kernel
theorem dX1_init_20 : decode cX1_init 20 = .ok (.return_, 1) := by decide +kernel
theorem dX1_enter_0 : decode cX1_enter 0 = .ok (.aload_n 0, 1) := by decide +kernel
theorem dX1_enter_1 : decode cX1_enter 1 = .ok (.getfield 18, 3) := by decide +kernel
theorem dX1_enter_4 : decode cX1_enter 4 = .ok (.bipush 15, 2) := by decide +kernel
theorem dX1_enter_6 : decode cX1_enter 6 = .ok (.if_icmp .lt 6, 3) := by decide +kernel
theorem dX1_enter_9 : decode cX1_enter 9 = .ok (.ldc 22, 2) := by decide +kernel
theorem dX1_enter_11 : decode cX1_enter 11 = .ok (.ireturn, 1) := by decide +kernel
theorem dX1_enter_12 : decode cX1_enter 12 = .ok (.aload_n 0, 1) := by decide +kernel
theorem dX1_enter_13 : decode cX1_enter 13 = .ok (.getfield 9, 3) := by decide +kernel
theorem dX1_enter_16 : decode cX1_enter 16 = .ok (.aload_n 0, 1) := by decide +kernel
theorem dX1_enter_17 : decode cX1_enter 17 = .ok (.getfield 18, 3) := by decide +kernel
theorem dX1_enter_20 : decode cX1_enter 20 = .ok (.iload_n 1, 1) := by decide +kernel
theorem dX1_enter_21 : decode cX1_enter 21 = .ok (.iastore, 1) := by decide +kernel
theorem dX1_enter_22 : decode cX1_enter 22 = .ok (.aload_n 0, 1) := by decide +kernel
theorem dX1_enter_23 : decode cX1_enter 23 = .ok (.getfield 15, 3) := by decide +kernel
theorem dX1_enter_26 : decode cX1_enter 26 = .ok (.aload_n 0, 1) := by decide +kernel
theorem dX1_enter_27 : decode cX1_enter 27 = .ok (.getfield 18, 3) := by decide +kernel
theorem dX1_enter_30 : decode cX1_enter 30 = .ok (.iload_n 2, 1) := by decide +kernel
theorem dX1_enter_31 : decode cX1_enter 31 = .ok (.iastore, 1) := by decide +kernel
theorem dX1_enter_32 : decode cX1_enter 32 = .ok (.aload_n 0, 1) := by decide +kernel
theorem dX1_enter_33 : decode cX1_enter 33 = .ok (.dup, 1) := by decide +kernel
theorem dX1_enter_34 : decode cX1_enter 34 = .ok (.getfield 18, 3) := by decide +kernel
theorem dX1_enter_37 : decode cX1_enter 37 = .ok (.iconst 1, 1) := by decide +kernel
theorem dX1_enter_38 : decode cX1_enter 38 = .ok (.iadd, 1) := by decide +kernel
theorem dX1_enter_39 : decode cX1_enter 39 = .ok (.putfield 18, 3) := by decide +kernel
theorem dX1_enter_42 : decode cX1_enter 42 = .ok (.aload_n 0, 1) := by decide +kernel
theorem dX1_enter_43 : decode cX1_enter 43 = .ok (.getfield 18, 3) := by decide +kernel
theorem dX1_enter_46 : decode cX1_enter 46 = .ok (.ireturn, 1) := by decide +kernel
theorem dX1_firstWrong_0 : decode cX1_firstWrong 0 = .ok (.iconst 0, 1) := by decide +kernel
theorem dX1_firstWrong_1 : decode cX1_firstWrong 1 = .ok (.istore_n 2, 1) := by decide +kernel
theorem dX1_firstWrong_2 : decode cX1_firstWrong 2 = .ok (.iload_n 2, 1) := by decide +kernel
theorem dX1_firstWrong_3 : decode cX1_firstWrong 3 = .ok (.aload_n 0, 1) := by decide +kernel
theorem dX1_firstWrong_4 : decode cX1_firstWrong 4 = .ok (.getfield 18, 3) := by decide +kernel
theorem dX1_firstWrong_7 : decode cX1_firstWrong 7 = .ok (.if_icmp .ge 31, 3) := by decide +kernel
theorem dX1_firstWrong_10 : decode cX1_firstWrong 10 = .ok (.aload_n 1, 1) := by decide +kernel
theorem dX1_firstWrong_11 : decode cX1_firstWrong 11 = .ok (.getfield 23, 3) := by decide +kernel
theorem dX1_firstWrong_14 : decode cX1_firstWrong 14 = .ok (.aload_n 0, 1) := by decide +kernel
theorem dX1_firstWrong_15 : decode cX1_firstWrong 15 = .ok (.getfield 9, 3) := by decide +kernel
theorem dX1_firstWrong_18 : decode cX1_firstWrong 18 = .ok (.iload_n 2, 1) := by decide +kernel
theorem dX1_firstWrong_19 : decode cX1_firstWrong 19 = .ok (.iaload, 1) := by decide +kernel
theorem dX1_firstWrong_20 : decode cX1_firstWrong 20 = .ok (.iaload, 1) := by decide +kernel
theorem dX1_firstWrong_21 : decode cX1_firstWrong 21 = .ok (.aload_n 0, 1) := by decide +kernel
theorem dX1_firstWrong_22 : decode cX1_firstWrong 22 = .ok (.getfield 15, 3) := by decide +kernel
theorem dX1_firstWrong_25 : decode cX1_firstWrong 25 = .ok (.iload_n 2, 1) := by decide +kernel
theorem dX1_firstWrong_26 : decode cX1_firstWrong 26 = .ok (.iaload, 1) := by decide +kernel
theorem dX1_firstWrong_27 : decode cX1_firstWrong 27 = .ok (.if_icmp .eq 5, 3) := by decide +kernel
theorem dX1_firstWrong_30 : decode cX1_firstWrong 30 = .ok (.iload_n 2, 1) := by decide +kernel
theorem dX1_firstWrong_31 : decode cX1_firstWrong 31 = .ok (.ireturn, 1) := by decide +kernel
theorem dX1_firstWrong_32 : decode cX1_firstWrong 32 = .ok (.iinc 2 1, 3) := by decide +kernel
theorem dX1_firstWrong_35 : decode cX1_firstWrong 35 = .ok (.goto (-33), 3) := by decide +kernel
theorem dX1_firstWrong_38 : decode cX1_firstWrong 38 = .ok (.iconst (-1), 1) := by decide +kernel
theorem dX1_firstWrong_39 : decode cX1_firstWrong 39 = .ok (.ireturn, 1) := by decide +kernel
theorem dX2_init_0 : decode cX2_init 0 = .ok (.aload_n 0, 1) := by decide +kernel
theorem dX2_init_1 : decode cX2_init 1 = .ok (.invokespecial 3, 3) := by decide +kernel
theorem dX2_init_4 : decode cX2_init 4 = .ok (.aload_n 0, 1) := by decide +kernel
theorem dX2_init_5 : decode cX2_init 5 = .ok (.iconst 5, 1) := by decide +kernel
theorem dX2_init_6 : decode cX2_init 6 = .ok (.newarray .int, 2) := by decide +kernel
theorem dX2_init_8 : decode cX2_init 8 = .ok (.putfield 9, 3) := by decide +kernel
theorem dX2_init_11 : decode cX2_init 11 = .ok (.aload_n 0, 1) := by decide +kernel
theorem dX2_init_12 : decode cX2_init 12 = .ok (.iconst 5, 1) := by decide +kernel
theorem dX2_init_13 : decode cX2_init 13 = .ok (.newarray .int, 2) := by decide +kernel
theorem dX2_init_15 : decode cX2_init 15 = .ok (.putfield 15, 3) := by decide +kernel
theorem dX2_init_18 : decode cX2_init 18 = .ok (.aload_n 0, 1) := by decide +kernel
theorem dX2_init_19 : decode cX2_init 19 = .ok (.iconst 5, 1) := by decide +kernel
theorem dX2_init_20 : decode cX2_init 20 = .ok (.newarray .int, 2) := by decide +kernel
theorem dX2_init_22 : decode cX2_init 22 = .ok (.putfield 18, 3) := by decide +kernel
theorem dX2_init_25 : decode cX2_init 25 = .ok (.aload_n 0, 1) := by decide +kernel
theorem dX2_init_26 : decode cX2_init 26 = .ok (.bipush 6, 2) := by decide +kernel
theorem dX2_init_28 : decode cX2_init 28 = .ok (.newarray .int, 2) := by decide +kernel
theorem dX2_init_30 : decode cX2_init 30 = .ok (.putfield 21, 3) := by decide +kernel
theorem dX2_init_33 : decode cX2_init 33 = .ok (.aload_n 0, 1) := by decide +kernel
theorem dX2_init_34 : decode cX2_init 34 = .ok (.bipush 6, 2) := by decide +kernel
theorem dX2_init_36 : decode cX2_init 36 = .ok (.newarray .int, 2) := by decide +kernel
theorem dX2_init_38 : decode cX2_init 38 = .ok (.putfield 24, 3) := by decide +kernel
theorem dX2_init_41 : decode cX2_init 41 = .ok (.aload_n 0, 1) := by decide +kernel
theorem dX2_init_42 : decode cX2_init 42 = .ok (.bipush 6, 2) := by decide +kernel
theorem dX2_init_44 : decode cX2_init 44 = .ok (.newarray .int, 2) := by decide +kernel
theorem dX2_init_46 : decode cX2_init 46 = .ok (.putfield 27, 3) := by decide +kernel
theorem dX2_init_49 : decode cX2_init 49 = .ok (.aload_n 0, 1) := by decide +kernel
theorem dX2_init_50 : decode cX2_init 50 = .ok (.bipush 6, 2) := by decide +kernel
theorem dX2_init_52 : decode cX2_init 52 = .ok (.newarray .int, 2) := by decide +kernel
theorem dX2_init_54 : decode cX2_init 54 = .ok (.putfield 30, 3) := by decide +kernel
theorem dX2_init_57 : decode cX2_init 57 = .ok (.aload_n 0, 1) := by decide +kernel
theorem dX2_init_58 : decode cX2_init 58 = .ok (.bipush 6, 2) := by decide +kernel
theorem dX2_init_60 : decode cX2_init 60 = .ok (.newarray .int, 2) := by decide +kernel
theorem dX2_init_62 : decode cX2_init 62 = .ok (.putfield 33, 3) := by decide +kernel
theorem dX2_init_65 : decode cX2_init 65 = .ok (.aload_n 0, 1) := by decide +kernel
theorem dX2_init_66 : decode cX2_init 66 = .ok (.iconst 4, 1) := by decide +kernel
theorem dX2_init_67 : decode cX2_init 67 = .ok (.newarray .int, 2) := by decide +kernel
theorem dX2_init_69 : decode cX2_init 69 = .ok (.putfield 36, 3) := by decide +kernel
theorem dX2_init_72 : decode cX2_init 72 = .ok (.aload_n 0, 1) := by decide +kernel
theorem dX2_init_73 : decode cX2_init 73 = .ok (.iconst 4, 1) := by decide +kernel
theorem dX2_init_74 : decode cX2_init 74 = .ok (.newarray .int, 2) := by decide +kernel
theorem dX2_init_76 : decode cX2_init 76 = .ok (.putfield 39, 3) := by decide +kernel
theorem dX2_init_79 : decode cX2_init 79 = .ok (.aload_n 0, 1) := by decide +kernel
theorem dX2_init_80 : decode cX2_init 80 = .ok (.iconst 4, 1) := by decide +kernel
theorem dX2_init_81 : decode cX2_init 81 = .ok (.newarray .int, 2) := by decide +kernel
theorem dX2_init_83 : decode cX2_init 83 = .ok (.putfield 42, 3) := by decide +kernel
theorem dX2_init_86 : decode cX2_init 86 = .ok (.aload_n 0, 1) := by decide +kernel
theorem dX2_init_87 : decode cX2_init 87 = .ok (.bipush 30, 2) := by decide +kernel
theorem dX2_init_89 : decode cX2_init 89 = .ok (.newarray .int, 2) := by decide +kernel
theorem dX2_init_91 : decode cX2_init 91 = .ok (.putfield 45, 3) := by decide +kernel
theorem dX2_init_94 : decode cX2_init 94 = .ok (.return_, 1) := by decide +kernel
theorem dX2_clear_0 : decode cX2_clear 0 = .ok (.aload_n 0, 1) := by decide +kernel
theorem dX2_clear_1 : decode cX2_clear 1 = .ok (.iconst 0, 1) := by decide +kernel
theorem dX2_clear_2 : decode cX2_clear 2 = .ok (.putfield 48, 3) := by decide +kernel
theorem dX2_clear_5 : decode cX2_clear 5 = .ok (.aload_n 0, 1) := by decide +kernel
theorem dX2_clear_6 : decode cX2_clear 6 = .ok (.iconst 0, 1) := by decide +kernel
theorem dX2_clear_7 : decode cX2_clear 7 = .ok (.putfield 52, 3) := by decide +kernel
theorem dX2_clear_10 : decode cX2_clear 10 = .ok (.aload_n 0, 1) := by decide +kernel
theorem dX2_clear_11 : decode cX2_clear 11 = .ok (.iconst 0, 1) := by decide +kernel
theorem dX2_clear_12 : decode cX2_clear 12 = .ok (.putfield 55, 3) := by decide +kernel
theorem dX2_clear_15 : decode cX2_clear 15 = .ok (.aload_n 0, 1) := by decide +kernel
theorem dX2_clear_16 : decode cX2_clear 16 = .ok (.iconst 0, 1) := by decide +kernel
theorem dX2_clear_17 : decode cX2_clear 17 = .ok (.putfield 58, 3) := by decide +kernel
theorem dX2_clear_20 : decode cX2_clear 20 = .ok (.aload_n 0, 1) := by decide +kernel
theorem dX2_clear_21 : decode cX2_clear 21 = .ok (.iconst 0, 1) := by decide +kernel
theorem dX2_clear_22 : decode cX2_clear 22 = .ok (.putfield 61, 3) := by decide +kernel
theorem dX2_clear_25 : decode cX2_clear 25 = .ok (.aload_n 0, 1) := by decide +kernel
theorem dX2_clear_26 : decode cX2_clear 26 = .ok (.iconst 0, 1) := by decide +kernel
theorem dX2_clear_27 : decode cX2_clear 27 = .ok (.putfield 64, 3) := by decide +kernel
theorem dX2_clear_30 : decode cX2_clear 30 = .ok (.iconst 0, 1) := by decide +kernel
theorem dX2_clear_31 : decode cX2_clear 31 = .ok (.istore_n 1, 1) := by decide +kernel
theorem dX2_clear_32 : decode cX2_clear 32 = .ok (.iload_n 1, 1) := by decide +kernel
theorem dX2_clear_33 : decode cX2_clear 33 = .ok (.bipush 6, 2) := by decide +kernel
theorem dX2_clear_35 : decode cX2_clear 35 = .ok (.if_icmp .ge 16, 3) := by decide +kernel
theorem dX2_clear_38 : decode cX2_clear 38 = .ok (.aload_n 0, 1) := by decide +kernel
theorem dX2_clear_39 : decode cX2_clear 39 = .ok (.getfield 21, 3) := by decide +kernel
theorem dX2_clear_42 : decode cX2_clear 42 = .ok (.iload_n 1, 1) := by decide +kernel
theorem dX2_clear_43 : decode cX2_clear 43 = .ok (.iconst 0, 1) := by decide +kernel
theorem dX2_clear_44 : decode cX2_clear 44 = .ok (.iastore, 1) := by decide +kernel
theorem dX2_clear_45 : decode cX2_clear 45 = .ok (.iinc 1 1, 3) := by decide +kernel
theorem dX2_clear_48 : decode cX2_clear 48 = .ok (.goto (-16), 3) := by decide +kernel
theorem dX2_clear_51 : decode cX2_clear 51 = .ok (.iconst 0, 1) := by decide +kernel
theorem dX2_clear_52 : decode cX2_clear 52 = .ok (.istore_n 1, 1) := by decide +kernel
theorem dX2_clear_53 : decode cX2_clear 53 = .ok (.iload_n 1, 1) := by decide +kernel
theorem dX2_clear_54 : decode cX2_clear 54 = .ok (.bipush 30, 2) := by decide +kernel
theorem dX2_clear_56 : decode cX2_clear 56 = .ok (.if_icmp .ge 16, 3) := by decide +kernel
theorem dX2_clear_59 : decode cX2_clear 59 = .ok (.aload_n 0, 1) := by decide +kernel
theorem dX2_clear_60 : decode cX2_clear 60 = .ok (.getfield 45, 3) := by decide +kernel
theorem dX2_clear_63 : decode cX2_clear 63 = .ok (.iload_n 1, 1) := by decide +kernel
theorem dX2_clear_64 : decode cX2_clear 64 = .ok (.iconst 0, 1) := by decide +kernel
theorem dX2_clear_65 : decode cX2_clear 65 = .ok (.iastore, 1) := by decide +kernel
theorem dX2_clear_66 : decode cX2_clear 66 = .ok (.iinc 1 1, 3) := by decide +kernel
theorem dX2_clear_69 : decode cX2_clear 69 = .ok (.goto (-16), 3) := by decide +kernel
theorem dX2_clear_72 : decode cX2_clear 72 = .ok (.return_, 1) := by decide +kernel
theorem dX2_readsAs_0 : decode cX2_readsAs 0 = .ok (.aload_n 0, 1) := by decide +kernel
theorem dX2_readsAs_1 : decode cX2_readsAs 1 = .ok (.getfield 9, 3) := by decide +kernel
theorem dX2_readsAs_4 : decode cX2_readsAs 4 = .ok (.iload_n 1, 1) := by decide +kernel
theorem dX2_readsAs_5 : decode cX2_readsAs 5 = .ok (.iaload, 1) := by decide +kernel
theorem dX2_readsAs_6 : decode cX2_readsAs 6 = .ok (.iconst 1, 1) := by decide +kernel
theorem dX2_readsAs_7 : decode cX2_readsAs 7 = .ok (.if_icmp .ne 5, 3) := by decide +kernel
theorem dX2_readsAs_10 : decode cX2_readsAs 10 = .ok (.iconst 0, 1) := by decide +kernel
theorem dX2_readsAs_11 : decode cX2_readsAs 11 = .ok (.ireturn, 1) := by decide +kernel
theorem dX2_readsAs_12 : decode cX2_readsAs 12 = .ok (.aload_n 0, 1) := by decide +kernel
theorem dX2_readsAs_13 : decode cX2_readsAs 13 = .ok (.getfield 9, 3) := by decide +kernel
theorem dX2_readsAs_16 : decode cX2_readsAs 16 = .ok (.iload_n 1, 1) := by decide +kernel
theorem dX2_readsAs_17 : decode cX2_readsAs 17 = .ok (.iaload, 1) := by decide +kernel
theorem dX2_readsAs_18 : decode cX2_readsAs 18 = .ok (.iconst 2, 1) := by decide +kernel
theorem dX2_readsAs_19 : decode cX2_readsAs 19 = .ok (.if_icmp .ne 16, 3) := by decide +kernel
theorem dX2_readsAs_22 : decode cX2_readsAs 22 = .ok (.bipush 99, 2) := by decide +kernel
theorem dX2_readsAs_24 : decode cX2_readsAs 24 = .ok (.iload_n 2, 1) := by decide +kernel
theorem dX2_readsAs_25 : decode cX2_readsAs 25 = .ok (.iload_n 2, 1) := by decide +kernel
theorem dX2_readsAs_26 : decode cX2_readsAs 26 = .ok (.iconst 2, 1) := by decide +kernel
theorem dX2_readsAs_27 : decode cX2_readsAs 27 = .ok (.idiv, 1) := by decide +kernel
theorem dX2_readsAs_28 : decode cX2_readsAs 28 = .ok (.iadd, 1) := by decide +kernel
theorem dX2_readsAs_29 : decode cX2_readsAs 29 = .ok (.invokestatic 67, 3) := by decide +kernel
theorem dX2_readsAs_32 : decode cX2_readsAs 32 = .ok (.goto 4, 3) := by decide +kernel
theorem dX2_readsAs_35 : decode cX2_readsAs 35 = .ok (.iload_n 2, 1) := by decide +kernel
theorem dX2_readsAs_36 : decode cX2_readsAs 36 = .ok (.ireturn, 1) := by decide +kernel
theorem dX2_tricksOf_0 : decode cX2_tricksOf 0 = .ok (.iconst 0, 1) := by decide +kernel
theorem dX2_tricksOf_1 : decode cX2_tricksOf 1 = .ok (.istore_n 2, 1) := by decide +kernel
theorem dX2_tricksOf_2 : decode cX2_tricksOf 2 = .ok (.iconst 0, 1) := by decide +kernel
theorem dX2_tricksOf_3 : decode cX2_tricksOf 3 = .ok (.istore_n 3, 1) := by decide +kernel
theorem dX2_tricksOf_4 : decode cX2_tricksOf 4 = .ok (.iload_n 3, 1) := by decide +kernel
theorem dX2_tricksOf_5 : decode cX2_tricksOf 5 = .ok (.aload_n 0, 1) := by decide +kernel
theorem dX2_tricksOf_6 : decode cX2_tricksOf 6 = .ok (.getfield 61, 3) := by decide +kernel
theorem dX2_tricksOf_9 : decode cX2_tricksOf 9 = .ok (.if_icmp .ge 25, 3) := by decide +kernel
theorem dX2_tricksOf_12 : decode cX2_tricksOf 12 = .ok (.aload_n 0, 1) := by decide +kernel
theorem dX2_tricksOf_13 : decode cX2_tricksOf 13 = .ok (.getfield 36, 3) := by decide +kernel
theorem dX2_tricksOf_16 : decode cX2_tricksOf 16 = .ok (.iload_n 3, 1) := by decide +kernel
theorem dX2_tricksOf_17 : decode cX2_tricksOf 17 = .ok (.iaload, 1) := by decide +kernel
theorem dX2_tricksOf_18 : decode cX2_tricksOf 18 = .ok (.iload_n 1, 1) := by decide +kernel
theorem dX2_tricksOf_19 : decode cX2_tricksOf 19 = .ok (.if_icmp .ne 9, 3) := by decide +kernel
theorem dX2_tricksOf_22 : decode cX2_tricksOf 22 = .ok (.iload_n 2, 1) := by decide +kernel
theorem dX2_tricksOf_23 : decode cX2_tricksOf 23 = .ok (.iconst 1, 1) := by decide +kernel
theorem dX2_tricksOf_24 : decode cX2_tricksOf 24 = .ok (.iload_n 3, 1) := by decide +kernel
theorem dX2_tricksOf_25 : decode cX2_tricksOf 25 = .ok (.ishl, 1) := by decide +kernel
theorem dX2_tricksOf_26 : decode cX2_tricksOf 26 = .ok (.ior, 1) := by decide +kernel
theorem dX2_tricksOf_27 : decode cX2_tricksOf 27 = .ok (.istore_n 2, 1) := by decide +kernel
theorem dX2_tricksOf_28 : decode cX2_tricksOf 28 = .ok (.iinc 3 1, 3) := by decide +kernel
theorem dX2_tricksOf_31 : decode cX2_tricksOf 31 = .ok (.goto (-27), 3) := by decide +kernel
theorem dX2_tricksOf_34 : decode cX2_tricksOf 34 = .ok (.iload_n 2, 1) := by decide +kernel
theorem dX2_tricksOf_35 : decode cX2_tricksOf 35 = .ok (.ireturn, 1) := by decide +kernel
theorem dX2_worthOf_0 : decode cX2_worthOf 0 = .ok (.aload_n 0, 1) := by decide +kernel
theorem dX2_worthOf_1 : decode cX2_worthOf 1 = .ok (.aload_n 0, 1) := by decide +kernel
theorem dX2_worthOf_2 : decode cX2_worthOf 2 = .ok (.getfield 30, 3) := by decide +kernel
theorem dX2_worthOf_5 : decode cX2_worthOf 5 = .ok (.iload_n 1, 1) := by decide +kernel
theorem dX2_worthOf_6 : decode cX2_worthOf 6 = .ok (.invokevirtual 73, 3) := by decide +kernel
theorem dX2_worthOf_9 : decode cX2_worthOf 9 = .ok (.ireturn, 1) := by decide +kernel
theorem dX2_fameOf_0 : decode cX2_fameOf 0 = .ok (.aload_n 0, 1) := by decide +kernel
theorem dX2_fameOf_1 : decode cX2_fameOf 1 = .ok (.aload_n 0, 1) := by decide +kernel
theorem dX2_fameOf_2 : decode cX2_fameOf 2 = .ok (.getfield 33, 3) := by decide +kernel
theorem dX2_fameOf_5 : decode cX2_fameOf 5 = .ok (.iload_n 1, 1) := by decide +kernel
theorem dX2_fameOf_6 : decode cX2_fameOf 6 = .ok (.invokevirtual 73, 3) := by decide +kernel
theorem dX2_fameOf_9 : decode cX2_fameOf 9 = .ok (.ireturn, 1) := by decide +kernel
theorem dX2_together_0 : decode cX2_together 0 = .ok (.iconst 0, 1) := by decide +kernel
theorem dX2_together_1 : decode cX2_together 1 = .ok (.istore_n 3, 1) := by decide +kernel
theorem dX2_together_2 : decode cX2_together 2 = .ok (.iconst 0, 1) := by decide +kernel
theorem dX2_together_3 : decode cX2_together 3 = .ok (.istore 4, 2) := by decide +kernel
theorem dX2_together_5 : decode cX2_together 5 = .ok (.iload 4, 2) := by decide +kernel
theorem dX2_together_7 : decode cX2_together 7 = .ok (.aload_n 0, 1) := by decide +kernel
theorem dX2_together_8 : decode cX2_together 8 = .ok (.getfield 58, 3) := by decide +kernel
theorem dX2_together_11 : decode cX2_together 11 = .ok (.if_icmp .ge 25, 3) := by decide +kernel
theorem dX2_together_14 : decode cX2_together 14 = .ok (.iload_n 2, 1) := by decide +kernel
theorem dX2_together_15 : decode cX2_together 15 = .ok (.iload 4, 2) := by decide +kernel
theorem dX2_together_17 : decode cX2_together 17 = .ok (.invokestatic 77, 3) := by decide +kernel
theorem dX2_together_20 : decode cX2_together 20 = .ok (.ifCond .eq 10, 3) := by decide +kernel
theorem dX2_together_23 : decode cX2_together 23 = .ok (.iload_n 3, 1) := by decide +kernel
theorem dX2_together_24 : decode cX2_together 24 = .ok (.aload_n 1, 1) := by decide +kernel
theorem dX2_together_25 : decode cX2_together 25 = .ok (.iload 4, 2) := by decide +kernel
theorem dX2_together_27 : decode cX2_together 27 = .ok (.iaload, 1) := by decide +kernel
theorem dX2_together_28 : decode cX2_together 28 = .ok (.iadd, 1) := by decide +kernel
theorem dX2_together_29 : decode cX2_together 29 = .ok (.istore_n 3, 1) := by decide +kernel
theorem dX2_together_30 : decode cX2_together 30 = .ok (.iinc 4 1, 3) := by decide +kernel
theorem dX2_together_33 : decode cX2_together 33 = .ok (.goto (-28), 3) := by decide +kernel
theorem dX2_together_36 : decode cX2_together 36 = .ok (.iload_n 3, 1) := by decide +kernel
theorem dX2_together_37 : decode cX2_together 37 = .ok (.ireturn, 1) := by decide +kernel
theorem dX2_passes_0 : decode cX2_passes 0 = .ok (.aload_n 0, 1) := by decide +kernel
theorem dX2_passes_1 : decode cX2_passes 1 = .ok (.getfield 9, 3) := by decide +kernel
theorem dX2_passes_4 : decode cX2_passes 4 = .ok (.iload_n 1, 1) := by decide +kernel
theorem dX2_passes_5 : decode cX2_passes 5 = .ok (.iaload, 1) := by decide +kernel
theorem dX2_passes_6 : decode cX2_passes 6 = .ok (.iconst 4, 1) := by decide +kernel
theorem dX2_passes_7 : decode cX2_passes 7 = .ok (.if_icmp .ne 5, 3) := by decide +kernel
theorem dX2_passes_10 : decode cX2_passes 10 = .ok (.iconst 0, 1) := by decide +kernel
theorem dX2_passes_11 : decode cX2_passes 11 = .ok (.ireturn, 1) := by decide +kernel
theorem dX2_passes_12 : decode cX2_passes 12 = .ok (.iload 4, 2) := by decide +kernel
theorem dX2_passes_14 : decode cX2_passes 14 = .ok (.aload_n 0, 1) := by decide +kernel
theorem dX2_passes_15 : decode cX2_passes 15 = .ok (.getfield 27, 3) := by decide +kernel
theorem dX2_passes_18 : decode cX2_passes 18 = .ok (.iload_n 2, 1) := by decide +kernel
theorem dX2_passes_19 : decode cX2_passes 19 = .ok (.iaload, 1) := by decide +kernel
theorem dX2_passes_20 : decode cX2_passes 20 = .ok (.if_icmp .gt 20, 3) := by decide +kernel
theorem dX2_passes_23 : decode cX2_passes 23 = .ok (.aload_n 0, 1) := by decide +kernel
theorem dX2_passes_24 : decode cX2_passes 24 = .ok (.getfield 15, 3) := by decide +kernel
theorem dX2_passes_27 : decode cX2_passes 27 = .ok (.iload_n 1, 1) := by decide +kernel
theorem dX2_passes_28 : decode cX2_passes 28 = .ok (.iaload, 1) := by decide +kernel
theorem dX2_passes_29 : decode cX2_passes 29 = .ok (.aload_n 0, 1) := by decide +kernel
theorem dX2_passes_30 : decode cX2_passes 30 = .ok (.iload_n 2, 1) := by decide +kernel
theorem dX2_passes_31 : decode cX2_passes 31 = .ok (.iload_n 3, 1) := by decide +kernel
theorem dX2_passes_32 : decode cX2_passes 32 = .ok (.iload 4, 2) := by decide +kernel
theorem dX2_passes_34 : decode cX2_passes 34 = .ok (.invokevirtual 81, 3) := by decide +kernel
theorem dX2_passes_37 : decode cX2_passes 37 = .ok (.if_icmp .lt 7, 3) := by decide +kernel
theorem dX2_passes_40 : decode cX2_passes 40 = .ok (.iconst 1, 1) := by decide +kernel
theorem dX2_passes_41 : decode cX2_passes 41 = .ok (.goto 4, 3) := by decide +kernel
theorem dX2_passes_44 : decode cX2_passes 44 = .ok (.iconst 0, 1) := by decide +kernel
theorem dX2_passes_45 : decode cX2_passes 45 = .ok (.ireturn, 1) := by decide +kernel
theorem dX2_dangerLeft_0 : decode cX2_dangerLeft 0 = .ok (.aload_n 0, 1) := by decide +kernel
theorem dX2_dangerLeft_1 : decode cX2_dangerLeft 1 = .ok (.getfield 27, 3) := by decide +kernel
theorem dX2_dangerLeft_4 : decode cX2_dangerLeft 4 = .ok (.iload_n 1, 1) := by decide +kernel
theorem dX2_dangerLeft_5 : decode cX2_dangerLeft 5 = .ok (.iaload, 1) := by decide +kernel
theorem dX2_dangerLeft_6 : decode cX2_dangerLeft 6 = .ok (.istore 4, 2) := by decide +kernel
theorem dX2_dangerLeft_8 : decode cX2_dangerLeft 8 = .ok (.iconst 0, 1) := by decide +kernel
theorem dX2_dangerLeft_9 : decode cX2_dangerLeft 9 = .ok (.istore 5, 2) := by decide +kernel
theorem dX2_dangerLeft_11 : decode cX2_dangerLeft 11 = .ok (.iload 5, 2) := by decide +kernel
theorem dX2_dangerLeft_13 : decode cX2_dangerLeft 13 = .ok (.aload_n 0, 1) := by decide +kernel
theorem dX2_dangerLeft_14 : decode cX2_dangerLeft 14 = .ok (.getfield 61, 3) := by decide +kernel
theorem dX2_dangerLeft_17 : decode cX2_dangerLeft 17 = .ok (.if_icmp .ge 45, 3) := by decide +kernel
theorem dX2_dangerLeft_20 : decode cX2_dangerLeft 20 = .ok (.iload_n 2, 1) := by decide +kernel
theorem dX2_dangerLeft_21 : decode cX2_dangerLeft 21 = .ok (.iload 5, 2) := by decide +kernel
theorem dX2_dangerLeft_23 : decode cX2_dangerLeft 23 = .ok (.invokestatic 77, 3) := by decide +kernel
theorem dX2_dangerLeft_26 : decode cX2_dangerLeft 26 = .ok (.ifCond .eq 30, 3) := by decide +kernel
theorem dX2_dangerLeft_29 : decode cX2_dangerLeft 29 = .ok (.aload_n 0, 1) := by decide +kernel
theorem dX2_dangerLeft_30 : decode cX2_dangerLeft 30 = .ok (.getfield 42, 3) := by decide +kernel
theorem dX2_dangerLeft_33 : decode cX2_dangerLeft 33 = .ok (.iload 5, 2) := by decide +kernel
theorem dX2_dangerLeft_35 : decode cX2_dangerLeft 35 = .ok (.iaload, 1) := by decide +kernel
theorem dX2_dangerLeft_36 : decode cX2_dangerLeft 36 = .ok (.iload_n 3, 1) := by decide +kernel
theorem dX2_dangerLeft_37 : decode cX2_dangerLeft 37 = .ok (.if_icmp .gt 19, 3) := by decide +kernel
theorem dX2_dangerLeft_40 : decode cX2_dangerLeft 40 = .ok (.iconst 0, 1) := by decide +kernel
theorem dX2_dangerLeft_41 : decode cX2_dangerLeft 41 = .ok (.iload 4, 2) := by decide +kernel
theorem dX2_dangerLeft_43 : decode cX2_dangerLeft 43 = .ok (.aload_n 0, 1) := by decide +kernel
theorem dX2_dangerLeft_44 : decode cX2_dangerLeft 44 = .ok (.getfield 39, 3) := by decide +kernel
theorem dX2_dangerLeft_47 : decode cX2_dangerLeft 47 = .ok (.iload 5, 2) := by decide +kernel
theorem dX2_dangerLeft_49 : decode cX2_dangerLeft 49 = .ok (.iaload, 1) := by decide +kernel
theorem dX2_dangerLeft_50 : decode cX2_dangerLeft 50 = .ok (.isub, 1) := by decide +kernel
theorem dX2_dangerLeft_51 : decode cX2_dangerLeft 51 = .ok (.invokestatic 85, 3) := by decide +kernel
theorem dX2_dangerLeft_54 : decode cX2_dangerLeft 54 = .ok (.istore 4, 2) := by decide +kernel
theorem dX2_dangerLeft_56 : decode cX2_dangerLeft 56 = .ok (.iinc 5 1, 3) := by decide +kernel
theorem dX2_dangerLeft_59 : decode cX2_dangerLeft 59 = .ok (.goto (-48), 3) := by decide +kernel
theorem dX2_dangerLeft_62 : decode cX2_dangerLeft 62 = .ok (.iload 4, 2) := by decide +kernel
theorem dX2_dangerLeft_64 : decode cX2_dangerLeft 64 = .ok (.ireturn, 1) := by decide +kernel
theorem dX3_init_0 : decode cX3_init 0 = .ok (.aload_n 0, 1) := by decide +kernel
theorem dX3_init_1 : decode cX3_init 1 = .ok (.invokespecial 3, 3) := by decide +kernel
theorem dX3_init_4 : decode cX3_init 4 = .ok (.aload_n 0, 1) := by decide +kernel
theorem dX3_init_5 : decode cX3_init 5 = .ok (.bipush 6, 2) := by decide +kernel
theorem dX3_init_7 : decode cX3_init 7 = .ok (.newarray .int, 2) := by decide +kernel
theorem dX3_init_9 : decode cX3_init 9 = .ok (.putfield 9, 3) := by decide +kernel
theorem dX3_init_12 : decode cX3_init 12 = .ok (.aload_n 0, 1) := by decide +kernel
theorem dX3_init_13 : decode cX3_init 13 = .ok (.bipush 6, 2) := by decide +kernel
theorem dX3_init_15 : decode cX3_init 15 = .ok (.newarray .int, 2) := by decide +kernel
theorem dX3_init_17 : decode cX3_init 17 = .ok (.putfield 15, 3) := by decide +kernel
theorem dX3_init_20 : decode cX3_init 20 = .ok (.return_, 1) := by decide +kernel
theorem dX3_walk_0 : decode cX3_walk 0 = .ok (.aload_n 0, 1) := by decide +kernel
theorem dX3_walk_1 : decode cX3_walk 1 = .ok (.iconst 0, 1) := by decide +kernel
theorem dX3_walk_2 : decode cX3_walk 2 = .ok (.putfield 18, 3) := by decide +kernel
theorem dX3_walk_5 : decode cX3_walk 5 = .ok (.aload_n 0, 1) := by decide +kernel
theorem dX3_walk_6 : decode cX3_walk 6 = .ok (.iconst 0, 1) := by decide +kernel
theorem dX3_walk_7 : decode cX3_walk 7 = .ok (.putfield 22, 3) := by decide +kernel
theorem dX3_walk_10 : decode cX3_walk 10 = .ok (.iconst 0, 1) := by decide +kernel
theorem dX3_walk_11 : decode cX3_walk 11 = .ok (.istore 4, 2) := by decide +kernel
theorem dX3_walk_13 : decode cX3_walk 13 = .ok (.iload 4, 2) := by decide +kernel
theorem dX3_walk_15 : decode cX3_walk 15 = .ok (.bipush 6, 2) := by decide +kernel
theorem dX3_walk_17 : decode cX3_walk 17 = .ok (.if_icmp .ge 25, 3) := by decide +kernel
theorem dX3_walk_20 : decode cX3_walk 20 = .ok (.aload_n 0, 1) := by decide +kernel
theorem dX3_walk_21 : decode cX3_walk 21 = .ok (.getfield 18, 3) := by decide +kernel
theorem dX3_walk_24 : decode cX3_walk 24 = .ok (.iload 4, 2) := by decide +kernel
theorem dX3_walk_26 : decode cX3_walk 26 = .ok (.if_icmp .ne 16, 3) := by decide +kernel
theorem dX3_walk_29 : decode cX3_walk 29 = .ok (.aload_n 0, 1) := by decide +kernel
theorem dX3_walk_30 : decode cX3_walk 30 = .ok (.aload_n 1, 1) := by decide +kernel
theorem dX3_walk_31 : decode cX3_walk 31 = .ok (.aload_n 2, 1) := by decide +kernel
theorem dX3_walk_32 : decode cX3_walk 32 = .ok (.iload_n 3, 1) := by decide +kernel
theorem dX3_walk_33 : decode cX3_walk 33 = .ok (.invokevirtual 25, 3) := by decide +kernel
theorem dX3_walk_36 : decode cX3_walk 36 = .ok (.iinc 4 1, 3) := by decide +kernel
theorem dX3_walk_39 : decode cX3_walk 39 = .ok (.goto (-26), 3) := by decide +kernel
theorem dX3_walk_42 : decode cX3_walk 42 = .ok (.return_, 1) := by decide +kernel
theorem dX3_lengthOfPlan_0 : decode cX3_lengthOfPlan 0 = .ok (.aload_n 0, 1) := by decide +kernel
theorem dX3_lengthOfPlan_1 : decode cX3_lengthOfPlan 1 = .ok (.getfield 18, 3) := by decide +kernel
theorem dX3_lengthOfPlan_4 : decode cX3_lengthOfPlan 4 = .ok (.istore_n 2, 1) := by decide +kernel
theorem dX3_lengthOfPlan_5 : decode cX3_lengthOfPlan 5 = .ok (.iload_n 2, 1) := by decide +kernel
theorem dX3_lengthOfPlan_6 : decode cX3_lengthOfPlan 6 = .ok (.ifCond .le 27, 3) := by decide +kernel
theorem dX3_lengthOfPlan_9 : decode cX3_lengthOfPlan 9 = .ok (.aload_n 1, 1) := by decide +kernel
theorem dX3_lengthOfPlan_10 : decode cX3_lengthOfPlan 10 = .ok (.getfield 29, 3) := by decide +kernel
theorem dX3_lengthOfPlan_13 : decode cX3_lengthOfPlan 13 = .ok (.aload_n 0, 1) := by decide +kernel
theorem dX3_lengthOfPlan_14 : decode cX3_lengthOfPlan 14 = .ok (.getfield 9, 3) := by decide +kernel
theorem dX3_lengthOfPlan_17 : decode cX3_lengthOfPlan 17 = .ok (.iload_n 2, 1) := by decide +kernel
theorem dX3_lengthOfPlan_18 : decode cX3_lengthOfPlan 18 = .ok (.iconst 1, 1) := by decide +kernel
theorem dX3_lengthOfPlan_19 : decode cX3_lengthOfPlan 19 = .ok (.isub, 1) := by decide +kernel
theorem dX3_lengthOfPlan_20 : decode cX3_lengthOfPlan 20 = .ok (.iaload, 1) := by decide +kernel
theorem dX3_lengthOfPlan_21 : decode cX3_lengthOfPlan 21 = .ok (.iaload, 1) := by decide +kernel
theorem dX3_lengthOfPlan_22 : decode cX3_lengthOfPlan 22 = .ok (.ifCond .le 5, 3) := by decide +kernel
theorem dX3_lengthOfPlan_25 : decode cX3_lengthOfPlan 25 = .ok (.iload_n 2, 1) := by decide +kernel
theorem dX3_lengthOfPlan_26 : decode cX3_lengthOfPlan 26 = .ok (.ireturn, 1) := by decide +kernel
theorem dX3_lengthOfPlan_27 : decode cX3_lengthOfPlan 27 = .ok (.iinc 2 (-1), 3) := by decide +kernel
theorem dX3_lengthOfPlan_30 : decode cX3_lengthOfPlan 30 = .ok (.goto (-25), 3) := by decide +kernel
theorem dX3_lengthOfPlan_33 : decode cX3_lengthOfPlan 33 = .ok (.iconst 0, 1) := by decide +kernel
theorem dX3_lengthOfPlan_34 : decode cX3_lengthOfPlan 34 = .ok (.ireturn, 1) := by decide +kernel
theorem dX3_step_0 : decode cX3_step 0 = .ok (.aload_n 0, 1) := by decide +kernel
theorem dX3_step_1 : decode cX3_step 1 = .ok (.getfield 22, 3) := by decide +kernel
theorem dX3_step_4 : decode cX3_step 4 = .ok (.aload_n 2, 1) := by decide +kernel
theorem dX3_step_5 : decode cX3_step 5 = .ok (.getfield 34, 3) := by decide +kernel
theorem dX3_step_8 : decode cX3_step 8 = .ok (.iload_n 3, 1) := by decide +kernel
theorem dX3_step_9 : decode cX3_step 9 = .ok (.iaload, 1) := by decide +kernel
theorem dX3_step_10 : decode cX3_step 10 = .ok (.ior, 1) := by decide +kernel
theorem dX3_step_11 : decode cX3_step 11 = .ok (.istore 4, 2) := by decide +kernel
theorem dX3_step_13 : decode cX3_step 13 = .ok (.aload_n 1, 1) := by decide +kernel
theorem dX3_step_14 : decode cX3_step 14 = .ok (.aload_n 0, 1) := by decide +kernel
theorem dX3_step_15 : decode cX3_step 15 = .ok (.getfield 22, 3) := by decide +kernel
theorem dX3_step_18 : decode cX3_step 18 = .ok (.invokevirtual 39, 3) := by decide +kernel
theorem dX3_step_21 : decode cX3_step 21 = .ok (.istore 5, 2) := by decide +kernel
theorem dX3_step_23 : decode cX3_step 23 = .ok (.iconst 0, 1) := by decide +kernel
theorem dX3_step_24 : decode cX3_step 24 = .ok (.istore 6, 2) := by decide +kernel
theorem dX3_step_26 : decode cX3_step 26 = .ok (.iload 6, 2) := by decide +kernel
theorem dX3_step_28 : decode cX3_step 28 = .ok (.aload_n 1, 1) := by decide +kernel
theorem dX3_step_29 : decode cX3_step 29 = .ok (.getfield 43, 3) := by decide +kernel
theorem dX3_step_32 : decode cX3_step 32 = .ok (.if_icmp .ge 126, 3) := by decide +kernel
theorem dX3_step_35 : decode cX3_step 35 = .ok (.iload 4, 2) := by decide +kernel
theorem dX3_step_37 : decode cX3_step 37 = .ok (.iload 6, 2) := by decide +kernel
theorem dX3_step_39 : decode cX3_step 39 = .ok (.invokestatic 46, 3) := by decide +kernel
theorem dX3_step_42 : decode cX3_step 42 = .ok (.ifCond .eq 6, 3) := by decide +kernel
theorem dX3_step_45 : decode cX3_step 45 = .ok (.goto 107, 3) := by decide +kernel
theorem dX3_step_48 : decode cX3_step 48 = .ok (.bipush 99, 2) := by decide +kernel
theorem dX3_step_50 : decode cX3_step 50 = .ok (.aload_n 2, 1) := by decide +kernel
theorem dX3_step_51 : decode cX3_step 51 = .ok (.getfield 50, 3) := by decide +kernel
theorem dX3_step_54 : decode cX3_step 54 = .ok (.aload_n 1, 1) := by decide +kernel
theorem dX3_step_55 : decode cX3_step 55 = .ok (.getfield 53, 3) := by decide +kernel
theorem dX3_step_58 : decode cX3_step 58 = .ok (.iload 6, 2) := by decide +kernel
theorem dX3_step_60 : decode cX3_step 60 = .ok (.iaload, 1) := by decide +kernel
theorem dX3_step_61 : decode cX3_step 61 = .ok (.iload_n 3, 1) := by decide +kernel
theorem dX3_step_62 : decode cX3_step 62 = .ok (.invokestatic 56, 3) := by decide +kernel
theorem dX3_step_65 : decode cX3_step 65 = .ok (.iaload, 1) := by decide +kernel
theorem dX3_step_66 : decode cX3_step 66 = .ok (.iload 5, 2) := by decide +kernel
theorem dX3_step_68 : decode cX3_step 68 = .ok (.iadd, 1) := by decide +kernel
theorem dX3_step_69 : decode cX3_step 69 = .ok (.invokestatic 60, 3) := by decide +kernel
theorem dX3_step_72 : decode cX3_step 72 = .ok (.istore 7, 2) := by decide +kernel
theorem dX3_step_74 : decode cX3_step 74 = .ok (.aload_n 1, 1) := by decide +kernel
theorem dX3_step_75 : decode cX3_step 75 = .ok (.iload_n 3, 1) := by decide +kernel
theorem dX3_step_76 : decode cX3_step 76 = .ok (.iload 6, 2) := by decide +kernel
theorem dX3_step_78 : decode cX3_step 78 = .ok (.aload_n 1, 1) := by decide +kernel
theorem dX3_step_79 : decode cX3_step 79 = .ok (.iload 6, 2) := by decide +kernel
theorem dX3_step_81 : decode cX3_step 81 = .ok (.invokevirtual 65, 3) := by decide +kernel
theorem dX3_step_84 : decode cX3_step 84 = .ok (.aload_n 2, 1) := by decide +kernel
theorem dX3_step_85 : decode cX3_step 85 = .ok (.getfield 68, 3) := by decide +kernel
theorem dX3_step_88 : decode cX3_step 88 = .ok (.iload_n 3, 1) := by decide +kernel
theorem dX3_step_89 : decode cX3_step 89 = .ok (.iaload, 1) := by decide +kernel
theorem dX3_step_90 : decode cX3_step 90 = .ok (.iconst (-1), 1) := by decide +kernel
theorem dX3_step_91 : decode cX3_step 91 = .ok (.ixor, 1) := by decide +kernel
theorem dX3_step_92 : decode cX3_step 92 = .ok (.iand, 1) := by decide +kernel
theorem dX3_step_93 : decode cX3_step 93 = .ok (.iload 7, 2) := by decide +kernel
theorem dX3_step_95 : decode cX3_step 95 = .ok (.invokestatic 71, 3) := by decide +kernel
theorem dX3_step_98 : decode cX3_step 98 = .ok (.istore 8, 2) := by decide +kernel
theorem dX3_step_100 : decode cX3_step 100 = .ok (.iload 8, 2) := by decide +kernel
theorem dX3_step_102 : decode cX3_step 102 = .ok (.iconst (-1), 1) := by decide +kernel
theorem dX3_step_103 : decode cX3_step 103 = .ok (.if_icmp .eq 49, 3) := by decide +kernel
theorem dX3_step_106 : decode cX3_step 106 = .ok (.aload_n 0, 1) := by decide +kernel
theorem dX3_step_107 : decode cX3_step 107 = .ok (.getfield 9, 3) := by decide +kernel
theorem dX3_step_110 : decode cX3_step 110 = .ok (.aload_n 0, 1) := by decide +kernel
theorem dX3_step_111 : decode cX3_step 111 = .ok (.getfield 18, 3) := by decide +kernel
theorem dX3_step_114 : decode cX3_step 114 = .ok (.iload 6, 2) := by decide +kernel
theorem dX3_step_116 : decode cX3_step 116 = .ok (.iastore, 1) := by decide +kernel
theorem dX3_step_117 : decode cX3_step 117 = .ok (.aload_n 0, 1) := by decide +kernel
theorem dX3_step_118 : decode cX3_step 118 = .ok (.getfield 15, 3) := by decide +kernel
theorem dX3_step_121 : decode cX3_step 121 = .ok (.aload_n 0, 1) := by decide +kernel
theorem dX3_step_122 : decode cX3_step 122 = .ok (.getfield 18, 3) := by decide +kernel
theorem dX3_step_125 : decode cX3_step 125 = .ok (.iload 8, 2) := by decide +kernel
theorem dX3_step_127 : decode cX3_step 127 = .ok (.iastore, 1) := by decide +kernel
theorem dX3_step_128 : decode cX3_step 128 = .ok (.aload_n 0, 1) := by decide +kernel
theorem dX3_step_129 : decode cX3_step 129 = .ok (.dup, 1) := by decide +kernel
theorem dX3_step_130 : decode cX3_step 130 = .ok (.getfield 18, 3) := by decide +kernel
theorem dX3_step_133 : decode cX3_step 133 = .ok (.iconst 1, 1) := by decide +kernel
theorem dX3_step_134 : decode cX3_step 134 = .ok (.iadd, 1) := by decide +kernel
theorem dX3_step_135 : decode cX3_step 135 = .ok (.putfield 18, 3) := by decide +kernel
theorem dX3_step_138 : decode cX3_step 138 = .ok (.aload_n 0, 1) := by decide +kernel
theorem dX3_step_139 : decode cX3_step 139 = .ok (.dup, 1) := by decide +kernel
theorem dX3_step_140 : decode cX3_step 140 = .ok (.getfield 22, 3) := by decide +kernel
theorem dX3_step_143 : decode cX3_step 143 = .ok (.iconst 1, 1) := by decide +kernel
theorem dX3_step_144 : decode cX3_step 144 = .ok (.iload 6, 2) := by decide +kernel
theorem dX3_step_146 : decode cX3_step 146 = .ok (.ishl, 1) := by decide +kernel
theorem dX3_step_147 : decode cX3_step 147 = .ok (.ior, 1) := by decide +kernel
theorem dX3_step_148 : decode cX3_step 148 = .ok (.putfield 22, 3) := by decide +kernel
theorem dX3_step_151 : decode cX3_step 151 = .ok (.return_, 1) := by decide +kernel
theorem dX3_step_152 : decode cX3_step 152 = .ok (.iinc 6 1, 3) := by decide +kernel
theorem dX3_step_155 : decode cX3_step 155 = .ok (.goto (-129), 3) := by decide +kernel
theorem dX3_step_158 : decode cX3_step 158 = .ok (.return_, 1) := by decide +kernel
theorem dX3_leastSet_0 : decode cX3_leastSet 0 = .ok (.iconst 0, 1) := by decide +kernel
theorem dX3_leastSet_1 : decode cX3_leastSet 1 = .ok (.istore 5, 2) := by decide +kernel
theorem dX3_leastSet_3 : decode cX3_leastSet 3 = .ok (.iload 5, 2) := by decide +kernel
theorem dX3_leastSet_5 : decode cX3_leastSet 5 = .ok (.iload_n 3, 1) := by decide +kernel
theorem dX3_leastSet_6 : decode cX3_leastSet 6 = .ok (.if_icmp .gt 34, 3) := by decide +kernel
theorem dX3_leastSet_9 : decode cX3_leastSet 9 = .ok (.iload 5, 2) := by decide +kernel
theorem dX3_leastSet_11 : decode cX3_leastSet 11 = .ok (.iload_n 3, 1) := by decide +kernel
theorem dX3_leastSet_12 : decode cX3_leastSet 12 = .ok (.iconst (-1), 1) := by decide +kernel
theorem dX3_leastSet_13 : decode cX3_leastSet 13 = .ok (.ixor, 1) := by decide +kernel
theorem dX3_leastSet_14 : decode cX3_leastSet 14 = .ok (.iand, 1) := by decide +kernel
theorem dX3_leastSet_15 : decode cX3_leastSet 15 = .ok (.ifCond .ne 19, 3) := by decide +kernel
theorem dX3_leastSet_18 : decode cX3_leastSet 18 = .ok (.aload_n 0, 1) := by decide +kernel
theorem dX3_leastSet_19 : decode cX3_leastSet 19 = .ok (.iload_n 1, 1) := by decide +kernel
theorem dX3_leastSet_20 : decode cX3_leastSet 20 = .ok (.iload_n 2, 1) := by decide +kernel
theorem dX3_leastSet_21 : decode cX3_leastSet 21 = .ok (.iload 5, 2) := by decide +kernel
theorem dX3_leastSet_23 : decode cX3_leastSet 23 = .ok (.iload 4, 2) := by decide +kernel
theorem dX3_leastSet_25 : decode cX3_leastSet 25 = .ok (.invokevirtual 75, 3) := by decide +kernel
theorem dX3_leastSet_28 : decode cX3_leastSet 28 = .ok (.ifCond .eq 6, 3) := by decide +kernel
theorem dX3_leastSet_31 : decode cX3_leastSet 31 = .ok (.iload 5, 2) := by decide +kernel
theorem dX3_leastSet_33 : decode cX3_leastSet 33 = .ok (.ireturn, 1) := by decide +kernel
theorem dX3_leastSet_34 : decode cX3_leastSet 34 = .ok (.iinc 5 1, 3) := by decide +kernel
theorem dX3_leastSet_37 : decode cX3_leastSet 37 = .ok (.goto (-34), 3) := by decide +kernel
theorem dX3_leastSet_40 : decode cX3_leastSet 40 = .ok (.iconst (-1), 1) := by decide +kernel
theorem dX3_leastSet_41 : decode cX3_leastSet 41 = .ok (.ireturn, 1) := by decide +kernel
theorem dX4_init_0 : decode cX4_init 0 = .ok (.aload_n 0, 1) := by decide +kernel
theorem dX4_init_1 : decode cX4_init 1 = .ok (.invokespecial 3, 3) := by decide +kernel
theorem dX4_init_4 : decode cX4_init 4 = .ok (.aload_n 0, 1) := by decide +kernel
theorem dX4_init_5 : decode cX4_init 5 = .ok (.iconst 5, 1) := by decide +kernel
theorem dX4_init_6 : decode cX4_init 6 = .ok (.newarray .int, 2) := by decide +kernel
theorem dX4_init_8 : decode cX4_init 8 = .ok (.putfield 9, 3) := by decide +kernel
theorem dX4_init_11 : decode cX4_init 11 = .ok (.aload_n 0, 1) := by decide +kernel
theorem dX4_init_12 : decode cX4_init 12 = .ok (.iconst 5, 1) := by decide +kernel
theorem dX4_init_13 : decode cX4_init 13 = .ok (.newarray .int, 2) := by decide +kernel
theorem dX4_init_15 : decode cX4_init 15 = .ok (.putfield 15, 3) := by decide +kernel
theorem dX4_init_18 : decode cX4_init 18 = .ok (.aload_n 0, 1) := by decide +kernel
theorem dX4_init_19 : decode cX4_init 19 = .ok (.iconst 5, 1) := by decide +kernel
theorem dX4_init_20 : decode cX4_init 20 = .ok (.newarray .int, 2) := by decide +kernel
theorem dX4_init_22 : decode cX4_init 22 = .ok (.putfield 18, 3) := by decide +kernel
theorem dX4_init_25 : decode cX4_init 25 = .ok (.aload_n 0, 1) := by decide +kernel
theorem dX4_init_26 : decode cX4_init 26 = .ok (.bipush 30, 2) := by decide +kernel
theorem dX4_init_28 : decode cX4_init 28 = .ok (.newarray .int, 2) := by decide +kernel
theorem dX4_init_30 : decode cX4_init 30 = .ok (.putfield 21, 3) := by decide +kernel
theorem dX4_init_33 : decode cX4_init 33 = .ok (.return_, 1) := by decide +kernel
theorem dX4_begin_0 : decode cX4_begin 0 = .ok (.iconst 0, 1) := by decide +kernel
theorem dX4_begin_1 : decode cX4_begin 1 = .ok (.istore_n 2, 1) := by decide +kernel
theorem dX4_begin_2 : decode cX4_begin 2 = .ok (.iload_n 2, 1) := by decide +kernel
theorem dX4_begin_3 : decode cX4_begin 3 = .ok (.iconst 5, 1) := by decide +kernel
theorem dX4_begin_4 : decode cX4_begin 4 = .ok (.if_icmp .ge 35, 3) := by decide +kernel
theorem dX4_begin_7 : decode cX4_begin 7 = .ok (.aload_n 0, 1) := by decide +kernel
theorem dX4_begin_8 : decode cX4_begin 8 = .ok (.getfield 9, 3) := by decide +kernel
theorem dX4_begin_11 : decode cX4_begin 11 = .ok (.iload_n 2, 1) := by decide +kernel
theorem dX4_begin_12 : decode cX4_begin 12 = .ok (.aload_n 1, 1) := by decide +kernel
theorem dX4_begin_13 : decode cX4_begin 13 = .ok (.getfield 24, 3) := by decide +kernel
theorem dX4_begin_16 : decode cX4_begin 16 = .ok (.iload_n 2, 1) := by decide +kernel
theorem dX4_begin_17 : decode cX4_begin 17 = .ok (.iaload, 1) := by decide +kernel
theorem dX4_begin_18 : decode cX4_begin 18 = .ok (.iastore, 1) := by decide +kernel
theorem dX4_begin_19 : decode cX4_begin 19 = .ok (.aload_n 0, 1) := by decide +kernel
theorem dX4_begin_20 : decode cX4_begin 20 = .ok (.getfield 15, 3) := by decide +kernel
theorem dX4_begin_23 : decode cX4_begin 23 = .ok (.iload_n 2, 1) := by decide +kernel
theorem dX4_begin_24 : decode cX4_begin 24 = .ok (.iconst 0, 1) := by decide +kernel
theorem dX4_begin_25 : decode cX4_begin 25 = .ok (.iastore, 1) := by decide +kernel
theorem dX4_begin_26 : decode cX4_begin 26 = .ok (.aload_n 0, 1) := by decide +kernel
theorem dX4_begin_27 : decode cX4_begin 27 = .ok (.getfield 18, 3) := by decide +kernel
theorem dX4_begin_30 : decode cX4_begin 30 = .ok (.iload_n 2, 1) := by decide +kernel
theorem dX4_begin_31 : decode cX4_begin 31 = .ok (.iconst 0, 1) := by decide +kernel
theorem dX4_begin_32 : decode cX4_begin 32 = .ok (.iastore, 1) := by decide +kernel
theorem dX4_begin_33 : decode cX4_begin 33 = .ok (.iinc 2 1, 3) := by decide +kernel
theorem dX4_begin_36 : decode cX4_begin 36 = .ok (.goto (-34), 3) := by decide +kernel
theorem dX4_begin_39 : decode cX4_begin 39 = .ok (.iconst 0, 1) := by decide +kernel
theorem dX4_begin_40 : decode cX4_begin 40 = .ok (.istore_n 2, 1) := by decide +kernel
theorem dX4_begin_41 : decode cX4_begin 41 = .ok (.iload_n 2, 1) := by decide +kernel
theorem dX4_begin_42 : decode cX4_begin 42 = .ok (.bipush 30, 2) := by decide +kernel
theorem dX4_begin_44 : decode cX4_begin 44 = .ok (.if_icmp .ge 21, 3) := by decide +kernel
theorem dX4_begin_47 : decode cX4_begin 47 = .ok (.aload_n 0, 1) := by decide +kernel
theorem dX4_begin_48 : decode cX4_begin 48 = .ok (.getfield 21, 3) := by decide +kernel
theorem dX4_begin_51 : decode cX4_begin 51 = .ok (.iload_n 2, 1) := by decide +kernel
theorem dX4_begin_52 : decode cX4_begin 52 = .ok (.aload_n 1, 1) := by decide +kernel
theorem dX4_begin_53 : decode cX4_begin 53 = .ok (.getfield 29, 3) := by decide +kernel
theorem dX4_begin_56 : decode cX4_begin 56 = .ok (.iload_n 2, 1) := by decide +kernel
theorem dX4_begin_57 : decode cX4_begin 57 = .ok (.iaload, 1) := by decide +kernel
theorem dX4_begin_58 : decode cX4_begin 58 = .ok (.iastore, 1) := by decide +kernel
theorem dX4_begin_59 : decode cX4_begin 59 = .ok (.iinc 2 1, 3) := by decide +kernel
theorem dX4_begin_62 : decode cX4_begin 62 = .ok (.goto (-21), 3) := by decide +kernel
theorem dX4_begin_65 : decode cX4_begin 65 = .ok (.aload_n 0, 1) := by decide +kernel
theorem dX4_begin_66 : decode cX4_begin 66 = .ok (.iconst 0, 1) := by decide +kernel
theorem dX4_begin_67 : decode cX4_begin 67 = .ok (.putfield 32, 3) := by decide +kernel
theorem dX4_begin_70 : decode cX4_begin 70 = .ok (.return_, 1) := by decide +kernel
theorem dX4_become_0 : decode cX4_become 0 = .ok (.iconst 0, 1) := by decide +kernel
theorem dX4_become_1 : decode cX4_become 1 = .ok (.istore_n 2, 1) := by decide +kernel
theorem dX4_become_2 : decode cX4_become 2 = .ok (.iload_n 2, 1) := by decide +kernel
theorem dX4_become_3 : decode cX4_become 3 = .ok (.iconst 5, 1) := by decide +kernel
theorem dX4_become_4 : decode cX4_become 4 = .ok (.if_icmp .ge 45, 3) := by decide +kernel
theorem dX4_become_7 : decode cX4_become 7 = .ok (.aload_n 0, 1) := by decide +kernel
theorem dX4_become_8 : decode cX4_become 8 = .ok (.getfield 9, 3) := by decide +kernel
theorem dX4_become_11 : decode cX4_become 11 = .ok (.iload_n 2, 1) := by decide +kernel
theorem dX4_become_12 : decode cX4_become 12 = .ok (.aload_n 1, 1) := by decide +kernel
theorem dX4_become_13 : decode cX4_become 13 = .ok (.getfield 9, 3) := by decide +kernel
theorem dX4_become_16 : decode cX4_become 16 = .ok (.iload_n 2, 1) := by decide +kernel
theorem dX4_become_17 : decode cX4_become 17 = .ok (.iaload, 1) := by decide +kernel
theorem dX4_become_18 : decode cX4_become 18 = .ok (.iastore, 1) := by decide +kernel
theorem dX4_become_19 : decode cX4_become 19 = .ok (.aload_n 0, 1) := by decide +kernel
theorem dX4_become_20 : decode cX4_become 20 = .ok (.getfield 15, 3) := by decide +kernel
theorem dX4_become_23 : decode cX4_become 23 = .ok (.iload_n 2, 1) := by decide +kernel
theorem dX4_become_24 : decode cX4_become 24 = .ok (.aload_n 1, 1) := by decide +kernel
theorem dX4_become_25 : decode cX4_become 25 = .ok (.getfield 15, 3) := by decide +kernel
theorem dX4_become_28 : decode cX4_become 28 = .ok (.iload_n 2, 1) := by decide +kernel
theorem dX4_become_29 : decode cX4_become 29 = .ok (.iaload, 1) := by decide +kernel
theorem dX4_become_30 : decode cX4_become 30 = .ok (.iastore, 1) := by decide +kernel
theorem dX4_become_31 : decode cX4_become 31 = .ok (.aload_n 0, 1) := by decide +kernel
theorem dX4_become_32 : decode cX4_become 32 = .ok (.getfield 18, 3) := by decide +kernel
theorem dX4_become_35 : decode cX4_become 35 = .ok (.iload_n 2, 1) := by decide +kernel
theorem dX4_become_36 : decode cX4_become 36 = .ok (.aload_n 1, 1) := by decide +kernel
theorem dX4_become_37 : decode cX4_become 37 = .ok (.getfield 18, 3) := by decide +kernel
theorem dX4_become_40 : decode cX4_become 40 = .ok (.iload_n 2, 1) := by decide +kernel
theorem dX4_become_41 : decode cX4_become 41 = .ok (.iaload, 1) := by decide +kernel
theorem dX4_become_42 : decode cX4_become 42 = .ok (.iastore, 1) := by decide +kernel
theorem dX4_become_43 : decode cX4_become 43 = .ok (.iinc 2 1, 3) := by decide +kernel
theorem dX4_become_46 : decode cX4_become 46 = .ok (.goto (-44), 3) := by decide +kernel
theorem dX4_become_49 : decode cX4_become 49 = .ok (.iconst 0, 1) := by decide +kernel
theorem dX4_become_50 : decode cX4_become 50 = .ok (.istore_n 2, 1) := by decide +kernel
theorem dX4_become_51 : decode cX4_become 51 = .ok (.iload_n 2, 1) := by decide +kernel
theorem dX4_become_52 : decode cX4_become 52 = .ok (.bipush 30, 2) := by decide +kernel
theorem dX4_become_54 : decode cX4_become 54 = .ok (.if_icmp .ge 21, 3) := by decide +kernel
theorem dX4_become_57 : decode cX4_become 57 = .ok (.aload_n 0, 1) := by decide +kernel
theorem dX4_become_58 : decode cX4_become 58 = .ok (.getfield 21, 3) := by decide +kernel
theorem dX4_become_61 : decode cX4_become 61 = .ok (.iload_n 2, 1) := by decide +kernel
theorem dX4_become_62 : decode cX4_become 62 = .ok (.aload_n 1, 1) := by decide +kernel
theorem dX4_become_63 : decode cX4_become 63 = .ok (.getfield 21, 3) := by decide +kernel
theorem dX4_become_66 : decode cX4_become 66 = .ok (.iload_n 2, 1) := by decide +kernel
theorem dX4_become_67 : decode cX4_become 67 = .ok (.iaload, 1) := by decide +kernel
theorem dX4_become_68 : decode cX4_become 68 = .ok (.iastore, 1) := by decide +kernel
theorem dX4_become_69 : decode cX4_become 69 = .ok (.iinc 2 1, 3) := by decide +kernel
theorem dX4_become_72 : decode cX4_become 72 = .ok (.goto (-21), 3) := by decide +kernel
theorem dX4_become_75 : decode cX4_become 75 = .ok (.aload_n 0, 1) := by decide +kernel
theorem dX4_become_76 : decode cX4_become 76 = .ok (.aload_n 1, 1) := by decide +kernel
theorem dX4_become_77 : decode cX4_become 77 = .ok (.getfield 32, 3) := by decide +kernel
theorem dX4_become_80 : decode cX4_become 80 = .ok (.putfield 32, 3) := by decide +kernel
theorem dX4_become_83 : decode cX4_become 83 = .ok (.aload_n 0, 1) := by decide +kernel
theorem dX4_become_84 : decode cX4_become 84 = .ok (.aload_n 1, 1) := by decide +kernel
theorem dX4_become_85 : decode cX4_become 85 = .ok (.getfield 36, 3) := by decide +kernel
theorem dX4_become_88 : decode cX4_become 88 = .ok (.putfield 36, 3) := by decide +kernel
theorem dX4_become_91 : decode cX4_become 91 = .ok (.return_, 1) := by decide +kernel
theorem dX4_draw_0 : decode cX4_draw 0 = .ok (.aload_n 0, 1) := by decide +kernel
theorem dX4_draw_1 : decode cX4_draw 1 = .ok (.aload_n 0, 1) := by decide +kernel
theorem dX4_draw_2 : decode cX4_draw 2 = .ok (.getfield 36, 3) := by decide +kernel
theorem dX4_draw_5 : decode cX4_draw 5 = .ok (.i2l, 1) := by decide +kernel
theorem dX4_draw_6 : decode cX4_draw 6 = .ok (.ldc2_w 39, 3) := by decide +kernel
theorem dX4_draw_9 : decode cX4_draw 9 = .ok (.lmul, 1) := by decide +kernel
theorem dX4_draw_10 : decode cX4_draw 10 = .ok (.ldc2_w 41, 3) := by decide +kernel
theorem dX4_draw_13 : decode cX4_draw 13 = .ok (.ladd, 1) := by decide +kernel
theorem dX4_draw_14 : decode cX4_draw 14 = .ok (.ldc2_w 43, 3) := by decide +kernel
theorem dX4_draw_17 : decode cX4_draw 17 = .ok (.land, 1) := by decide +kernel
theorem dX4_draw_18 : decode cX4_draw 18 = .ok (.l2i, 1) := by decide +kernel
theorem dX4_draw_19 : decode cX4_draw 19 = .ok (.putfield 36, 3) := by decide +kernel
theorem dX4_draw_22 : decode cX4_draw 22 = .ok (.iload_n 1, 1) := by decide +kernel
theorem dX4_draw_23 : decode cX4_draw 23 = .ok (.iconst 1, 1) := by decide +kernel
theorem dX4_draw_24 : decode cX4_draw 24 = .ok (.if_icmp .ge 7, 3) := by decide +kernel
theorem dX4_draw_27 : decode cX4_draw 27 = .ok (.iconst 0, 1) := by decide +kernel
theorem dX4_draw_28 : decode cX4_draw 28 = .ok (.goto 12, 3) := by decide +kernel
theorem dX4_draw_31 : decode cX4_draw 31 = .ok (.aload_n 0, 1) := by decide +kernel
theorem dX4_draw_32 : decode cX4_draw 32 = .ok (.getfield 36, 3) := by decide +kernel
theorem dX4_draw_35 : decode cX4_draw 35 = .ok (.ldc 45, 2) := by decide +kernel
theorem dX4_draw_37 : decode cX4_draw 37 = .ok (.idiv, 1) := by decide +kernel
theorem dX4_draw_38 : decode cX4_draw 38 = .ok (.iload_n 1, 1) := by decide +kernel
theorem dX4_draw_39 : decode cX4_draw 39 = .ok (.irem, 1) := by decide +kernel
theorem dX4_draw_40 : decode cX4_draw 40 = .ok (.ireturn, 1) := by decide +kernel
theorem dX5_init_0 : decode cX5_init 0 = .ok (.aload_n 0, 1) := by decide +kernel
theorem dX5_init_1 : decode cX5_init 1 = .ok (.invokespecial 3, 3) := by decide +kernel
theorem dX5_init_4 : decode cX5_init 4 = .ok (.aload_n 0, 1) := by decide +kernel
theorem dX5_init_5 : decode cX5_init 5 = .ok (.sipush 250, 3) := by decide +kernel
theorem dX5_init_8 : decode cX5_init 8 = .ok (.newarray .int, 2) := by decide +kernel
theorem dX5_init_10 : decode cX5_init 10 = .ok (.putfield 9, 3) := by decide +kernel
theorem dX5_init_13 : decode cX5_init 13 = .ok (.aload_n 0, 1) := by decide +kernel
theorem dX5_init_14 : decode cX5_init 14 = .ok (.iconst (-1), 1) := by decide +kernel
theorem dX5_init_15 : decode cX5_init 15 = .ok (.putfield 15, 3) := by decide +kernel
theorem dX5_init_18 : decode cX5_init 18 = .ok (.return_, 1) := by decide +kernel
theorem dX5_append_0 : decode cX5_append 0 = .ok (.aload_n 0, 1) := by decide +kernel
theorem dX5_append_1 : decode cX5_append 1 = .ok (.getfield 19, 3) := by decide +kernel
theorem dX5_append_4 : decode cX5_append 4 = .ok (.sipush 250, 3) := by decide +kernel
theorem dX5_append_7 : decode cX5_append 7 = .ok (.if_icmp .lt 6, 3) := by decide +kernel
theorem dX5_append_10 : decode cX5_append 10 = .ok (.ldc 22, 2) := by decide +kernel
theorem dX5_append_12 : decode cX5_append 12 = .ok (.ireturn, 1) := by decide +kernel
theorem dX5_append_13 : decode cX5_append 13 = .ok (.aload_n 0, 1) := by decide +kernel
theorem dX5_append_14 : decode cX5_append 14 = .ok (.getfield 9, 3) := by decide +kernel
theorem dX5_append_17 : decode cX5_append 17 = .ok (.aload_n 0, 1) := by decide +kernel
theorem dX5_append_18 : decode cX5_append 18 = .ok (.getfield 19, 3) := by decide +kernel
theorem dX5_append_21 : decode cX5_append 21 = .ok (.iload_n 1, 1) := by decide +kernel
theorem dX5_append_22 : decode cX5_append 22 = .ok (.iastore, 1) := by decide +kernel
theorem dX5_append_23 : decode cX5_append 23 = .ok (.aload_n 0, 1) := by decide +kernel
theorem dX5_append_24 : decode cX5_append 24 = .ok (.dup, 1) := by decide +kernel
theorem dX5_append_25 : decode cX5_append 25 = .ok (.getfield 19, 3) := by decide +kernel
theorem dX5_append_28 : decode cX5_append 28 = .ok (.iconst 1, 1) := by decide +kernel
theorem dX5_append_29 : decode cX5_append 29 = .ok (.iadd, 1) := by decide +kernel
theorem dX5_append_30 : decode cX5_append 30 = .ok (.putfield 19, 3) := by decide +kernel
theorem dX5_append_33 : decode cX5_append 33 = .ok (.aload_n 0, 1) := by decide +kernel
theorem dX5_append_34 : decode cX5_append 34 = .ok (.getfield 19, 3) := by decide +kernel
theorem dX5_append_37 : decode cX5_append 37 = .ok (.ireturn, 1) := by decide +kernel
theorem dX5_parse_0 : decode cX5_parse 0 = .ok (.aload_n 1, 1) := by decide +kernel
theorem dX5_parse_1 : decode cX5_parse 1 = .ok (.invokevirtual 23, 3) := by decide +kernel
theorem dX5_parse_4 : decode cX5_parse 4 = .ok (.aload_n 0, 1) := by decide +kernel
theorem dX5_parse_5 : decode cX5_parse 5 = .ok (.iconst 0, 1) := by decide +kernel
theorem dX5_parse_6 : decode cX5_parse 6 = .ok (.putfield 28, 3) := by decide +kernel
theorem dX5_parse_9 : decode cX5_parse 9 = .ok (.aload_n 0, 1) := by decide +kernel
theorem dX5_parse_10 : decode cX5_parse 10 = .ok (.iconst 0, 1) := by decide +kernel
theorem dX5_parse_11 : decode cX5_parse 11 = .ok (.putfield 31, 3) := by decide +kernel
theorem dX5_parse_14 : decode cX5_parse 14 = .ok (.aload_n 0, 1) := by decide +kernel
theorem dX5_parse_15 : decode cX5_parse 15 = .ok (.iconst (-1), 1) := by decide +kernel
theorem dX5_parse_16 : decode cX5_parse 16 = .ok (.putfield 15, 3) := by decide +kernel
theorem dX5_parse_19 : decode cX5_parse 19 = .ok (.aload_n 0, 1) := by decide +kernel
theorem dX5_parse_20 : decode cX5_parse 20 = .ok (.invokevirtual 34, 3) := by decide +kernel
theorem dX5_parse_23 : decode cX5_parse 23 = .ok (.iconst 0, 1) := by decide +kernel
theorem dX5_parse_24 : decode cX5_parse 24 = .ok (.istore_n 2, 1) := by decide +kernel
theorem dX5_parse_25 : decode cX5_parse 25 = .ok (.iload_n 2, 1) := by decide +kernel
theorem dX5_parse_26 : decode cX5_parse 26 = .ok (.sipush 250, 3) := by decide +kernel
theorem dX5_parse_29 : decode cX5_parse 29 = .ok (.if_icmp .ge 36, 3) := by decide +kernel
theorem dX5_parse_32 : decode cX5_parse 32 = .ok (.aload_n 0, 1) := by decide +kernel
theorem dX5_parse_33 : decode cX5_parse 33 = .ok (.getfield 31, 3) := by decide +kernel
theorem dX5_parse_36 : decode cX5_parse 36 = .ok (.ifCond .ne 29, 3) := by decide +kernel
theorem dX5_parse_39 : decode cX5_parse 39 = .ok (.aload_n 0, 1) := by decide +kernel
theorem dX5_parse_40 : decode cX5_parse 40 = .ok (.getfield 28, 3) := by decide +kernel
theorem dX5_parse_43 : decode cX5_parse 43 = .ok (.aload_n 0, 1) := by decide +kernel
theorem dX5_parse_44 : decode cX5_parse 44 = .ok (.getfield 19, 3) := by decide +kernel
theorem dX5_parse_47 : decode cX5_parse 47 = .ok (.if_icmp .ge 18, 3) := by decide +kernel
theorem dX5_parse_50 : decode cX5_parse 50 = .ok (.aload_n 0, 1) := by decide +kernel
theorem dX5_parse_51 : decode cX5_parse 51 = .ok (.aload_n 1, 1) := by decide +kernel
theorem dX5_parse_52 : decode cX5_parse 52 = .ok (.invokevirtual 37, 3) := by decide +kernel
theorem dX5_parse_55 : decode cX5_parse 55 = .ok (.aload_n 0, 1) := by decide +kernel
theorem dX5_parse_56 : decode cX5_parse 56 = .ok (.invokevirtual 34, 3) := by decide +kernel
theorem dX5_parse_59 : decode cX5_parse 59 = .ok (.iinc 2 1, 3) := by decide +kernel
theorem dX5_parse_62 : decode cX5_parse 62 = .ok (.goto (-37), 3) := by decide +kernel
theorem dX5_parse_65 : decode cX5_parse 65 = .ok (.aload_n 0, 1) := by decide +kernel
theorem dX5_parse_66 : decode cX5_parse 66 = .ok (.iconst 0, 1) := by decide +kernel
theorem dX5_parse_67 : decode cX5_parse 67 = .ok (.putfield 19, 3) := by decide +kernel
theorem dX5_parse_70 : decode cX5_parse 70 = .ok (.aload_n 0, 1) := by decide +kernel
theorem dX5_parse_71 : decode cX5_parse 71 = .ok (.getfield 31, 3) := by decide +kernel
theorem dX5_parse_74 : decode cX5_parse 74 = .ok (.ireturn, 1) := by decide +kernel
theorem dX5_fail_0 : decode cX5_fail 0 = .ok (.aload_n 0, 1) := by decide +kernel
theorem dX5_fail_1 : decode cX5_fail 1 = .ok (.getfield 31, 3) := by decide +kernel
theorem dX5_fail_4 : decode cX5_fail 4 = .ok (.ifCond .ne 13, 3) := by decide +kernel
theorem dX5_fail_7 : decode cX5_fail 7 = .ok (.aload_n 0, 1) := by decide +kernel
theorem dX5_fail_8 : decode cX5_fail 8 = .ok (.iload_n 1, 1) := by decide +kernel
theorem dX5_fail_9 : decode cX5_fail 9 = .ok (.putfield 31, 3) := by decide +kernel
theorem dX5_fail_12 : decode cX5_fail 12 = .ok (.aload_n 0, 1) := by decide +kernel
theorem dX5_fail_13 : decode cX5_fail 13 = .ok (.iload_n 2, 1) := by decide +kernel
theorem dX5_fail_14 : decode cX5_fail 14 = .ok (.putfield 15, 3) := by decide +kernel
theorem dX5_fail_17 : decode cX5_fail 17 = .ok (.return_, 1) := by decide +kernel
theorem dX5_skipBlanks_0 : decode cX5_skipBlanks 0 = .ok (.aload_n 0, 1) := by decide +kernel
theorem dX5_skipBlanks_1 : decode cX5_skipBlanks 1 = .ok (.getfield 28, 3) := by decide +kernel
theorem dX5_skipBlanks_4 : decode cX5_skipBlanks 4 = .ok (.aload_n 0, 1) := by decide +kernel
theorem dX5_skipBlanks_5 : decode cX5_skipBlanks 5 = .ok (.getfield 19, 3) := by decide +kernel
theorem dX5_skipBlanks_8 : decode cX5_skipBlanks 8 = .ok (.if_icmp .ge 30, 3) := by decide +kernel
theorem dX5_skipBlanks_11 : decode cX5_skipBlanks 11 = .ok (.aload_n 0, 1) := by decide +kernel
theorem dX5_skipBlanks_12 : decode cX5_skipBlanks 12 = .ok (.getfield 9, 3) := by decide +kernel
theorem dX5_skipBlanks_15 : decode cX5_skipBlanks 15 = .ok (.aload_n 0, 1) := by decide +kernel
theorem dX5_skipBlanks_16 : decode cX5_skipBlanks 16 = .ok (.getfield 28, 3) := by decide +kernel
theorem dX5_skipBlanks_19 : decode cX5_skipBlanks 19 = .ok (.iaload, 1) := by decide +kernel
theorem dX5_skipBlanks_20 : decode cX5_skipBlanks 20 = .ok (.bipush 32, 2) := by decide +kernel
theorem dX5_skipBlanks_22 : decode cX5_skipBlanks 22 = .ok (.if_icmp .ne 16, 3) := by decide +kernel
theorem dX5_skipBlanks_25 : decode cX5_skipBlanks 25 = .ok (.aload_n 0, 1) := by decide +kernel
theorem dX5_skipBlanks_26 : decode cX5_skipBlanks 26 = .ok (.dup, 1) := by decide +kernel
theorem dX5_skipBlanks_27 : decode cX5_skipBlanks 27 = .ok (.getfield 28, 3) := by decide +kernel
theorem dX5_skipBlanks_30 : decode cX5_skipBlanks 30 = .ok (.iconst 1, 1) := by decide +kernel
theorem dX5_skipBlanks_31 : decode cX5_skipBlanks 31 = .ok (.iadd, 1) := by decide +kernel
theorem dX5_skipBlanks_32 : decode cX5_skipBlanks 32 = .ok (.putfield 28, 3) := by decide +kernel
theorem dX5_skipBlanks_35 : decode cX5_skipBlanks 35 = .ok (.goto (-35), 3) := by decide +kernel
theorem dX5_skipBlanks_38 : decode cX5_skipBlanks 38 = .ok (.return_, 1) := by decide +kernel
theorem dX5_figureAhead_0 : decode cX5_figureAhead 0 = .ok (.aload_n 0, 1) := by decide +kernel
theorem dX5_figureAhead_1 : decode cX5_figureAhead 1 = .ok (.getfield 28, 3) := by decide +kernel
theorem dX5_figureAhead_4 : decode cX5_figureAhead 4 = .ok (.aload_n 0, 1) := by decide +kernel
theorem dX5_figureAhead_5 : decode cX5_figureAhead 5 = .ok (.getfield 19, 3) := by decide +kernel
theorem dX5_figureAhead_8 : decode cX5_figureAhead 8 = .ok (.if_icmp .ge 35, 3) := by decide +kernel
theorem dX5_figureAhead_11 : decode cX5_figureAhead 11 = .ok (.aload_n 0, 1) := by decide +kernel
theorem dX5_figureAhead_12 : decode cX5_figureAhead 12 = .ok (.getfield 9, 3) := by decide +kernel
theorem dX5_figureAhead_15 : decode cX5_figureAhead 15 = .ok (.aload_n 0, 1) := by decide +kernel
theorem dX5_figureAhead_16 : decode cX5_figureAhead 16 = .ok (.getfield 28, 3) := by decide +kernel
theorem dX5_figureAhead_19 : decode cX5_figureAhead 19 = .ok (.iaload, 1) := by decide +kernel
theorem dX5_figureAhead_20 : decode cX5_figureAhead 20 = .ok (.bipush 48, 2) := by decide +kernel
theorem dX5_figureAhead_22 : decode cX5_figureAhead 22 = .ok (.if_icmp .lt 21, 3) := by decide +kernel
theorem dX5_figureAhead_25 : decode cX5_figureAhead 25 = .ok (.aload_n 0, 1) := by decide +kernel
theorem dX5_figureAhead_26 : decode cX5_figureAhead 26 = .ok (.getfield 9, 3) := by decide +kernel
theorem dX5_figureAhead_29 : decode cX5_figureAhead 29 = .ok (.aload_n 0, 1) := by decide +kernel
theorem dX5_figureAhead_30 : decode cX5_figureAhead 30 = .ok (.getfield 28, 3) := by decide +kernel
theorem dX5_figureAhead_33 : decode cX5_figureAhead 33 = .ok (.iaload, 1) := by decide +kernel
theorem dX5_figureAhead_34 : decode cX5_figureAhead 34 = .ok (.bipush 57, 2) := by decide +kernel
theorem dX5_figureAhead_36 : decode cX5_figureAhead 36 = .ok (.if_icmp .gt 7, 3) := by decide +kernel
theorem dX5_figureAhead_39 : decode cX5_figureAhead 39 = .ok (.iconst 1, 1) := by decide +kernel
theorem dX5_figureAhead_40 : decode cX5_figureAhead 40 = .ok (.goto 4, 3) := by decide +kernel
theorem dX5_figureAhead_43 : decode cX5_figureAhead 43 = .ok (.iconst 0, 1) := by decide +kernel
theorem dX5_figureAhead_44 : decode cX5_figureAhead 44 = .ok (.ireturn, 1) := by decide +kernel
theorem dX5_number_0 : decode cX5_number 0 = .ok (.aload_n 0, 1) := by decide +kernel
theorem dX5_number_1 : decode cX5_number 1 = .ok (.invokevirtual 34, 3) := by decide +kernel
theorem dX5_number_4 : decode cX5_number 4 = .ok (.aload_n 0, 1) := by decide +kernel
theorem dX5_number_5 : decode cX5_number 5 = .ok (.invokevirtual 41, 3) := by decide +kernel
theorem dX5_number_8 : decode cX5_number 8 = .ok (.ifCond .ne 12, 3) := by decide +kernel
theorem dX5_number_11 : decode cX5_number 11 = .ok (.aload_n 0, 1) := by decide +kernel
theorem dX5_number_12 : decode cX5_number 12 = .ok (.iconst 1, 1) := by decide +kernel
theorem dX5_number_13 : decode cX5_number 13 = .ok (.aload_n 0, 1) := by decide +kernel
theorem dX5_number_14 : decode cX5_number 14 = .ok (.getfield 28, 3) := by decide +kernel
theorem dX5_number_17 : decode cX5_number 17 = .ok (.invokevirtual 45, 3) := by decide +kernel
theorem dX5_number_20 : decode cX5_number 20 = .ok (.aload_n 0, 1) := by decide +kernel
theorem dX5_number_21 : decode cX5_number 21 = .ok (.getfield 31, 3) := by decide +kernel
theorem dX5_number_24 : decode cX5_number 24 = .ok (.ifCond .eq 5, 3) := by decide +kernel
theorem dX5_number_27 : decode cX5_number 27 = .ok (.iconst 0, 1) := by decide +kernel
theorem dX5_number_28 : decode cX5_number 28 = .ok (.ireturn, 1) := by decide +kernel
theorem dX5_number_29 : decode cX5_number 29 = .ok (.aload_n 0, 1) := by decide +kernel
theorem dX5_number_30 : decode cX5_number 30 = .ok (.aload_n 0, 1) := by decide +kernel
theorem dX5_number_31 : decode cX5_number 31 = .ok (.getfield 28, 3) := by decide +kernel
theorem dX5_number_34 : decode cX5_number 34 = .ok (.putfield 49, 3) := by decide +kernel
theorem dX5_number_37 : decode cX5_number 37 = .ok (.iconst 0, 1) := by decide +kernel
theorem dX5_number_38 : decode cX5_number 38 = .ok (.istore_n 3, 1) := by decide +kernel
theorem dX5_number_39 : decode cX5_number 39 = .ok (.iconst 0, 1) := by decide +kernel
theorem dX5_number_40 : decode cX5_number 40 = .ok (.istore 4, 2) := by decide +kernel
theorem dX5_number_42 : decode cX5_number 42 = .ok (.iload 4, 2) := by decide +kernel
theorem dX5_number_44 : decode cX5_number 44 = .ok (.sipush 250, 3) := by decide +kernel
theorem dX5_number_47 : decode cX5_number 47 = .ok (.if_icmp .ge 50, 3) := by decide +kernel
theorem dX5_number_50 : decode cX5_number 50 = .ok (.aload_n 0, 1) := by decide +kernel
theorem dX5_number_51 : decode cX5_number 51 = .ok (.invokevirtual 41, 3) := by decide +kernel
theorem dX5_number_54 : decode cX5_number 54 = .ok (.ifCond .eq 43, 3) := by decide +kernel
theorem dX5_number_57 : decode cX5_number 57 = .ok (.iload 4, 2) := by decide +kernel
theorem dX5_number_59 : decode cX5_number 59 = .ok (.iconst 3, 1) := by decide +kernel
theorem dX5_number_60 : decode cX5_number 60 = .ok (.if_icmp .ge 21, 3) := by decide +kernel
theorem dX5_number_63 : decode cX5_number 63 = .ok (.iload_n 3, 1) := by decide +kernel
theorem dX5_number_64 : decode cX5_number 64 = .ok (.bipush 10, 2) := by decide +kernel
theorem dX5_number_66 : decode cX5_number 66 = .ok (.imul, 1) := by decide +kernel
theorem dX5_number_67 : decode cX5_number 67 = .ok (.aload_n 0, 1) := by decide +kernel
theorem dX5_number_68 : decode cX5_number 68 = .ok (.getfield 9, 3) := by decide +kernel
theorem dX5_number_71 : decode cX5_number 71 = .ok (.aload_n 0, 1) := by decide +kernel
theorem dX5_number_72 : decode cX5_number 72 = .ok (.getfield 28, 3) := by decide +kernel
theorem dX5_number_75 : decode cX5_number 75 = .ok (.iaload, 1) := by decide +kernel
theorem dX5_number_76 : decode cX5_number 76 = .ok (.iadd, 1) := by decide +kernel
theorem dX5_number_77 : decode cX5_number 77 = .ok (.bipush 48, 2) := by decide +kernel
theorem dX5_number_79 : decode cX5_number 79 = .ok (.isub, 1) := by decide +kernel
theorem dX5_number_80 : decode cX5_number 80 = .ok (.istore_n 3, 1) := by decide +kernel
theorem dX5_number_81 : decode cX5_number 81 = .ok (.aload_n 0, 1) := by decide +kernel
theorem dX5_number_82 : decode cX5_number 82 = .ok (.dup, 1) := by decide +kernel
theorem dX5_number_83 : decode cX5_number 83 = .ok (.getfield 28, 3) := by decide +kernel
theorem dX5_number_86 : decode cX5_number 86 = .ok (.iconst 1, 1) := by decide +kernel
theorem dX5_number_87 : decode cX5_number 87 = .ok (.iadd, 1) := by decide +kernel
theorem dX5_number_88 : decode cX5_number 88 = .ok (.putfield 28, 3) := by decide +kernel
theorem dX5_number_91 : decode cX5_number 91 = .ok (.iinc 4 1, 3) := by decide +kernel
theorem dX5_number_94 : decode cX5_number 94 = .ok (.goto (-52), 3) := by decide +kernel
theorem dX5_number_97 : decode cX5_number 97 = .ok (.aload_n 0, 1) := by decide +kernel
theorem dX5_number_98 : decode cX5_number 98 = .ok (.getfield 28, 3) := by decide +kernel
theorem dX5_number_101 : decode cX5_number 101 = .ok (.aload_n 0, 1) := by decide +kernel
theorem dX5_number_102 : decode cX5_number 102 = .ok (.getfield 49, 3) := by decide +kernel
theorem dX5_number_105 : decode cX5_number 105 = .ok (.isub, 1) := by decide +kernel
theorem dX5_number_106 : decode cX5_number 106 = .ok (.iconst 3, 1) := by decide +kernel
theorem dX5_number_107 : decode cX5_number 107 = .ok (.if_icmp .gt 13, 3) := by decide +kernel
theorem dX5_number_110 : decode cX5_number 110 = .ok (.iload_n 3, 1) := by decide +kernel
theorem dX5_number_111 : decode cX5_number 111 = .ok (.iload_n 1, 1) := by decide +kernel
theorem dX5_number_112 : decode cX5_number 112 = .ok (.if_icmp .lt 8, 3) := by decide +kernel
theorem dX5_number_115 : decode cX5_number 115 = .ok (.iload_n 3, 1) := by decide +kernel
theorem dX5_number_116 : decode cX5_number 116 = .ok (.iload_n 2, 1) := by decide +kernel
theorem dX5_number_117 : decode cX5_number 117 = .ok (.if_icmp .le 14, 3) := by decide +kernel
theorem dX5_number_120 : decode cX5_number 120 = .ok (.aload_n 0, 1) := by decide +kernel
theorem dX5_number_121 : decode cX5_number 121 = .ok (.iconst 2, 1) := by decide +kernel
theorem dX5_number_122 : decode cX5_number 122 = .ok (.aload_n 0, 1) := by decide +kernel
theorem dX5_number_123 : decode cX5_number 123 = .ok (.getfield 49, 3) := by decide +kernel
theorem dX5_number_126 : decode cX5_number 126 = .ok (.invokevirtual 45, 3) := by decide +kernel
theorem dX5_number_129 : decode cX5_number 129 = .ok (.iconst 0, 1) := by decide +kernel
theorem dX5_number_130 : decode cX5_number 130 = .ok (.ireturn, 1) := by decide +kernel
theorem dX5_number_131 : decode cX5_number 131 = .ok (.iload_n 3, 1) := by decide +kernel
theorem dX5_number_132 : decode cX5_number 132 = .ok (.ireturn, 1) := by decide +kernel
theorem dX5_endOfClause_0 : decode cX5_endOfClause 0 = .ok (.aload_n 0, 1) := by decide +kernel
theorem dX5_endOfClause_1 : decode cX5_endOfClause 1 = .ok (.invokevirtual 34, 3) := by decide +kernel
theorem dX5_endOfClause_4 : decode cX5_endOfClause 4 = .ok (.aload_n 0, 1) := by decide +kernel
theorem dX5_endOfClause_5 : decode cX5_endOfClause 5 = .ok (.getfield 28, 3) := by decide +kernel
theorem dX5_endOfClause_8 : decode cX5_endOfClause 8 = .ok (.aload_n 0, 1) := by decide +kernel
theorem dX5_endOfClause_9 : decode cX5_endOfClause 9 = .ok (.getfield 19, 3) := by decide +kernel
theorem dX5_endOfClause_12 : decode cX5_endOfClause 12 = .ok (.if_icmp .ge 30, 3) := by decide +kernel
theorem dX5_endOfClause_15 : decode cX5_endOfClause 15 = .ok (.aload_n 0, 1) := by decide +kernel
theorem dX5_endOfClause_16 : decode cX5_endOfClause 16 = .ok (.getfield 9, 3) := by decide +kernel
theorem dX5_endOfClause_19 : decode cX5_endOfClause 19 = .ok (.aload_n 0, 1) := by decide +kernel
theorem dX5_endOfClause_20 : decode cX5_endOfClause 20 = .ok (.getfield 28, 3) := by decide +kernel
theorem dX5_endOfClause_23 : decode cX5_endOfClause 23 = .ok (.iaload, 1) := by decide +kernel
theorem dX5_endOfClause_24 : decode cX5_endOfClause 24 = .ok (.bipush 59, 2) := by decide +kernel
theorem dX5_endOfClause_26 : decode cX5_endOfClause 26 = .ok (.if_icmp .ne 16, 3) := by decide +kernel
theorem dX5_endOfClause_29 : decode cX5_endOfClause 29 = .ok (.aload_n 0, 1) := by decide +kernel
theorem dX5_endOfClause_30 : decode cX5_endOfClause 30 = .ok (.dup, 1) := by decide +kernel
theorem dX5_endOfClause_31 : decode cX5_endOfClause 31 = .ok (.getfield 28, 3) := by decide +kernel
theorem dX5_endOfClause_34 : decode cX5_endOfClause 34 = .ok (.iconst 1, 1) := by decide +kernel
theorem dX5_endOfClause_35 : decode cX5_endOfClause 35 = .ok (.iadd, 1) := by decide +kernel
theorem dX5_endOfClause_36 : decode cX5_endOfClause 36 = .ok (.putfield 28, 3) := by decide +kernel
theorem dX5_endOfClause_39 : decode cX5_endOfClause 39 = .ok (.goto 12, 3) := by decide +kernel
theorem dX5_endOfClause_42 : decode cX5_endOfClause 42 = .ok (.aload_n 0, 1) := by decide +kernel
theorem dX5_endOfClause_43 : decode cX5_endOfClause 43 = .ok (.iconst 1, 1) := by decide +kernel
theorem dX5_endOfClause_44 : decode cX5_endOfClause 44 = .ok (.aload_n 0, 1) := by decide +kernel
theorem dX5_endOfClause_45 : decode cX5_endOfClause 45 = .ok (.getfield 28, 3) := by decide +kernel
theorem dX5_endOfClause_48 : decode cX5_endOfClause 48 = .ok (.invokevirtual 45, 3) := by decide +kernel
theorem dX5_endOfClause_51 : decode cX5_endOfClause 51 = .ok (.return_, 1) := by decide +kernel
theorem dX5_clause_0 : decode cX5_clause 0 = .ok (.aload_n 0, 1) := by decide +kernel
theorem dX5_clause_1 : decode cX5_clause 1 = .ok (.getfield 9, 3) := by decide +kernel
theorem dX5_clause_4 : decode cX5_clause 4 = .ok (.aload_n 0, 1) := by decide +kernel
theorem dX5_clause_5 : decode cX5_clause 5 = .ok (.getfield 28, 3) := by decide +kernel
theorem dX5_clause_8 : decode cX5_clause 8 = .ok (.iaload, 1) := by decide +kernel
theorem dX5_clause_9 : decode cX5_clause 9 = .ok (.istore_n 2, 1) := by decide +kernel
theorem dX5_clause_10 : decode cX5_clause 10 = .ok (.aload_n 1, 1) := by decide +kernel
theorem dX5_clause_11 : decode cX5_clause 11 = .ok (.getfield 52, 3) := by decide +kernel
theorem dX5_clause_14 : decode cX5_clause 14 = .ok (.ifCond .ne 19, 3) := by decide +kernel
theorem dX5_clause_17 : decode cX5_clause 17 = .ok (.iload_n 2, 1) := by decide +kernel
theorem dX5_clause_18 : decode cX5_clause 18 = .ok (.bipush 112, 2) := by decide +kernel
theorem dX5_clause_20 : decode cX5_clause 20 = .ok (.if_icmp .eq 13, 3) := by decide +kernel
theorem dX5_clause_23 : decode cX5_clause 23 = .ok (.aload_n 0, 1) := by decide +kernel
theorem dX5_clause_24 : decode cX5_clause 24 = .ok (.iconst 1, 1) := by decide +kernel
theorem dX5_clause_25 : decode cX5_clause 25 = .ok (.aload_n 0, 1) := by decide +kernel
theorem dX5_clause_26 : decode cX5_clause 26 = .ok (.getfield 28, 3) := by decide +kernel
theorem dX5_clause_29 : decode cX5_clause 29 = .ok (.invokevirtual 45, 3) := by decide +kernel
theorem dX5_clause_32 : decode cX5_clause 32 = .ok (.return_, 1) := by decide +kernel
theorem dX5_clause_33 : decode cX5_clause 33 = .ok (.iload_n 2, 1) := by decide +kernel
theorem dX5_clause_34 : decode cX5_clause 34 = .ok (.tableswitch 134 99 116 #[102, 134, 126, 94, 134, 134, 134, 134, 134, 134, 134, 134, 134, 86, 134, 118, 134, 110], 86) := by decide +kernel
theorem dX5_clause_120 : decode cX5_clause 120 = .ok (.aload_n 0, 1) := by decide +kernel
theorem dX5_clause_121 : decode cX5_clause 121 = .ok (.aload_n 1, 1) := by decide +kernel
theorem dX5_clause_122 : decode cX5_clause 122 = .ok (.invokevirtual 55, 3) := by decide +kernel
theorem dX5_clause_125 : decode cX5_clause 125 = .ok (.goto 52, 3) := by decide +kernel
theorem dX5_clause_128 : decode cX5_clause 128 = .ok (.aload_n 0, 1) := by decide +kernel
theorem dX5_clause_129 : decode cX5_clause 129 = .ok (.aload_n 1, 1) := by decide +kernel
theorem dX5_clause_130 : decode cX5_clause 130 = .ok (.invokevirtual 58, 3) := by decide +kernel
theorem dX5_clause_133 : decode cX5_clause 133 = .ok (.goto 44, 3) := by decide +kernel
theorem dX5_clause_136 : decode cX5_clause 136 = .ok (.aload_n 0, 1) := by decide +kernel
theorem dX5_clause_137 : decode cX5_clause 137 = .ok (.aload_n 1, 1) := by decide +kernel
theorem dX5_clause_138 : decode cX5_clause 138 = .ok (.invokevirtual 61, 3) := by decide +kernel
theorem dX5_clause_141 : decode cX5_clause 141 = .ok (.goto 36, 3) := by decide +kernel
theorem dX5_clause_144 : decode cX5_clause 144 = .ok (.aload_n 0, 1) := by decide +kernel
theorem dX5_clause_145 : decode cX5_clause 145 = .ok (.aload_n 1, 1) := by decide +kernel
theorem dX5_clause_146 : decode cX5_clause 146 = .ok (.invokevirtual 64, 3) := by decide +kernel
theorem dX5_clause_149 : decode cX5_clause 149 = .ok (.goto 28, 3) := by decide +kernel
theorem dX5_clause_152 : decode cX5_clause 152 = .ok (.aload_n 0, 1) := by decide +kernel
theorem dX5_clause_153 : decode cX5_clause 153 = .ok (.aload_n 1, 1) := by decide +kernel
theorem dX5_clause_154 : decode cX5_clause 154 = .ok (.invokevirtual 67, 3) := by decide +kernel
theorem dX5_clause_157 : decode cX5_clause 157 = .ok (.goto 20, 3) := by decide +kernel
theorem dX5_clause_160 : decode cX5_clause 160 = .ok (.aload_n 0, 1) := by decide +kernel
theorem dX5_clause_161 : decode cX5_clause 161 = .ok (.aload_n 1, 1) := by decide +kernel
theorem dX5_clause_162 : decode cX5_clause 162 = .ok (.invokevirtual 70, 3) := by decide +kernel
theorem dX5_clause_165 : decode cX5_clause 165 = .ok (.goto 12, 3) := by decide +kernel
theorem dX5_clause_168 : decode cX5_clause 168 = .ok (.aload_n 0, 1) := by decide +kernel
theorem dX5_clause_169 : decode cX5_clause 169 = .ok (.iconst 1, 1) := by decide +kernel
theorem dX5_clause_170 : decode cX5_clause 170 = .ok (.aload_n 0, 1) := by decide +kernel
theorem dX5_clause_171 : decode cX5_clause 171 = .ok (.getfield 28, 3) := by decide +kernel
theorem dX5_clause_174 : decode cX5_clause 174 = .ok (.invokevirtual 45, 3) := by decide +kernel
theorem dX5_clause_177 : decode cX5_clause 177 = .ok (.return_, 1) := by decide +kernel
theorem dX5_peopleClause_0 : decode cX5_peopleClause 0 = .ok (.aload_n 1, 1) := by decide +kernel
theorem dX5_peopleClause_1 : decode cX5_peopleClause 1 = .ok (.getfield 52, 3) := by decide +kernel
theorem dX5_peopleClause_4 : decode cX5_peopleClause 4 = .ok (.ifCond .le 13, 3) := by decide +kernel
theorem dX5_peopleClause_7 : decode cX5_peopleClause 7 = .ok (.aload_n 0, 1) := by decide +kernel
theorem dX5_peopleClause_8 : decode cX5_peopleClause 8 = .ok (.iconst 3, 1) := by decide +kernel
theorem dX5_peopleClause_9 : decode cX5_peopleClause 9 = .ok (.aload_n 0, 1) := by decide +kernel
theorem dX5_peopleClause_10 : decode cX5_peopleClause 10 = .ok (.getfield 28, 3) := by decide +kernel
theorem dX5_peopleClause_13 : decode cX5_peopleClause 13 = .ok (.invokevirtual 45, 3) := by decide +kernel
theorem dX5_peopleClause_16 : decode cX5_peopleClause 16 = .ok (.return_, 1) := by decide +kernel
theorem dX5_peopleClause_17 : decode cX5_peopleClause 17 = .ok (.aload_n 0, 1) := by decide +kernel
theorem dX5_peopleClause_18 : decode cX5_peopleClause 18 = .ok (.dup, 1) := by decide +kernel
theorem dX5_peopleClause_19 : decode cX5_peopleClause 19 = .ok (.getfield 28, 3) := by decide +kernel
theorem dX5_peopleClause_22 : decode cX5_peopleClause 22 = .ok (.iconst 1, 1) := by decide +kernel
theorem dX5_peopleClause_23 : decode cX5_peopleClause 23 = .ok (.iadd, 1) := by decide +kernel
theorem dX5_peopleClause_24 : decode cX5_peopleClause 24 = .ok (.putfield 28, 3) := by decide +kernel
theorem dX5_peopleClause_27 : decode cX5_peopleClause 27 = .ok (.aload_n 0, 1) := by decide +kernel
theorem dX5_peopleClause_28 : decode cX5_peopleClause 28 = .ok (.iconst 1, 1) := by decide +kernel
theorem dX5_peopleClause_29 : decode cX5_peopleClause 29 = .ok (.bipush 6, 2) := by decide +kernel
theorem dX5_peopleClause_31 : decode cX5_peopleClause 31 = .ok (.invokevirtual 73, 3) := by decide +kernel
theorem dX5_peopleClause_34 : decode cX5_peopleClause 34 = .ok (.istore_n 2, 1) := by decide +kernel
theorem dX5_peopleClause_35 : decode cX5_peopleClause 35 = .ok (.aload_n 0, 1) := by decide +kernel
theorem dX5_peopleClause_36 : decode cX5_peopleClause 36 = .ok (.invokevirtual 77, 3) := by decide +kernel
theorem dX5_peopleClause_39 : decode cX5_peopleClause 39 = .ok (.aload_n 1, 1) := by decide +kernel
theorem dX5_peopleClause_40 : decode cX5_peopleClause 40 = .ok (.iload_n 2, 1) := by decide +kernel
theorem dX5_peopleClause_41 : decode cX5_peopleClause 41 = .ok (.putfield 52, 3) := by decide +kernel
theorem dX5_peopleClause_44 : decode cX5_peopleClause 44 = .ok (.return_, 1) := by decide +kernel
theorem dX5_fighterClause_0 : decode cX5_fighterClause 0 = .ok (.aload_n 1, 1) := by decide +kernel
theorem dX5_fighterClause_1 : decode cX5_fighterClause 1 = .ok (.getfield 80, 3) := by decide +kernel
theorem dX5_fighterClause_4 : decode cX5_fighterClause 4 = .ok (.istore_n 2, 1) := by decide +kernel
theorem dX5_fighterClause_5 : decode cX5_fighterClause 5 = .ok (.iload_n 2, 1) := by decide +kernel
theorem dX5_fighterClause_6 : decode cX5_fighterClause 6 = .ok (.iconst 5, 1) := by decide +kernel
theorem dX5_fighterClause_7 : decode cX5_fighterClause 7 = .ok (.if_icmp .lt 13, 3) := by decide +kernel
theorem dX5_fighterClause_10 : decode cX5_fighterClause 10 = .ok (.aload_n 0, 1) := by decide +kernel
theorem dX5_fighterClause_11 : decode cX5_fighterClause 11 = .ok (.iconst 3, 1) := by decide +kernel
theorem dX5_fighterClause_12 : decode cX5_fighterClause 12 = .ok (.aload_n 0, 1) := by decide +kernel
theorem dX5_fighterClause_13 : decode cX5_fighterClause 13 = .ok (.getfield 28, 3) := by decide +kernel
theorem dX5_fighterClause_16 : decode cX5_fighterClause 16 = .ok (.invokevirtual 45, 3) := by decide +kernel
theorem dX5_fighterClause_19 : decode cX5_fighterClause 19 = .ok (.return_, 1) := by decide +kernel
theorem dX5_fighterClause_20 : decode cX5_fighterClause 20 = .ok (.aload_n 0, 1) := by decide +kernel
theorem dX5_fighterClause_21 : decode cX5_fighterClause 21 = .ok (.dup, 1) := by decide +kernel
theorem dX5_fighterClause_22 : decode cX5_fighterClause 22 = .ok (.getfield 28, 3) := by decide +kernel
theorem dX5_fighterClause_25 : decode cX5_fighterClause 25 = .ok (.iconst 1, 1) := by decide +kernel
theorem dX5_fighterClause_26 : decode cX5_fighterClause 26 = .ok (.iadd, 1) := by decide +kernel
theorem dX5_fighterClause_27 : decode cX5_fighterClause 27 = .ok (.putfield 28, 3) := by decide +kernel
theorem dX5_fighterClause_30 : decode cX5_fighterClause 30 = .ok (.aload_n 1, 1) := by decide +kernel
theorem dX5_fighterClause_31 : decode cX5_fighterClause 31 = .ok (.getfield 83, 3) := by decide +kernel
theorem dX5_fighterClause_34 : decode cX5_fighterClause 34 = .ok (.iload_n 2, 1) := by decide +kernel
theorem dX5_fighterClause_35 : decode cX5_fighterClause 35 = .ok (.aload_n 0, 1) := by decide +kernel
theorem dX5_fighterClause_36 : decode cX5_fighterClause 36 = .ok (.iconst 0, 1) := by decide +kernel
theorem dX5_fighterClause_37 : decode cX5_fighterClause 37 = .ok (.iconst 4, 1) := by decide +kernel
theorem dX5_fighterClause_38 : decode cX5_fighterClause 38 = .ok (.invokevirtual 73, 3) := by decide +kernel
theorem dX5_fighterClause_41 : decode cX5_fighterClause 41 = .ok (.iastore, 1) := by decide +kernel
theorem dX5_fighterClause_42 : decode cX5_fighterClause 42 = .ok (.aload_n 1, 1) := by decide +kernel
theorem dX5_fighterClause_43 : decode cX5_fighterClause 43 = .ok (.getfield 86, 3) := by decide +kernel
theorem dX5_fighterClause_46 : decode cX5_fighterClause 46 = .ok (.iload_n 2, 1) := by decide +kernel
theorem dX5_fighterClause_47 : decode cX5_fighterClause 47 = .ok (.aload_n 0, 1) := by decide +kernel
theorem dX5_fighterClause_48 : decode cX5_fighterClause 48 = .ok (.iconst 0, 1) := by decide +kernel
theorem dX5_fighterClause_49 : decode cX5_fighterClause 49 = .ok (.bipush 99, 2) := by decide +kernel
theorem dX5_fighterClause_51 : decode cX5_fighterClause 51 = .ok (.invokevirtual 73, 3) := by decide +kernel
theorem dX5_fighterClause_54 : decode cX5_fighterClause 54 = .ok (.iastore, 1) := by decide +kernel
theorem dX5_fighterClause_55 : decode cX5_fighterClause 55 = .ok (.aload_n 1, 1) := by decide +kernel
theorem dX5_fighterClause_56 : decode cX5_fighterClause 56 = .ok (.getfield 89, 3) := by decide +kernel
theorem dX5_fighterClause_59 : decode cX5_fighterClause 59 = .ok (.iload_n 2, 1) := by decide +kernel
theorem dX5_fighterClause_60 : decode cX5_fighterClause 60 = .ok (.aload_n 0, 1) := by decide +kernel
theorem dX5_fighterClause_61 : decode cX5_fighterClause 61 = .ok (.iconst 0, 1) := by decide +kernel
theorem dX5_fighterClause_62 : decode cX5_fighterClause 62 = .ok (.bipush 99, 2) := by decide +kernel
theorem dX5_fighterClause_64 : decode cX5_fighterClause 64 = .ok (.invokevirtual 73, 3) := by decide +kernel
theorem dX5_fighterClause_67 : decode cX5_fighterClause 67 = .ok (.iastore, 1) := by decide +kernel
theorem dX5_fighterClause_68 : decode cX5_fighterClause 68 = .ok (.aload_n 0, 1) := by decide +kernel
theorem dX5_fighterClause_69 : decode cX5_fighterClause 69 = .ok (.invokevirtual 77, 3) := by decide +kernel
theorem dX5_fighterClause_72 : decode cX5_fighterClause 72 = .ok (.aload_n 1, 1) := by decide +kernel
theorem dX5_fighterClause_73 : decode cX5_fighterClause 73 = .ok (.iload_n 2, 1) := by decide +kernel
theorem dX5_fighterClause_74 : decode cX5_fighterClause 74 = .ok (.iconst 1, 1) := by decide +kernel
theorem dX5_fighterClause_75 : decode cX5_fighterClause 75 = .ok (.iadd, 1) := by decide +kernel
theorem dX5_fighterClause_76 : decode cX5_fighterClause 76 = .ok (.putfield 80, 3) := by decide +kernel
theorem dX5_fighterClause_79 : decode cX5_fighterClause 79 = .ok (.return_, 1) := by decide +kernel
theorem dX5_chatClause_0 : decode cX5_chatClause 0 = .ok (.aload_n 1, 1) := by decide +kernel
theorem dX5_chatClause_1 : decode cX5_chatClause 1 = .ok (.getfield 92, 3) := by decide +kernel
theorem dX5_chatClause_4 : decode cX5_chatClause 4 = .ok (.bipush 10, 2) := by decide +kernel
theorem dX5_chatClause_6 : decode cX5_chatClause 6 = .ok (.if_icmp .lt 13, 3) := by decide +kernel
theorem dX5_chatClause_9 : decode cX5_chatClause 9 = .ok (.aload_n 0, 1) := by decide +kernel
theorem dX5_chatClause_10 : decode cX5_chatClause 10 = .ok (.iconst 3, 1) := by decide +kernel
theorem dX5_chatClause_11 : decode cX5_chatClause 11 = .ok (.aload_n 0, 1) := by decide +kernel
theorem dX5_chatClause_12 : decode cX5_chatClause 12 = .ok (.getfield 28, 3) := by decide +kernel
theorem dX5_chatClause_15 : decode cX5_chatClause 15 = .ok (.invokevirtual 45, 3) := by decide +kernel
theorem dX5_chatClause_18 : decode cX5_chatClause 18 = .ok (.return_, 1) := by decide +kernel
theorem dX5_chatClause_19 : decode cX5_chatClause 19 = .ok (.aload_n 0, 1) := by decide +kernel
theorem dX5_chatClause_20 : decode cX5_chatClause 20 = .ok (.dup, 1) := by decide +kernel
theorem dX5_chatClause_21 : decode cX5_chatClause 21 = .ok (.getfield 28, 3) := by decide +kernel
theorem dX5_chatClause_24 : decode cX5_chatClause 24 = .ok (.iconst 1, 1) := by decide +kernel
theorem dX5_chatClause_25 : decode cX5_chatClause 25 = .ok (.iadd, 1) := by decide +kernel
theorem dX5_chatClause_26 : decode cX5_chatClause 26 = .ok (.putfield 28, 3) := by decide +kernel
theorem dX5_chatClause_29 : decode cX5_chatClause 29 = .ok (.aload_n 0, 1) := by decide +kernel
theorem dX5_chatClause_30 : decode cX5_chatClause 30 = .ok (.iconst 0, 1) := by decide +kernel
theorem dX5_chatClause_31 : decode cX5_chatClause 31 = .ok (.aload_n 1, 1) := by decide +kernel
theorem dX5_chatClause_32 : decode cX5_chatClause 32 = .ok (.getfield 52, 3) := by decide +kernel
theorem dX5_chatClause_35 : decode cX5_chatClause 35 = .ok (.iconst 1, 1) := by decide +kernel
theorem dX5_chatClause_36 : decode cX5_chatClause 36 = .ok (.isub, 1) := by decide +kernel
theorem dX5_chatClause_37 : decode cX5_chatClause 37 = .ok (.invokevirtual 73, 3) := by decide +kernel
theorem dX5_chatClause_40 : decode cX5_chatClause 40 = .ok (.istore_n 2, 1) := by decide +kernel
theorem dX5_chatClause_41 : decode cX5_chatClause 41 = .ok (.aload_n 0, 1) := by decide +kernel
theorem dX5_chatClause_42 : decode cX5_chatClause 42 = .ok (.iconst 0, 1) := by decide +kernel
theorem dX5_chatClause_43 : decode cX5_chatClause 43 = .ok (.aload_n 1, 1) := by decide +kernel
theorem dX5_chatClause_44 : decode cX5_chatClause 44 = .ok (.getfield 52, 3) := by decide +kernel
theorem dX5_chatClause_47 : decode cX5_chatClause 47 = .ok (.iconst 1, 1) := by decide +kernel
theorem dX5_chatClause_48 : decode cX5_chatClause 48 = .ok (.isub, 1) := by decide +kernel
theorem dX5_chatClause_49 : decode cX5_chatClause 49 = .ok (.invokevirtual 73, 3) := by decide +kernel
theorem dX5_chatClause_52 : decode cX5_chatClause 52 = .ok (.istore_n 3, 1) := by decide +kernel
theorem dX5_chatClause_53 : decode cX5_chatClause 53 = .ok (.iload_n 2, 1) := by decide +kernel
theorem dX5_chatClause_54 : decode cX5_chatClause 54 = .ok (.iload_n 3, 1) := by decide +kernel
theorem dX5_chatClause_55 : decode cX5_chatClause 55 = .ok (.if_icmp .eq 16, 3) := by decide +kernel
theorem dX5_chatClause_58 : decode cX5_chatClause 58 = .ok (.aload_n 1, 1) := by decide +kernel
theorem dX5_chatClause_59 : decode cX5_chatClause 59 = .ok (.getfield 95, 3) := by decide +kernel
theorem dX5_chatClause_62 : decode cX5_chatClause 62 = .ok (.iload_n 2, 1) := by decide +kernel
theorem dX5_chatClause_63 : decode cX5_chatClause 63 = .ok (.iaload, 1) := by decide +kernel
theorem dX5_chatClause_64 : decode cX5_chatClause 64 = .ok (.iload_n 3, 1) := by decide +kernel
theorem dX5_chatClause_65 : decode cX5_chatClause 65 = .ok (.invokestatic 98, 3) := by decide +kernel
theorem dX5_chatClause_68 : decode cX5_chatClause 68 = .ok (.ifCond .eq 12, 3) := by decide +kernel
theorem dX5_chatClause_71 : decode cX5_chatClause 71 = .ok (.aload_n 0, 1) := by decide +kernel
theorem dX5_chatClause_72 : decode cX5_chatClause 72 = .ok (.iconst 4, 1) := by decide +kernel
theorem dX5_chatClause_73 : decode cX5_chatClause 73 = .ok (.aload_n 0, 1) := by decide +kernel
theorem dX5_chatClause_74 : decode cX5_chatClause 74 = .ok (.getfield 49, 3) := by decide +kernel
theorem dX5_chatClause_77 : decode cX5_chatClause 77 = .ok (.invokevirtual 45, 3) := by decide +kernel
theorem dX5_chatClause_80 : decode cX5_chatClause 80 = .ok (.aload_n 0, 1) := by decide +kernel
theorem dX5_chatClause_81 : decode cX5_chatClause 81 = .ok (.invokevirtual 77, 3) := by decide +kernel
theorem dX5_chatClause_84 : decode cX5_chatClause 84 = .ok (.aload_n 1, 1) := by decide +kernel
theorem dX5_chatClause_85 : decode cX5_chatClause 85 = .ok (.getfield 95, 3) := by decide +kernel
theorem dX5_chatClause_88 : decode cX5_chatClause 88 = .ok (.iload_n 2, 1) := by decide +kernel
theorem dX5_chatClause_89 : decode cX5_chatClause 89 = .ok (.dup2, 1) := by decide +kernel
theorem dX5_chatClause_90 : decode cX5_chatClause 90 = .ok (.iaload, 1) := by decide +kernel
theorem dX5_chatClause_91 : decode cX5_chatClause 91 = .ok (.iconst 1, 1) := by decide +kernel
theorem dX5_chatClause_92 : decode cX5_chatClause 92 = .ok (.iload_n 3, 1) := by decide +kernel
theorem dX5_chatClause_93 : decode cX5_chatClause 93 = .ok (.ishl, 1) := by decide +kernel
theorem dX5_chatClause_94 : decode cX5_chatClause 94 = .ok (.ior, 1) := by decide +kernel
theorem dX5_chatClause_95 : decode cX5_chatClause 95 = .ok (.iastore, 1) := by decide +kernel
theorem dX5_chatClause_96 : decode cX5_chatClause 96 = .ok (.aload_n 1, 1) := by decide +kernel
theorem dX5_chatClause_97 : decode cX5_chatClause 97 = .ok (.getfield 95, 3) := by decide +kernel
theorem dX5_chatClause_100 : decode cX5_chatClause 100 = .ok (.iload_n 3, 1) := by decide +kernel
theorem dX5_chatClause_101 : decode cX5_chatClause 101 = .ok (.dup2, 1) := by decide +kernel
theorem dX5_chatClause_102 : decode cX5_chatClause 102 = .ok (.iaload, 1) := by decide +kernel
theorem dX5_chatClause_103 : decode cX5_chatClause 103 = .ok (.iconst 1, 1) := by decide +kernel
theorem dX5_chatClause_104 : decode cX5_chatClause 104 = .ok (.iload_n 2, 1) := by decide +kernel
theorem dX5_chatClause_105 : decode cX5_chatClause 105 = .ok (.ishl, 1) := by decide +kernel
theorem dX5_chatClause_106 : decode cX5_chatClause 106 = .ok (.ior, 1) := by decide +kernel
theorem dX5_chatClause_107 : decode cX5_chatClause 107 = .ok (.iastore, 1) := by decide +kernel
theorem dX5_chatClause_108 : decode cX5_chatClause 108 = .ok (.aload_n 1, 1) := by decide +kernel
theorem dX5_chatClause_109 : decode cX5_chatClause 109 = .ok (.dup, 1) := by decide +kernel
theorem dX5_chatClause_110 : decode cX5_chatClause 110 = .ok (.getfield 92, 3) := by decide +kernel
theorem dX5_chatClause_113 : decode cX5_chatClause 113 = .ok (.iconst 1, 1) := by decide +kernel
theorem dX5_chatClause_114 : decode cX5_chatClause 114 = .ok (.iadd, 1) := by decide +kernel
theorem dX5_chatClause_115 : decode cX5_chatClause 115 = .ok (.putfield 92, 3) := by decide +kernel
theorem dX5_chatClause_118 : decode cX5_chatClause 118 = .ok (.return_, 1) := by decide +kernel
theorem dX5_taskClause_0 : decode cX5_taskClause 0 = .ok (.aload_n 1, 1) := by decide +kernel
theorem dX5_taskClause_1 : decode cX5_taskClause 1 = .ok (.getfield 102, 3) := by decide +kernel
theorem dX5_taskClause_4 : decode cX5_taskClause 4 = .ok (.istore_n 2, 1) := by decide +kernel
theorem dX5_taskClause_5 : decode cX5_taskClause 5 = .ok (.iload_n 2, 1) := by decide +kernel
theorem dX5_taskClause_6 : decode cX5_taskClause 6 = .ok (.bipush 6, 2) := by decide +kernel
theorem dX5_taskClause_8 : decode cX5_taskClause 8 = .ok (.if_icmp .lt 13, 3) := by decide +kernel
theorem dX5_taskClause_11 : decode cX5_taskClause 11 = .ok (.aload_n 0, 1) := by decide +kernel
theorem dX5_taskClause_12 : decode cX5_taskClause 12 = .ok (.iconst 3, 1) := by decide +kernel
theorem dX5_taskClause_13 : decode cX5_taskClause 13 = .ok (.aload_n 0, 1) := by decide +kernel
theorem dX5_taskClause_14 : decode cX5_taskClause 14 = .ok (.getfield 28, 3) := by decide +kernel
theorem dX5_taskClause_17 : decode cX5_taskClause 17 = .ok (.invokevirtual 45, 3) := by decide +kernel
theorem dX5_taskClause_20 : decode cX5_taskClause 20 = .ok (.return_, 1) := by decide +kernel
theorem dX5_taskClause_21 : decode cX5_taskClause 21 = .ok (.aload_n 0, 1) := by decide +kernel
theorem dX5_taskClause_22 : decode cX5_taskClause 22 = .ok (.dup, 1) := by decide +kernel
theorem dX5_taskClause_23 : decode cX5_taskClause 23 = .ok (.getfield 28, 3) := by decide +kernel
theorem dX5_taskClause_26 : decode cX5_taskClause 26 = .ok (.iconst 1, 1) := by decide +kernel
theorem dX5_taskClause_27 : decode cX5_taskClause 27 = .ok (.iadd, 1) := by decide +kernel
theorem dX5_taskClause_28 : decode cX5_taskClause 28 = .ok (.putfield 28, 3) := by decide +kernel
theorem dX5_taskClause_31 : decode cX5_taskClause 31 = .ok (.aload_n 1, 1) := by decide +kernel
theorem dX5_taskClause_32 : decode cX5_taskClause 32 = .ok (.getfield 105, 3) := by decide +kernel
theorem dX5_taskClause_35 : decode cX5_taskClause 35 = .ok (.iload_n 2, 1) := by decide +kernel
theorem dX5_taskClause_36 : decode cX5_taskClause 36 = .ok (.aload_n 0, 1) := by decide +kernel
theorem dX5_taskClause_37 : decode cX5_taskClause 37 = .ok (.iconst 0, 1) := by decide +kernel
theorem dX5_taskClause_38 : decode cX5_taskClause 38 = .ok (.aload_n 1, 1) := by decide +kernel
theorem dX5_taskClause_39 : decode cX5_taskClause 39 = .ok (.getfield 52, 3) := by decide +kernel
theorem dX5_taskClause_42 : decode cX5_taskClause 42 = .ok (.iconst 1, 1) := by decide +kernel
theorem dX5_taskClause_43 : decode cX5_taskClause 43 = .ok (.isub, 1) := by decide +kernel
theorem dX5_taskClause_44 : decode cX5_taskClause 44 = .ok (.invokevirtual 73, 3) := by decide +kernel
theorem dX5_taskClause_47 : decode cX5_taskClause 47 = .ok (.iastore, 1) := by decide +kernel
theorem dX5_taskClause_48 : decode cX5_taskClause 48 = .ok (.aload_n 1, 1) := by decide +kernel
theorem dX5_taskClause_49 : decode cX5_taskClause 49 = .ok (.getfield 108, 3) := by decide +kernel
theorem dX5_taskClause_52 : decode cX5_taskClause 52 = .ok (.iload_n 2, 1) := by decide +kernel
theorem dX5_taskClause_53 : decode cX5_taskClause 53 = .ok (.aload_n 0, 1) := by decide +kernel
theorem dX5_taskClause_54 : decode cX5_taskClause 54 = .ok (.iconst 0, 1) := by decide +kernel
theorem dX5_taskClause_55 : decode cX5_taskClause 55 = .ok (.bipush 99, 2) := by decide +kernel
theorem dX5_taskClause_57 : decode cX5_taskClause 57 = .ok (.invokevirtual 73, 3) := by decide +kernel
theorem dX5_taskClause_60 : decode cX5_taskClause 60 = .ok (.iastore, 1) := by decide +kernel
theorem dX5_taskClause_61 : decode cX5_taskClause 61 = .ok (.aload_n 1, 1) := by decide +kernel
theorem dX5_taskClause_62 : decode cX5_taskClause 62 = .ok (.getfield 111, 3) := by decide +kernel
theorem dX5_taskClause_65 : decode cX5_taskClause 65 = .ok (.iload_n 2, 1) := by decide +kernel
theorem dX5_taskClause_66 : decode cX5_taskClause 66 = .ok (.aload_n 0, 1) := by decide +kernel
theorem dX5_taskClause_67 : decode cX5_taskClause 67 = .ok (.iconst 0, 1) := by decide +kernel
theorem dX5_taskClause_68 : decode cX5_taskClause 68 = .ok (.bipush 99, 2) := by decide +kernel
theorem dX5_taskClause_70 : decode cX5_taskClause 70 = .ok (.invokevirtual 73, 3) := by decide +kernel
theorem dX5_taskClause_73 : decode cX5_taskClause 73 = .ok (.iastore, 1) := by decide +kernel
theorem dX5_taskClause_74 : decode cX5_taskClause 74 = .ok (.aload_n 1, 1) := by decide +kernel
theorem dX5_taskClause_75 : decode cX5_taskClause 75 = .ok (.getfield 114, 3) := by decide +kernel
theorem dX5_taskClause_78 : decode cX5_taskClause 78 = .ok (.iload_n 2, 1) := by decide +kernel
theorem dX5_taskClause_79 : decode cX5_taskClause 79 = .ok (.aload_n 0, 1) := by decide +kernel
theorem dX5_taskClause_80 : decode cX5_taskClause 80 = .ok (.iconst 0, 1) := by decide +kernel
theorem dX5_taskClause_81 : decode cX5_taskClause 81 = .ok (.bipush 20, 2) := by decide +kernel
theorem dX5_taskClause_83 : decode cX5_taskClause 83 = .ok (.invokevirtual 73, 3) := by decide +kernel
theorem dX5_taskClause_86 : decode cX5_taskClause 86 = .ok (.iastore, 1) := by decide +kernel
theorem dX5_taskClause_87 : decode cX5_taskClause 87 = .ok (.aload_n 0, 1) := by decide +kernel
theorem dX5_taskClause_88 : decode cX5_taskClause 88 = .ok (.invokevirtual 77, 3) := by decide +kernel
theorem dX5_taskClause_91 : decode cX5_taskClause 91 = .ok (.aload_n 1, 1) := by decide +kernel
theorem dX5_taskClause_92 : decode cX5_taskClause 92 = .ok (.iload_n 2, 1) := by decide +kernel
theorem dX5_taskClause_93 : decode cX5_taskClause 93 = .ok (.iconst 1, 1) := by decide +kernel
theorem dX5_taskClause_94 : decode cX5_taskClause 94 = .ok (.iadd, 1) := by decide +kernel
theorem dX5_taskClause_95 : decode cX5_taskClause 95 = .ok (.putfield 102, 3) := by decide +kernel
theorem dX5_taskClause_98 : decode cX5_taskClause 98 = .ok (.return_, 1) := by decide +kernel
theorem dX5_trickClause_0 : decode cX5_trickClause 0 = .ok (.aload_n 1, 1) := by decide +kernel
theorem dX5_trickClause_1 : decode cX5_trickClause 1 = .ok (.getfield 117, 3) := by decide +kernel
theorem dX5_trickClause_4 : decode cX5_trickClause 4 = .ok (.istore_n 2, 1) := by decide +kernel
theorem dX5_trickClause_5 : decode cX5_trickClause 5 = .ok (.iload_n 2, 1) := by decide +kernel
theorem dX5_trickClause_6 : decode cX5_trickClause 6 = .ok (.iconst 4, 1) := by decide +kernel
theorem dX5_trickClause_7 : decode cX5_trickClause 7 = .ok (.if_icmp .lt 13, 3) := by decide +kernel
theorem dX5_trickClause_10 : decode cX5_trickClause 10 = .ok (.aload_n 0, 1) := by decide +kernel
theorem dX5_trickClause_11 : decode cX5_trickClause 11 = .ok (.iconst 3, 1) := by decide +kernel
theorem dX5_trickClause_12 : decode cX5_trickClause 12 = .ok (.aload_n 0, 1) := by decide +kernel
theorem dX5_trickClause_13 : decode cX5_trickClause 13 = .ok (.getfield 28, 3) := by decide +kernel
theorem dX5_trickClause_16 : decode cX5_trickClause 16 = .ok (.invokevirtual 45, 3) := by decide +kernel
theorem dX5_trickClause_19 : decode cX5_trickClause 19 = .ok (.return_, 1) := by decide +kernel
theorem dX5_trickClause_20 : decode cX5_trickClause 20 = .ok (.aload_n 0, 1) := by decide +kernel
theorem dX5_trickClause_21 : decode cX5_trickClause 21 = .ok (.dup, 1) := by decide +kernel
theorem dX5_trickClause_22 : decode cX5_trickClause 22 = .ok (.getfield 28, 3) := by decide +kernel
theorem dX5_trickClause_25 : decode cX5_trickClause 25 = .ok (.iconst 1, 1) := by decide +kernel
theorem dX5_trickClause_26 : decode cX5_trickClause 26 = .ok (.iadd, 1) := by decide +kernel
theorem dX5_trickClause_27 : decode cX5_trickClause 27 = .ok (.putfield 28, 3) := by decide +kernel
theorem dX5_trickClause_30 : decode cX5_trickClause 30 = .ok (.aload_n 1, 1) := by decide +kernel
theorem dX5_trickClause_31 : decode cX5_trickClause 31 = .ok (.getfield 120, 3) := by decide +kernel
theorem dX5_trickClause_34 : decode cX5_trickClause 34 = .ok (.iload_n 2, 1) := by decide +kernel
theorem dX5_trickClause_35 : decode cX5_trickClause 35 = .ok (.aload_n 0, 1) := by decide +kernel
theorem dX5_trickClause_36 : decode cX5_trickClause 36 = .ok (.iconst 0, 1) := by decide +kernel
theorem dX5_trickClause_37 : decode cX5_trickClause 37 = .ok (.aload_n 1, 1) := by decide +kernel
theorem dX5_trickClause_38 : decode cX5_trickClause 38 = .ok (.getfield 102, 3) := by decide +kernel
theorem dX5_trickClause_41 : decode cX5_trickClause 41 = .ok (.iconst 1, 1) := by decide +kernel
theorem dX5_trickClause_42 : decode cX5_trickClause 42 = .ok (.isub, 1) := by decide +kernel
theorem dX5_trickClause_43 : decode cX5_trickClause 43 = .ok (.invokevirtual 73, 3) := by decide +kernel
theorem dX5_trickClause_46 : decode cX5_trickClause 46 = .ok (.iastore, 1) := by decide +kernel
theorem dX5_trickClause_47 : decode cX5_trickClause 47 = .ok (.aload_n 1, 1) := by decide +kernel
theorem dX5_trickClause_48 : decode cX5_trickClause 48 = .ok (.getfield 123, 3) := by decide +kernel
theorem dX5_trickClause_51 : decode cX5_trickClause 51 = .ok (.iload_n 2, 1) := by decide +kernel
theorem dX5_trickClause_52 : decode cX5_trickClause 52 = .ok (.aload_n 0, 1) := by decide +kernel
theorem dX5_trickClause_53 : decode cX5_trickClause 53 = .ok (.iconst 1, 1) := by decide +kernel
theorem dX5_trickClause_54 : decode cX5_trickClause 54 = .ok (.bipush 99, 2) := by decide +kernel
theorem dX5_trickClause_56 : decode cX5_trickClause 56 = .ok (.invokevirtual 73, 3) := by decide +kernel
theorem dX5_trickClause_59 : decode cX5_trickClause 59 = .ok (.iastore, 1) := by decide +kernel
theorem dX5_trickClause_60 : decode cX5_trickClause 60 = .ok (.aload_n 1, 1) := by decide +kernel
theorem dX5_trickClause_61 : decode cX5_trickClause 61 = .ok (.getfield 126, 3) := by decide +kernel
theorem dX5_trickClause_64 : decode cX5_trickClause 64 = .ok (.iload_n 2, 1) := by decide +kernel
theorem dX5_trickClause_65 : decode cX5_trickClause 65 = .ok (.aload_n 0, 1) := by decide +kernel
theorem dX5_trickClause_66 : decode cX5_trickClause 66 = .ok (.iconst 0, 1) := by decide +kernel
theorem dX5_trickClause_67 : decode cX5_trickClause 67 = .ok (.bipush 99, 2) := by decide +kernel
theorem dX5_trickClause_69 : decode cX5_trickClause 69 = .ok (.invokevirtual 73, 3) := by decide +kernel
theorem dX5_trickClause_72 : decode cX5_trickClause 72 = .ok (.iastore, 1) := by decide +kernel
theorem dX5_trickClause_73 : decode cX5_trickClause 73 = .ok (.aload_n 0, 1) := by decide +kernel
theorem dX5_trickClause_74 : decode cX5_trickClause 74 = .ok (.invokevirtual 77, 3) := by decide +kernel
theorem dX5_trickClause_77 : decode cX5_trickClause 77 = .ok (.aload_n 1, 1) := by decide +kernel
theorem dX5_trickClause_78 : decode cX5_trickClause 78 = .ok (.iload_n 2, 1) := by decide +kernel
theorem dX5_trickClause_79 : decode cX5_trickClause 79 = .ok (.iconst 1, 1) := by decide +kernel
theorem dX5_trickClause_80 : decode cX5_trickClause 80 = .ok (.iadd, 1) := by decide +kernel
theorem dX5_trickClause_81 : decode cX5_trickClause 81 = .ok (.putfield 117, 3) := by decide +kernel
theorem dX5_trickClause_84 : decode cX5_trickClause 84 = .ok (.return_, 1) := by decide +kernel
theorem dX5_thoughtClause_0 : decode cX5_thoughtClause 0 = .ok (.aload_n 0, 1) := by decide +kernel
theorem dX5_thoughtClause_1 : decode cX5_thoughtClause 1 = .ok (.dup, 1) := by decide +kernel
theorem dX5_thoughtClause_2 : decode cX5_thoughtClause 2 = .ok (.getfield 28, 3) := by decide +kernel
theorem dX5_thoughtClause_5 : decode cX5_thoughtClause 5 = .ok (.iconst 1, 1) := by decide +kernel
theorem dX5_thoughtClause_6 : decode cX5_thoughtClause 6 = .ok (.iadd, 1) := by decide +kernel
theorem dX5_thoughtClause_7 : decode cX5_thoughtClause 7 = .ok (.putfield 28, 3) := by decide +kernel
theorem dX5_thoughtClause_10 : decode cX5_thoughtClause 10 = .ok (.aload_n 0, 1) := by decide +kernel
theorem dX5_thoughtClause_11 : decode cX5_thoughtClause 11 = .ok (.iconst 0, 1) := by decide +kernel
theorem dX5_thoughtClause_12 : decode cX5_thoughtClause 12 = .ok (.aload_n 1, 1) := by decide +kernel
theorem dX5_thoughtClause_13 : decode cX5_thoughtClause 13 = .ok (.getfield 52, 3) := by decide +kernel
theorem dX5_thoughtClause_16 : decode cX5_thoughtClause 16 = .ok (.iconst 1, 1) := by decide +kernel
theorem dX5_thoughtClause_17 : decode cX5_thoughtClause 17 = .ok (.isub, 1) := by decide +kernel
theorem dX5_thoughtClause_18 : decode cX5_thoughtClause 18 = .ok (.invokevirtual 73, 3) := by decide +kernel
theorem dX5_thoughtClause_21 : decode cX5_thoughtClause 21 = .ok (.istore_n 2, 1) := by decide +kernel
theorem dX5_thoughtClause_22 : decode cX5_thoughtClause 22 = .ok (.aload_n 0, 1) := by decide +kernel
theorem dX5_thoughtClause_23 : decode cX5_thoughtClause 23 = .ok (.iconst 0, 1) := by decide +kernel
theorem dX5_thoughtClause_24 : decode cX5_thoughtClause 24 = .ok (.aload_n 1, 1) := by decide +kernel
theorem dX5_thoughtClause_25 : decode cX5_thoughtClause 25 = .ok (.getfield 80, 3) := by decide +kernel
theorem dX5_thoughtClause_28 : decode cX5_thoughtClause 28 = .ok (.iconst 1, 1) := by decide +kernel
theorem dX5_thoughtClause_29 : decode cX5_thoughtClause 29 = .ok (.isub, 1) := by decide +kernel
theorem dX5_thoughtClause_30 : decode cX5_thoughtClause 30 = .ok (.invokevirtual 73, 3) := by decide +kernel
theorem dX5_thoughtClause_33 : decode cX5_thoughtClause 33 = .ok (.istore_n 3, 1) := by decide +kernel
theorem dX5_thoughtClause_34 : decode cX5_thoughtClause 34 = .ok (.iload_n 2, 1) := by decide +kernel
theorem dX5_thoughtClause_35 : decode cX5_thoughtClause 35 = .ok (.iload_n 3, 1) := by decide +kernel
theorem dX5_thoughtClause_36 : decode cX5_thoughtClause 36 = .ok (.invokestatic 129, 3) := by decide +kernel
theorem dX5_thoughtClause_39 : decode cX5_thoughtClause 39 = .ok (.istore 4, 2) := by decide +kernel
theorem dX5_thoughtClause_41 : decode cX5_thoughtClause 41 = .ok (.aload_n 1, 1) := by decide +kernel
theorem dX5_thoughtClause_42 : decode cX5_thoughtClause 42 = .ok (.getfield 132, 3) := by decide +kernel
theorem dX5_thoughtClause_45 : decode cX5_thoughtClause 45 = .ok (.iload 4, 2) := by decide +kernel
theorem dX5_thoughtClause_47 : decode cX5_thoughtClause 47 = .ok (.invokestatic 98, 3) := by decide +kernel
theorem dX5_thoughtClause_50 : decode cX5_thoughtClause 50 = .ok (.ifCond .eq 12, 3) := by decide +kernel
theorem dX5_thoughtClause_53 : decode cX5_thoughtClause 53 = .ok (.aload_n 0, 1) := by decide +kernel
theorem dX5_thoughtClause_54 : decode cX5_thoughtClause 54 = .ok (.iconst 4, 1) := by decide +kernel
theorem dX5_thoughtClause_55 : decode cX5_thoughtClause 55 = .ok (.aload_n 0, 1) := by decide +kernel
theorem dX5_thoughtClause_56 : decode cX5_thoughtClause 56 = .ok (.getfield 49, 3) := by decide +kernel
theorem dX5_thoughtClause_59 : decode cX5_thoughtClause 59 = .ok (.invokevirtual 45, 3) := by decide +kernel
theorem dX5_thoughtClause_62 : decode cX5_thoughtClause 62 = .ok (.aload_n 1, 1) := by decide +kernel
theorem dX5_thoughtClause_63 : decode cX5_thoughtClause 63 = .ok (.getfield 135, 3) := by decide +kernel
theorem dX5_thoughtClause_66 : decode cX5_thoughtClause 66 = .ok (.iload 4, 2) := by decide +kernel
theorem dX5_thoughtClause_68 : decode cX5_thoughtClause 68 = .ok (.aload_n 0, 1) := by decide +kernel
theorem dX5_thoughtClause_69 : decode cX5_thoughtClause 69 = .ok (.iconst 0, 1) := by decide +kernel
theorem dX5_thoughtClause_70 : decode cX5_thoughtClause 70 = .ok (.bipush 99, 2) := by decide +kernel
theorem dX5_thoughtClause_72 : decode cX5_thoughtClause 72 = .ok (.invokevirtual 73, 3) := by decide +kernel
theorem dX5_thoughtClause_75 : decode cX5_thoughtClause 75 = .ok (.iastore, 1) := by decide +kernel
theorem dX5_thoughtClause_76 : decode cX5_thoughtClause 76 = .ok (.aload_n 1, 1) := by decide +kernel
theorem dX5_thoughtClause_77 : decode cX5_thoughtClause 77 = .ok (.dup, 1) := by decide +kernel
theorem dX5_thoughtClause_78 : decode cX5_thoughtClause 78 = .ok (.getfield 132, 3) := by decide +kernel
theorem dX5_thoughtClause_81 : decode cX5_thoughtClause 81 = .ok (.iconst 1, 1) := by decide +kernel
theorem dX5_thoughtClause_82 : decode cX5_thoughtClause 82 = .ok (.iload 4, 2) := by decide +kernel
theorem dX5_thoughtClause_84 : decode cX5_thoughtClause 84 = .ok (.ishl, 1) := by decide +kernel
theorem dX5_thoughtClause_85 : decode cX5_thoughtClause 85 = .ok (.ior, 1) := by decide +kernel
theorem dX5_thoughtClause_86 : decode cX5_thoughtClause 86 = .ok (.putfield 132, 3) := by decide +kernel
theorem dX5_thoughtClause_89 : decode cX5_thoughtClause 89 = .ok (.aload_n 0, 1) := by decide +kernel
theorem dX5_thoughtClause_90 : decode cX5_thoughtClause 90 = .ok (.invokevirtual 77, 3) := by decide +kernel
theorem dX5_thoughtClause_93 : decode cX5_thoughtClause 93 = .ok (.return_, 1) := by decide +kernel
theorem dX6_init_0 : decode cX6_init 0 = .ok (.aload_n 0, 1) := by decide +kernel
theorem dX6_init_1 : decode cX6_init 1 = .ok (.invokespecial 1, 3) := by decide +kernel
theorem dX6_init_4 : decode cX6_init 4 = .ok (.aload_n 0, 1) := by decide +kernel
theorem dX6_init_5 : decode cX6_init 5 = .ok (.new 7, 3) := by decide +kernel
theorem dX6_init_8 : decode cX6_init 8 = .ok (.dup, 1) := by decide +kernel
theorem dX6_init_9 : decode cX6_init 9 = .ok (.invokespecial 9, 3) := by decide +kernel
theorem dX6_init_12 : decode cX6_init 12 = .ok (.putfield 10, 3) := by decide +kernel
theorem dX6_init_15 : decode cX6_init 15 = .ok (.aload_n 0, 1) := by decide +kernel
theorem dX6_init_16 : decode cX6_init 16 = .ok (.new 16, 3) := by decide +kernel
theorem dX6_init_19 : decode cX6_init 19 = .ok (.dup, 1) := by decide +kernel
theorem dX6_init_20 : decode cX6_init 20 = .ok (.invokespecial 18, 3) := by decide +kernel
theorem dX6_init_23 : decode cX6_init 23 = .ok (.putfield 19, 3) := by decide +kernel
theorem dX6_init_26 : decode cX6_init 26 = .ok (.aload_n 0, 1) := by decide +kernel
theorem dX6_init_27 : decode cX6_init 27 = .ok (.new 16, 3) := by decide +kernel
theorem dX6_init_30 : decode cX6_init 30 = .ok (.dup, 1) := by decide +kernel
theorem dX6_init_31 : decode cX6_init 31 = .ok (.invokespecial 18, 3) := by decide +kernel
theorem dX6_init_34 : decode cX6_init 34 = .ok (.putfield 23, 3) := by decide +kernel
theorem dX6_init_37 : decode cX6_init 37 = .ok (.aload_n 0, 1) := by decide +kernel
theorem dX6_init_38 : decode cX6_init 38 = .ok (.new 26, 3) := by decide +kernel
theorem dX6_init_41 : decode cX6_init 41 = .ok (.dup, 1) := by decide +kernel
theorem dX6_init_42 : decode cX6_init 42 = .ok (.invokespecial 28, 3) := by decide +kernel
theorem dX6_init_45 : decode cX6_init 45 = .ok (.putfield 29, 3) := by decide +kernel
theorem dX6_init_48 : decode cX6_init 48 = .ok (.aload_n 0, 1) := by decide +kernel
theorem dX6_init_49 : decode cX6_init 49 = .ok (.new 26, 3) := by decide +kernel
theorem dX6_init_52 : decode cX6_init 52 = .ok (.dup, 1) := by decide +kernel
theorem dX6_init_53 : decode cX6_init 53 = .ok (.invokespecial 28, 3) := by decide +kernel
theorem dX6_init_56 : decode cX6_init 56 = .ok (.putfield 33, 3) := by decide +kernel
theorem dX6_init_59 : decode cX6_init 59 = .ok (.aload_n 0, 1) := by decide +kernel
theorem dX6_init_60 : decode cX6_init 60 = .ok (.new 26, 3) := by decide +kernel
theorem dX6_init_63 : decode cX6_init 63 = .ok (.dup, 1) := by decide +kernel
theorem dX6_init_64 : decode cX6_init 64 = .ok (.invokespecial 28, 3) := by decide +kernel
theorem dX6_init_67 : decode cX6_init 67 = .ok (.putfield 36, 3) := by decide +kernel
theorem dX6_init_70 : decode cX6_init 70 = .ok (.aload_n 0, 1) := by decide +kernel
theorem dX6_init_71 : decode cX6_init 71 = .ok (.new 39, 3) := by decide +kernel
theorem dX6_init_74 : decode cX6_init 74 = .ok (.dup, 1) := by decide +kernel
theorem dX6_init_75 : decode cX6_init 75 = .ok (.invokespecial 41, 3) := by decide +kernel
theorem dX6_init_78 : decode cX6_init 78 = .ok (.putfield 42, 3) := by decide +kernel
theorem dX6_init_81 : decode cX6_init 81 = .ok (.aload_n 0, 1) := by decide +kernel
theorem dX6_init_82 : decode cX6_init 82 = .ok (.new 46, 3) := by decide +kernel
theorem dX6_init_85 : decode cX6_init 85 = .ok (.dup, 1) := by decide +kernel
theorem dX6_init_86 : decode cX6_init 86 = .ok (.invokespecial 48, 3) := by decide +kernel
theorem dX6_init_89 : decode cX6_init 89 = .ok (.putfield 49, 3) := by decide +kernel
theorem dX6_init_92 : decode cX6_init 92 = .ok (.aload_n 0, 1) := by decide +kernel
theorem dX6_init_93 : decode cX6_init 93 = .ok (.new 53, 3) := by decide +kernel
theorem dX6_init_96 : decode cX6_init 96 = .ok (.dup, 1) := by decide +kernel
theorem dX6_init_97 : decode cX6_init 97 = .ok (.invokespecial 55, 3) := by decide +kernel
theorem dX6_init_100 : decode cX6_init 100 = .ok (.putfield 56, 3) := by decide +kernel
theorem dX6_init_103 : decode cX6_init 103 = .ok (.aload_n 0, 1) := by decide +kernel
theorem dX6_init_104 : decode cX6_init 104 = .ok (.bipush 6, 2) := by decide +kernel
theorem dX6_init_106 : decode cX6_init 106 = .ok (.newarray .int, 2) := by decide +kernel
theorem dX6_init_108 : decode cX6_init 108 = .ok (.putfield 60, 3) := by decide +kernel
theorem dX6_init_111 : decode cX6_init 111 = .ok (.return_, 1) := by decide +kernel
theorem dX6_feed_0 : decode cX6_feed 0 = .ok (.iload_n 1, 1) := by decide +kernel
theorem dX6_feed_1 : decode cX6_feed 1 = .ok (.ifCond .lt 10, 3) := by decide +kernel
theorem dX6_feed_4 : decode cX6_feed 4 = .ok (.iload_n 1, 1) := by decide +kernel
theorem dX6_feed_5 : decode cX6_feed 5 = .ok (.sipush 255, 3) := by decide +kernel
theorem dX6_feed_8 : decode cX6_feed 8 = .ok (.if_icmp .le 6, 3) := by decide +kernel
theorem dX6_feed_11 : decode cX6_feed 11 = .ok (.ldc 64, 2) := by decide +kernel
theorem dX6_feed_13 : decode cX6_feed 13 = .ok (.ireturn, 1) := by decide +kernel
theorem dX6_feed_14 : decode cX6_feed 14 = .ok (.aload_n 0, 1) := by decide +kernel
theorem dX6_feed_15 : decode cX6_feed 15 = .ok (.getfield 10, 3) := by decide +kernel
theorem dX6_feed_18 : decode cX6_feed 18 = .ok (.iload_n 1, 1) := by decide +kernel
theorem dX6_feed_19 : decode cX6_feed 19 = .ok (.invokevirtual 65, 3) := by decide +kernel
theorem dX6_feed_22 : decode cX6_feed 22 = .ok (.ireturn, 1) := by decide +kernel
theorem dX6_land_0 : decode cX6_land 0 = .ok (.aload_n 0, 1) := by decide +kernel
theorem dX6_land_1 : decode cX6_land 1 = .ok (.getfield 10, 3) := by decide +kernel
theorem dX6_land_4 : decode cX6_land 4 = .ok (.aload_n 0, 1) := by decide +kernel
theorem dX6_land_5 : decode cX6_land 5 = .ok (.getfield 23, 3) := by decide +kernel
theorem dX6_land_8 : decode cX6_land 8 = .ok (.invokevirtual 69, 3) := by decide +kernel
theorem dX6_land_11 : decode cX6_land 11 = .ok (.istore_n 1, 1) := by decide +kernel
theorem dX6_land_12 : decode cX6_land 12 = .ok (.iload_n 1, 1) := by decide +kernel
theorem dX6_land_13 : decode cX6_land 13 = .ok (.ifCond .eq 8, 3) := by decide +kernel
theorem dX6_land_16 : decode cX6_land 16 = .ok (.bipush (-10), 2) := by decide +kernel
theorem dX6_land_18 : decode cX6_land 18 = .ok (.iload_n 1, 1) := by decide +kernel
theorem dX6_land_19 : decode cX6_land 19 = .ok (.isub, 1) := by decide +kernel
theorem dX6_land_20 : decode cX6_land 20 = .ok (.ireturn, 1) := by decide +kernel
theorem dX6_land_21 : decode cX6_land 21 = .ok (.aload_n 0, 1) := by decide +kernel
theorem dX6_land_22 : decode cX6_land 22 = .ok (.getfield 19, 3) := by decide +kernel
theorem dX6_land_25 : decode cX6_land 25 = .ok (.astore_n 2, 1) := by decide +kernel
theorem dX6_land_26 : decode cX6_land 26 = .ok (.aload_n 0, 1) := by decide +kernel
theorem dX6_land_27 : decode cX6_land 27 = .ok (.aload_n 0, 1) := by decide +kernel
theorem dX6_land_28 : decode cX6_land 28 = .ok (.getfield 23, 3) := by decide +kernel
theorem dX6_land_31 : decode cX6_land 31 = .ok (.putfield 19, 3) := by decide +kernel
theorem dX6_land_34 : decode cX6_land 34 = .ok (.aload_n 0, 1) := by decide +kernel
theorem dX6_land_35 : decode cX6_land 35 = .ok (.aload_n 2, 1) := by decide +kernel
theorem dX6_land_36 : decode cX6_land 36 = .ok (.putfield 23, 3) := by decide +kernel
theorem dX6_land_39 : decode cX6_land 39 = .ok (.aload_n 0, 1) := by decide +kernel
theorem dX6_land_40 : decode cX6_land 40 = .ok (.getfield 29, 3) := by decide +kernel
theorem dX6_land_43 : decode cX6_land 43 = .ok (.aload_n 0, 1) := by decide +kernel
theorem dX6_land_44 : decode cX6_land 44 = .ok (.getfield 19, 3) := by decide +kernel
theorem dX6_land_47 : decode cX6_land 47 = .ok (.invokevirtual 73, 3) := by decide +kernel
theorem dX6_land_50 : decode cX6_land 50 = .ok (.aload_n 0, 1) := by decide +kernel
theorem dX6_land_51 : decode cX6_land 51 = .ok (.getfield 33, 3) := by decide +kernel
theorem dX6_land_54 : decode cX6_land 54 = .ok (.iconst 0, 1) := by decide +kernel
theorem dX6_land_55 : decode cX6_land 55 = .ok (.putfield 77, 3) := by decide +kernel
theorem dX6_land_58 : decode cX6_land 58 = .ok (.aload_n 0, 1) := by decide +kernel
theorem dX6_land_59 : decode cX6_land 59 = .ok (.getfield 36, 3) := by decide +kernel
theorem dX6_land_62 : decode cX6_land 62 = .ok (.iconst 0, 1) := by decide +kernel
theorem dX6_land_63 : decode cX6_land 63 = .ok (.putfield 77, 3) := by decide +kernel
theorem dX6_land_66 : decode cX6_land 66 = .ok (.aload_n 0, 1) := by decide +kernel
theorem dX6_land_67 : decode cX6_land 67 = .ok (.getfield 42, 3) := by decide +kernel
theorem dX6_land_70 : decode cX6_land 70 = .ok (.iconst 0, 1) := by decide +kernel
theorem dX6_land_71 : decode cX6_land 71 = .ok (.putfield 81, 3) := by decide +kernel
theorem dX6_land_74 : decode cX6_land 74 = .ok (.aload_n 0, 1) := by decide +kernel
theorem dX6_land_75 : decode cX6_land 75 = .ok (.getfield 19, 3) := by decide +kernel
theorem dX6_land_78 : decode cX6_land 78 = .ok (.getfield 85, 3) := by decide +kernel
theorem dX6_land_81 : decode cX6_land 81 = .ok (.ireturn, 1) := by decide +kernel
theorem dX6_fault_0 : decode cX6_fault 0 = .ok (.aload_n 0, 1) := by decide +kernel
theorem dX6_fault_1 : decode cX6_fault 1 = .ok (.getfield 10, 3) := by decide +kernel
theorem dX6_fault_4 : decode cX6_fault 4 = .ok (.getfield 88, 3) := by decide +kernel
theorem dX6_fault_7 : decode cX6_fault 7 = .ok (.ireturn, 1) := by decide +kernel
theorem dX6_told_0 : decode cX6_told 0 = .ok (.iload_n 1, 1) := by decide +kernel
theorem dX6_told_1 : decode cX6_told 1 = .ok (.tableswitch 120 0 8 #[51, 59, 67, 75, 83, 91, 99, 107, 112], 51) := by decide +kernel
theorem dX6_told_52 : decode cX6_told 52 = .ok (.aload_n 0, 1) := by decide +kernel
theorem dX6_told_53 : decode cX6_told 53 = .ok (.getfield 19, 3) := by decide +kernel
theorem dX6_told_56 : decode cX6_told 56 = .ok (.getfield 85, 3) := by decide +kernel
theorem dX6_told_59 : decode cX6_told 59 = .ok (.ireturn, 1) := by decide +kernel
theorem dX6_told_60 : decode cX6_told 60 = .ok (.aload_n 0, 1) := by decide +kernel
theorem dX6_told_61 : decode cX6_told 61 = .ok (.getfield 19, 3) := by decide +kernel
theorem dX6_told_64 : decode cX6_told 64 = .ok (.getfield 91, 3) := by decide +kernel
theorem dX6_told_67 : decode cX6_told 67 = .ok (.ireturn, 1) := by decide +kernel
theorem dX6_told_68 : decode cX6_told 68 = .ok (.aload_n 0, 1) := by decide +kernel
theorem dX6_told_69 : decode cX6_told 69 = .ok (.getfield 19, 3) := by decide +kernel
theorem dX6_told_72 : decode cX6_told 72 = .ok (.getfield 94, 3) := by decide +kernel
theorem dX6_told_75 : decode cX6_told 75 = .ok (.ireturn, 1) := by decide +kernel
theorem dX6_told_76 : decode cX6_told 76 = .ok (.aload_n 0, 1) := by decide +kernel
theorem dX6_told_77 : decode cX6_told 77 = .ok (.getfield 19, 3) := by decide +kernel
theorem dX6_told_80 : decode cX6_told 80 = .ok (.getfield 97, 3) := by decide +kernel
theorem dX6_told_83 : decode cX6_told 83 = .ok (.ireturn, 1) := by decide +kernel
theorem dX6_told_84 : decode cX6_told 84 = .ok (.aload_n 0, 1) := by decide +kernel
theorem dX6_told_85 : decode cX6_told 85 = .ok (.getfield 19, 3) := by decide +kernel
theorem dX6_told_88 : decode cX6_told 88 = .ok (.getfield 100, 3) := by decide +kernel
theorem dX6_told_91 : decode cX6_told 91 = .ok (.ireturn, 1) := by decide +kernel
theorem dX6_told_92 : decode cX6_told 92 = .ok (.aload_n 0, 1) := by decide +kernel
theorem dX6_told_93 : decode cX6_told 93 = .ok (.getfield 10, 3) := by decide +kernel
theorem dX6_told_96 : decode cX6_told 96 = .ok (.getfield 103, 3) := by decide +kernel
theorem dX6_told_99 : decode cX6_told 99 = .ok (.ireturn, 1) := by decide +kernel
theorem dX6_told_100 : decode cX6_told 100 = .ok (.aload_n 0, 1) := by decide +kernel
theorem dX6_told_101 : decode cX6_told 101 = .ok (.getfield 29, 3) := by decide +kernel
theorem dX6_told_104 : decode cX6_told 104 = .ok (.getfield 106, 3) := by decide +kernel
theorem dX6_told_107 : decode cX6_told 107 = .ok (.ireturn, 1) := by decide +kernel
theorem dX6_told_108 : decode cX6_told 108 = .ok (.aload_n 0, 1) := by decide +kernel
theorem dX6_told_109 : decode cX6_told 109 = .ok (.invokevirtual 109, 3) := by decide +kernel
theorem dX6_told_112 : decode cX6_told 112 = .ok (.ireturn, 1) := by decide +kernel
theorem dX6_told_113 : decode cX6_told 113 = .ok (.aload_n 0, 1) := by decide +kernel
theorem dX6_told_114 : decode cX6_told 114 = .ok (.getfield 42, 3) := by decide +kernel
theorem dX6_told_117 : decode cX6_told 117 = .ok (.getfield 81, 3) := by decide +kernel
theorem dX6_told_120 : decode cX6_told 120 = .ok (.ireturn, 1) := by decide +kernel
theorem dX6_told_121 : decode cX6_told 121 = .ok (.ldc 64, 2) := by decide +kernel
theorem dX6_told_123 : decode cX6_told 123 = .ok (.ireturn, 1) := by decide +kernel
theorem dX6_fighter_0 : decode cX6_fighter 0 = .ok (.aload_n 0, 1) := by decide +kernel
theorem dX6_fighter_1 : decode cX6_fighter 1 = .ok (.iload_n 1, 1) := by decide +kernel
theorem dX6_fighter_2 : decode cX6_fighter 2 = .ok (.invokevirtual 113, 3) := by decide +kernel
theorem dX6_fighter_5 : decode cX6_fighter 5 = .ok (.ifCond .ne 6, 3) := by decide +kernel
theorem dX6_fighter_8 : decode cX6_fighter 8 = .ok (.ldc 117, 2) := by decide +kernel
theorem dX6_fighter_10 : decode cX6_fighter 10 = .ok (.ireturn, 1) := by decide +kernel
theorem dX6_fighter_11 : decode cX6_fighter 11 = .ok (.iload_n 2, 1) := by decide +kernel
theorem dX6_fighter_12 : decode cX6_fighter 12 = .ok (.tableswitch 117 0 6 #[44, 54, 64, 74, 80, 90, 100], 44) := by decide +kernel
theorem dX6_fighter_56 : decode cX6_fighter 56 = .ok (.aload_n 0, 1) := by decide +kernel
theorem dX6_fighter_57 : decode cX6_fighter 57 = .ok (.getfield 19, 3) := by decide +kernel
theorem dX6_fighter_60 : decode cX6_fighter 60 = .ok (.getfield 118, 3) := by decide +kernel
theorem dX6_fighter_63 : decode cX6_fighter 63 = .ok (.iload_n 1, 1) := by decide +kernel
theorem dX6_fighter_64 : decode cX6_fighter 64 = .ok (.iaload, 1) := by decide +kernel
theorem dX6_fighter_65 : decode cX6_fighter 65 = .ok (.ireturn, 1) := by decide +kernel
theorem dX6_fighter_66 : decode cX6_fighter 66 = .ok (.aload_n 0, 1) := by decide +kernel
theorem dX6_fighter_67 : decode cX6_fighter 67 = .ok (.getfield 19, 3) := by decide +kernel
theorem dX6_fighter_70 : decode cX6_fighter 70 = .ok (.getfield 121, 3) := by decide +kernel
theorem dX6_fighter_73 : decode cX6_fighter 73 = .ok (.iload_n 1, 1) := by decide +kernel
theorem dX6_fighter_74 : decode cX6_fighter 74 = .ok (.iaload, 1) := by decide +kernel
theorem dX6_fighter_75 : decode cX6_fighter 75 = .ok (.ireturn, 1) := by decide +kernel
theorem dX6_fighter_76 : decode cX6_fighter 76 = .ok (.aload_n 0, 1) := by decide +kernel
theorem dX6_fighter_77 : decode cX6_fighter 77 = .ok (.getfield 29, 3) := by decide +kernel
theorem dX6_fighter_80 : decode cX6_fighter 80 = .ok (.getfield 124, 3) := by decide +kernel
theorem dX6_fighter_83 : decode cX6_fighter 83 = .ok (.iload_n 1, 1) := by decide +kernel
theorem dX6_fighter_84 : decode cX6_fighter 84 = .ok (.iaload, 1) := by decide +kernel
theorem dX6_fighter_85 : decode cX6_fighter 85 = .ok (.ireturn, 1) := by decide +kernel
theorem dX6_fighter_86 : decode cX6_fighter 86 = .ok (.aload_n 0, 1) := by decide +kernel
theorem dX6_fighter_87 : decode cX6_fighter 87 = .ok (.iload_n 1, 1) := by decide +kernel
theorem dX6_fighter_88 : decode cX6_fighter 88 = .ok (.invokevirtual 127, 3) := by decide +kernel
theorem dX6_fighter_91 : decode cX6_fighter 91 = .ok (.ireturn, 1) := by decide +kernel
theorem dX6_fighter_92 : decode cX6_fighter 92 = .ok (.aload_n 0, 1) := by decide +kernel
theorem dX6_fighter_93 : decode cX6_fighter 93 = .ok (.getfield 29, 3) := by decide +kernel
theorem dX6_fighter_96 : decode cX6_fighter 96 = .ok (.getfield 130, 3) := by decide +kernel
theorem dX6_fighter_99 : decode cX6_fighter 99 = .ok (.iload_n 1, 1) := by decide +kernel
theorem dX6_fighter_100 : decode cX6_fighter 100 = .ok (.iaload, 1) := by decide +kernel
theorem dX6_fighter_101 : decode cX6_fighter 101 = .ok (.ireturn, 1) := by decide +kernel
theorem dX6_fighter_102 : decode cX6_fighter 102 = .ok (.aload_n 0, 1) := by decide +kernel
theorem dX6_fighter_103 : decode cX6_fighter 103 = .ok (.getfield 29, 3) := by decide +kernel
theorem dX6_fighter_106 : decode cX6_fighter 106 = .ok (.getfield 133, 3) := by decide +kernel
theorem dX6_fighter_109 : decode cX6_fighter 109 = .ok (.iload_n 1, 1) := by decide +kernel
theorem dX6_fighter_110 : decode cX6_fighter 110 = .ok (.iaload, 1) := by decide +kernel
theorem dX6_fighter_111 : decode cX6_fighter 111 = .ok (.ireturn, 1) := by decide +kernel
theorem dX6_fighter_112 : decode cX6_fighter 112 = .ok (.aload_n 0, 1) := by decide +kernel
theorem dX6_fighter_113 : decode cX6_fighter 113 = .ok (.getfield 19, 3) := by decide +kernel
theorem dX6_fighter_116 : decode cX6_fighter 116 = .ok (.aload_n 0, 1) := by decide +kernel
theorem dX6_fighter_117 : decode cX6_fighter 117 = .ok (.getfield 29, 3) := by decide +kernel
theorem dX6_fighter_120 : decode cX6_fighter 120 = .ok (.getfield 130, 3) := by decide +kernel
theorem dX6_fighter_123 : decode cX6_fighter 123 = .ok (.iload_n 1, 1) := by decide +kernel
theorem dX6_fighter_124 : decode cX6_fighter 124 = .ok (.iaload, 1) := by decide +kernel
theorem dX6_fighter_125 : decode cX6_fighter 125 = .ok (.invokevirtual 136, 3) := by decide +kernel
theorem dX6_fighter_128 : decode cX6_fighter 128 = .ok (.ireturn, 1) := by decide +kernel
theorem dX6_fighter_129 : decode cX6_fighter 129 = .ok (.ldc 64, 2) := by decide +kernel
theorem dX6_fighter_131 : decode cX6_fighter 131 = .ok (.ireturn, 1) := by decide +kernel
theorem dX6_thinks_0 : decode cX6_thinks 0 = .ok (.aload_n 0, 1) := by decide +kernel
theorem dX6_thinks_1 : decode cX6_thinks 1 = .ok (.iload_n 1, 1) := by decide +kernel
theorem dX6_thinks_2 : decode cX6_thinks 2 = .ok (.invokevirtual 139, 3) := by decide +kernel
theorem dX6_thinks_5 : decode cX6_thinks 5 = .ok (.ifCond .eq 11, 3) := by decide +kernel
theorem dX6_thinks_8 : decode cX6_thinks 8 = .ok (.aload_n 0, 1) := by decide +kernel
theorem dX6_thinks_9 : decode cX6_thinks 9 = .ok (.iload_n 2, 1) := by decide +kernel
theorem dX6_thinks_10 : decode cX6_thinks 10 = .ok (.invokevirtual 113, 3) := by decide +kernel
theorem dX6_thinks_13 : decode cX6_thinks 13 = .ok (.ifCond .ne 6, 3) := by decide +kernel
theorem dX6_thinks_16 : decode cX6_thinks 16 = .ok (.ldc 117, 2) := by decide +kernel
theorem dX6_thinks_18 : decode cX6_thinks 18 = .ok (.ireturn, 1) := by decide +kernel
theorem dX6_thinks_19 : decode cX6_thinks 19 = .ok (.aload_n 0, 1) := by decide +kernel
theorem dX6_thinks_20 : decode cX6_thinks 20 = .ok (.getfield 29, 3) := by decide +kernel
theorem dX6_thinks_23 : decode cX6_thinks 23 = .ok (.getfield 142, 3) := by decide +kernel
theorem dX6_thinks_26 : decode cX6_thinks 26 = .ok (.iload_n 1, 1) := by decide +kernel
theorem dX6_thinks_27 : decode cX6_thinks 27 = .ok (.iload_n 2, 1) := by decide +kernel
theorem dX6_thinks_28 : decode cX6_thinks 28 = .ok (.invokestatic 145, 3) := by decide +kernel
theorem dX6_thinks_31 : decode cX6_thinks 31 = .ok (.iaload, 1) := by decide +kernel
theorem dX6_thinks_32 : decode cX6_thinks 32 = .ok (.ireturn, 1) := by decide +kernel
theorem dX6_chats_0 : decode cX6_chats 0 = .ok (.aload_n 0, 1) := by decide +kernel
theorem dX6_chats_1 : decode cX6_chats 1 = .ok (.iload_n 1, 1) := by decide +kernel
theorem dX6_chats_2 : decode cX6_chats 2 = .ok (.invokevirtual 139, 3) := by decide +kernel
theorem dX6_chats_5 : decode cX6_chats 5 = .ok (.ifCond .ne 6, 3) := by decide +kernel
theorem dX6_chats_8 : decode cX6_chats 8 = .ok (.ldc 117, 2) := by decide +kernel
theorem dX6_chats_10 : decode cX6_chats 10 = .ok (.ireturn, 1) := by decide +kernel
theorem dX6_chats_11 : decode cX6_chats 11 = .ok (.aload_n 0, 1) := by decide +kernel
theorem dX6_chats_12 : decode cX6_chats 12 = .ok (.getfield 19, 3) := by decide +kernel
theorem dX6_chats_15 : decode cX6_chats 15 = .ok (.getfield 149, 3) := by decide +kernel
theorem dX6_chats_18 : decode cX6_chats 18 = .ok (.iload_n 1, 1) := by decide +kernel
theorem dX6_chats_19 : decode cX6_chats 19 = .ok (.iaload, 1) := by decide +kernel
theorem dX6_chats_20 : decode cX6_chats 20 = .ok (.ireturn, 1) := by decide +kernel
theorem dX6_task_0 : decode cX6_task 0 = .ok (.aload_n 0, 1) := by decide +kernel
theorem dX6_task_1 : decode cX6_task 1 = .ok (.iload_n 1, 1) := by decide +kernel
theorem dX6_task_2 : decode cX6_task 2 = .ok (.invokevirtual 152, 3) := by decide +kernel
theorem dX6_task_5 : decode cX6_task 5 = .ok (.ifCond .ne 6, 3) := by decide +kernel
theorem dX6_task_8 : decode cX6_task 8 = .ok (.ldc 117, 2) := by decide +kernel
theorem dX6_task_10 : decode cX6_task 10 = .ok (.ireturn, 1) := by decide +kernel
theorem dX6_task_11 : decode cX6_task 11 = .ok (.iload_n 2, 1) := by decide +kernel
theorem dX6_task_12 : decode cX6_task 12 = .ok (.tableswitch 85 0 4 #[36, 46, 56, 66, 76], 36) := by decide +kernel
theorem dX6_task_48 : decode cX6_task 48 = .ok (.aload_n 0, 1) := by decide +kernel
theorem dX6_task_49 : decode cX6_task 49 = .ok (.getfield 19, 3) := by decide +kernel
theorem dX6_task_52 : decode cX6_task 52 = .ok (.getfield 155, 3) := by decide +kernel
theorem dX6_task_55 : decode cX6_task 55 = .ok (.iload_n 1, 1) := by decide +kernel
theorem dX6_task_56 : decode cX6_task 56 = .ok (.iaload, 1) := by decide +kernel
theorem dX6_task_57 : decode cX6_task 57 = .ok (.ireturn, 1) := by decide +kernel
theorem dX6_task_58 : decode cX6_task 58 = .ok (.aload_n 0, 1) := by decide +kernel
theorem dX6_task_59 : decode cX6_task 59 = .ok (.getfield 19, 3) := by decide +kernel
theorem dX6_task_62 : decode cX6_task 62 = .ok (.getfield 158, 3) := by decide +kernel
theorem dX6_task_65 : decode cX6_task 65 = .ok (.iload_n 1, 1) := by decide +kernel
theorem dX6_task_66 : decode cX6_task 66 = .ok (.iaload, 1) := by decide +kernel
theorem dX6_task_67 : decode cX6_task 67 = .ok (.ireturn, 1) := by decide +kernel
theorem dX6_task_68 : decode cX6_task 68 = .ok (.aload_n 0, 1) := by decide +kernel
theorem dX6_task_69 : decode cX6_task 69 = .ok (.getfield 19, 3) := by decide +kernel
theorem dX6_task_72 : decode cX6_task 72 = .ok (.getfield 161, 3) := by decide +kernel
theorem dX6_task_75 : decode cX6_task 75 = .ok (.iload_n 1, 1) := by decide +kernel
theorem dX6_task_76 : decode cX6_task 76 = .ok (.iaload, 1) := by decide +kernel
theorem dX6_task_77 : decode cX6_task 77 = .ok (.ireturn, 1) := by decide +kernel
theorem dX6_task_78 : decode cX6_task 78 = .ok (.aload_n 0, 1) := by decide +kernel
theorem dX6_task_79 : decode cX6_task 79 = .ok (.getfield 19, 3) := by decide +kernel
theorem dX6_task_82 : decode cX6_task 82 = .ok (.getfield 164, 3) := by decide +kernel
theorem dX6_task_85 : decode cX6_task 85 = .ok (.iload_n 1, 1) := by decide +kernel
theorem dX6_task_86 : decode cX6_task 86 = .ok (.iaload, 1) := by decide +kernel
theorem dX6_task_87 : decode cX6_task 87 = .ok (.ireturn, 1) := by decide +kernel
theorem dX6_task_88 : decode cX6_task 88 = .ok (.aload_n 0, 1) := by decide +kernel
theorem dX6_task_89 : decode cX6_task 89 = .ok (.getfield 19, 3) := by decide +kernel
theorem dX6_task_92 : decode cX6_task 92 = .ok (.iload_n 1, 1) := by decide +kernel
theorem dX6_task_93 : decode cX6_task 93 = .ok (.invokevirtual 167, 3) := by decide +kernel
theorem dX6_task_96 : decode cX6_task 96 = .ok (.ireturn, 1) := by decide +kernel
theorem dX6_task_97 : decode cX6_task 97 = .ok (.ldc 64, 2) := by decide +kernel
theorem dX6_task_99 : decode cX6_task 99 = .ok (.ireturn, 1) := by decide +kernel
theorem dX6_trick_0 : decode cX6_trick 0 = .ok (.iload_n 1, 1) := by decide +kernel
theorem dX6_trick_1 : decode cX6_trick 1 = .ok (.ifCond .lt 14, 3) := by decide +kernel
theorem dX6_trick_4 : decode cX6_trick 4 = .ok (.iload_n 1, 1) := by decide +kernel
theorem dX6_trick_5 : decode cX6_trick 5 = .ok (.aload_n 0, 1) := by decide +kernel
theorem dX6_trick_6 : decode cX6_trick 6 = .ok (.getfield 19, 3) := by decide +kernel
theorem dX6_trick_9 : decode cX6_trick 9 = .ok (.getfield 100, 3) := by decide +kernel
theorem dX6_trick_12 : decode cX6_trick 12 = .ok (.if_icmp .lt 6, 3) := by decide +kernel
theorem dX6_trick_15 : decode cX6_trick 15 = .ok (.ldc 117, 2) := by decide +kernel
theorem dX6_trick_17 : decode cX6_trick 17 = .ok (.ireturn, 1) := by decide +kernel
theorem dX6_trick_18 : decode cX6_trick 18 = .ok (.iload_n 2, 1) := by decide +kernel
theorem dX6_trick_19 : decode cX6_trick 19 = .ok (.tableswitch 55 0 2 #[25, 35, 45], 25) := by decide +kernel
theorem dX6_trick_44 : decode cX6_trick 44 = .ok (.aload_n 0, 1) := by decide +kernel
theorem dX6_trick_45 : decode cX6_trick 45 = .ok (.getfield 19, 3) := by decide +kernel
theorem dX6_trick_48 : decode cX6_trick 48 = .ok (.getfield 170, 3) := by decide +kernel
theorem dX6_trick_51 : decode cX6_trick 51 = .ok (.iload_n 1, 1) := by decide +kernel
theorem dX6_trick_52 : decode cX6_trick 52 = .ok (.iaload, 1) := by decide +kernel
theorem dX6_trick_53 : decode cX6_trick 53 = .ok (.ireturn, 1) := by decide +kernel
theorem dX6_trick_54 : decode cX6_trick 54 = .ok (.aload_n 0, 1) := by decide +kernel
theorem dX6_trick_55 : decode cX6_trick 55 = .ok (.getfield 19, 3) := by decide +kernel
theorem dX6_trick_58 : decode cX6_trick 58 = .ok (.getfield 173, 3) := by decide +kernel
theorem dX6_trick_61 : decode cX6_trick 61 = .ok (.iload_n 1, 1) := by decide +kernel
theorem dX6_trick_62 : decode cX6_trick 62 = .ok (.iaload, 1) := by decide +kernel
theorem dX6_trick_63 : decode cX6_trick 63 = .ok (.ireturn, 1) := by decide +kernel
theorem dX6_trick_64 : decode cX6_trick 64 = .ok (.aload_n 0, 1) := by decide +kernel
theorem dX6_trick_65 : decode cX6_trick 65 = .ok (.getfield 19, 3) := by decide +kernel
theorem dX6_trick_68 : decode cX6_trick 68 = .ok (.getfield 176, 3) := by decide +kernel
theorem dX6_trick_71 : decode cX6_trick 71 = .ok (.iload_n 1, 1) := by decide +kernel
theorem dX6_trick_72 : decode cX6_trick 72 = .ok (.iaload, 1) := by decide +kernel
theorem dX6_trick_73 : decode cX6_trick 73 = .ok (.ireturn, 1) := by decide +kernel
theorem dX6_trick_74 : decode cX6_trick 74 = .ok (.ldc 64, 2) := by decide +kernel
theorem dX6_trick_76 : decode cX6_trick 76 = .ok (.ireturn, 1) := by decide +kernel
theorem dX6_read_0 : decode cX6_read 0 = .ok (.aload_n 0, 1) := by decide +kernel
theorem dX6_read_1 : decode cX6_read 1 = .ok (.iload_n 1, 1) := by decide +kernel
theorem dX6_read_2 : decode cX6_read 2 = .ok (.invokevirtual 139, 3) := by decide +kernel
theorem dX6_read_5 : decode cX6_read 5 = .ok (.ifCond .eq 11, 3) := by decide +kernel
theorem dX6_read_8 : decode cX6_read 8 = .ok (.aload_n 0, 1) := by decide +kernel
theorem dX6_read_9 : decode cX6_read 9 = .ok (.iload_n 2, 1) := by decide +kernel
theorem dX6_read_10 : decode cX6_read 10 = .ok (.invokevirtual 113, 3) := by decide +kernel
theorem dX6_read_13 : decode cX6_read 13 = .ok (.ifCond .ne 6, 3) := by decide +kernel
theorem dX6_read_16 : decode cX6_read 16 = .ok (.ldc 117, 2) := by decide +kernel
theorem dX6_read_18 : decode cX6_read 18 = .ok (.ireturn, 1) := by decide +kernel
theorem dX6_read_19 : decode cX6_read 19 = .ok (.aload_n 0, 1) := by decide +kernel
theorem dX6_read_20 : decode cX6_read 20 = .ok (.iload_n 1, 1) := by decide +kernel
theorem dX6_read_21 : decode cX6_read 21 = .ok (.iload_n 2, 1) := by decide +kernel
theorem dX6_read_22 : decode cX6_read 22 = .ok (.invokevirtual 179, 3) := by decide +kernel
theorem dX6_read_25 : decode cX6_read 25 = .ok (.ireturn, 1) := by decide +kernel
theorem dX6_rumour_0 : decode cX6_rumour 0 = .ok (.aload_n 0, 1) := by decide +kernel
theorem dX6_rumour_1 : decode cX6_rumour 1 = .ok (.iload_n 1, 1) := by decide +kernel
theorem dX6_rumour_2 : decode cX6_rumour 2 = .ok (.invokevirtual 113, 3) := by decide +kernel
theorem dX6_rumour_5 : decode cX6_rumour 5 = .ok (.ifCond .ne 6, 3) := by decide +kernel
theorem dX6_rumour_8 : decode cX6_rumour 8 = .ok (.ldc 117, 2) := by decide +kernel
theorem dX6_rumour_10 : decode cX6_rumour 10 = .ok (.ireturn, 1) := by decide +kernel
theorem dX6_rumour_11 : decode cX6_rumour 11 = .ok (.aload_n 0, 1) := by decide +kernel
theorem dX6_rumour_12 : decode cX6_rumour 12 = .ok (.iload_n 1, 1) := by decide +kernel
theorem dX6_rumour_13 : decode cX6_rumour 13 = .ok (.invokevirtual 182, 3) := by decide +kernel
theorem dX6_rumour_16 : decode cX6_rumour 16 = .ok (.ireturn, 1) := by decide +kernel
theorem dX6_inspect_0 : decode cX6_inspect 0 = .ok (.aload_n 0, 1) := by decide +kernel
theorem dX6_inspect_1 : decode cX6_inspect 1 = .ok (.iload_n 1, 1) := by decide +kernel
theorem dX6_inspect_2 : decode cX6_inspect 2 = .ok (.invokevirtual 139, 3) := by decide +kernel
theorem dX6_inspect_5 : decode cX6_inspect 5 = .ok (.ifCond .eq 11, 3) := by decide +kernel
theorem dX6_inspect_8 : decode cX6_inspect 8 = .ok (.aload_n 0, 1) := by decide +kernel
theorem dX6_inspect_9 : decode cX6_inspect 9 = .ok (.iload_n 2, 1) := by decide +kernel
theorem dX6_inspect_10 : decode cX6_inspect 10 = .ok (.invokevirtual 113, 3) := by decide +kernel
theorem dX6_inspect_13 : decode cX6_inspect 13 = .ok (.ifCond .ne 6, 3) := by decide +kernel
theorem dX6_inspect_16 : decode cX6_inspect 16 = .ok (.ldc 117, 2) := by decide +kernel
theorem dX6_inspect_18 : decode cX6_inspect 18 = .ok (.ireturn, 1) := by decide +kernel
theorem dX6_inspect_19 : decode cX6_inspect 19 = .ok (.aload_n 0, 1) := by decide +kernel
theorem dX6_inspect_20 : decode cX6_inspect 20 = .ok (.iload_n 1, 1) := by decide +kernel
theorem dX6_inspect_21 : decode cX6_inspect 21 = .ok (.iload_n 2, 1) := by decide +kernel
theorem dX6_inspect_22 : decode cX6_inspect 22 = .ok (.invokevirtual 185, 3) := by decide +kernel
theorem dX6_inspect_25 : decode cX6_inspect 25 = .ok (.ireturn, 1) := by decide +kernel
theorem dX6_belt_0 : decode cX6_belt 0 = .ok (.aload_n 0, 1) := by decide +kernel
theorem dX6_belt_1 : decode cX6_belt 1 = .ok (.iload_n 1, 1) := by decide +kernel
theorem dX6_belt_2 : decode cX6_belt 2 = .ok (.invokevirtual 113, 3) := by decide +kernel
theorem dX6_belt_5 : decode cX6_belt 5 = .ok (.ifCond .ne 6, 3) := by decide +kernel
theorem dX6_belt_8 : decode cX6_belt 8 = .ok (.ldc 117, 2) := by decide +kernel
theorem dX6_belt_10 : decode cX6_belt 10 = .ok (.ireturn, 1) := by decide +kernel
theorem dX6_belt_11 : decode cX6_belt 11 = .ok (.iload_n 2, 1) := by decide +kernel
theorem dX6_belt_12 : decode cX6_belt 12 = .ok (.ifCond .lt 9, 3) := by decide +kernel
theorem dX6_belt_15 : decode cX6_belt 15 = .ok (.iload_n 2, 1) := by decide +kernel
theorem dX6_belt_16 : decode cX6_belt 16 = .ok (.bipush 99, 2) := by decide +kernel
theorem dX6_belt_18 : decode cX6_belt 18 = .ok (.if_icmp .le 6, 3) := by decide +kernel
theorem dX6_belt_21 : decode cX6_belt 21 = .ok (.ldc 64, 2) := by decide +kernel
theorem dX6_belt_23 : decode cX6_belt 23 = .ok (.ireturn, 1) := by decide +kernel
theorem dX6_belt_24 : decode cX6_belt 24 = .ok (.aload_n 0, 1) := by decide +kernel
theorem dX6_belt_25 : decode cX6_belt 25 = .ok (.getfield 29, 3) := by decide +kernel
theorem dX6_belt_28 : decode cX6_belt 28 = .ok (.getfield 124, 3) := by decide +kernel
theorem dX6_belt_31 : decode cX6_belt 31 = .ok (.iload_n 1, 1) := by decide +kernel
theorem dX6_belt_32 : decode cX6_belt 32 = .ok (.iaload, 1) := by decide +kernel
theorem dX6_belt_33 : decode cX6_belt 33 = .ok (.istore_n 3, 1) := by decide +kernel
theorem dX6_belt_34 : decode cX6_belt 34 = .ok (.aload_n 0, 1) := by decide +kernel
theorem dX6_belt_35 : decode cX6_belt 35 = .ok (.getfield 29, 3) := by decide +kernel
theorem dX6_belt_38 : decode cX6_belt 38 = .ok (.getfield 124, 3) := by decide +kernel
theorem dX6_belt_41 : decode cX6_belt 41 = .ok (.iload_n 1, 1) := by decide +kernel
theorem dX6_belt_42 : decode cX6_belt 42 = .ok (.iload_n 2, 1) := by decide +kernel
theorem dX6_belt_43 : decode cX6_belt 43 = .ok (.iastore, 1) := by decide +kernel
theorem dX6_belt_44 : decode cX6_belt 44 = .ok (.iload_n 3, 1) := by decide +kernel
theorem dX6_belt_45 : decode cX6_belt 45 = .ok (.ireturn, 1) := by decide +kernel
theorem dX6_attempt_0 : decode cX6_attempt 0 = .ok (.aload_n 0, 1) := by decide +kernel
theorem dX6_attempt_1 : decode cX6_attempt 1 = .ok (.iload_n 1, 1) := by decide +kernel
theorem dX6_attempt_2 : decode cX6_attempt 2 = .ok (.invokevirtual 113, 3) := by decide +kernel
theorem dX6_attempt_5 : decode cX6_attempt 5 = .ok (.ifCond .eq 26, 3) := by decide +kernel
theorem dX6_attempt_8 : decode cX6_attempt 8 = .ok (.aload_n 0, 1) := by decide +kernel
theorem dX6_attempt_9 : decode cX6_attempt 9 = .ok (.iload_n 2, 1) := by decide +kernel
theorem dX6_attempt_10 : decode cX6_attempt 10 = .ok (.invokevirtual 152, 3) := by decide +kernel
theorem dX6_attempt_13 : decode cX6_attempt 13 = .ok (.ifCond .eq 18, 3) := by decide +kernel
theorem dX6_attempt_16 : decode cX6_attempt 16 = .ok (.iload_n 3, 1) := by decide +kernel
theorem dX6_attempt_17 : decode cX6_attempt 17 = .ok (.iconst 1, 1) := by decide +kernel
theorem dX6_attempt_18 : decode cX6_attempt 18 = .ok (.aload_n 0, 1) := by decide +kernel
theorem dX6_attempt_19 : decode cX6_attempt 19 = .ok (.getfield 19, 3) := by decide +kernel
theorem dX6_attempt_22 : decode cX6_attempt 22 = .ok (.getfield 100, 3) := by decide +kernel
theorem dX6_attempt_25 : decode cX6_attempt 25 = .ok (.ishl, 1) := by decide +kernel
theorem dX6_attempt_26 : decode cX6_attempt 26 = .ok (.ineg, 1) := by decide +kernel
theorem dX6_attempt_27 : decode cX6_attempt 27 = .ok (.iand, 1) := by decide +kernel
theorem dX6_attempt_28 : decode cX6_attempt 28 = .ok (.ifCond .eq 6, 3) := by decide +kernel
theorem dX6_attempt_31 : decode cX6_attempt 31 = .ok (.ldc 117, 2) := by decide +kernel
theorem dX6_attempt_33 : decode cX6_attempt 33 = .ok (.ireturn, 1) := by decide +kernel
theorem dX6_attempt_34 : decode cX6_attempt 34 = .ok (.aload_n 0, 1) := by decide +kernel
theorem dX6_attempt_35 : decode cX6_attempt 35 = .ok (.getfield 19, 3) := by decide +kernel
theorem dX6_attempt_38 : decode cX6_attempt 38 = .ok (.iload_n 2, 1) := by decide +kernel
theorem dX6_attempt_39 : decode cX6_attempt 39 = .ok (.invokevirtual 167, 3) := by decide +kernel
theorem dX6_attempt_42 : decode cX6_attempt 42 = .ok (.aload_n 0, 1) := by decide +kernel
theorem dX6_attempt_43 : decode cX6_attempt 43 = .ok (.getfield 29, 3) := by decide +kernel
theorem dX6_attempt_46 : decode cX6_attempt 46 = .ok (.getfield 133, 3) := by decide +kernel
theorem dX6_attempt_49 : decode cX6_attempt 49 = .ok (.iload_n 1, 1) := by decide +kernel
theorem dX6_attempt_50 : decode cX6_attempt 50 = .ok (.iaload, 1) := by decide +kernel
theorem dX6_attempt_51 : decode cX6_attempt 51 = .ok (.iconst (-1), 1) := by decide +kernel
theorem dX6_attempt_52 : decode cX6_attempt 52 = .ok (.ixor, 1) := by decide +kernel
theorem dX6_attempt_53 : decode cX6_attempt 53 = .ok (.iand, 1) := by decide +kernel
theorem dX6_attempt_54 : decode cX6_attempt 54 = .ok (.istore 4, 2) := by decide +kernel
theorem dX6_attempt_56 : decode cX6_attempt 56 = .ok (.aload_n 0, 1) := by decide +kernel
theorem dX6_attempt_57 : decode cX6_attempt 57 = .ok (.getfield 29, 3) := by decide +kernel
theorem dX6_attempt_60 : decode cX6_attempt 60 = .ok (.getfield 130, 3) := by decide +kernel
theorem dX6_attempt_63 : decode cX6_attempt 63 = .ok (.iload_n 1, 1) := by decide +kernel
theorem dX6_attempt_64 : decode cX6_attempt 64 = .ok (.iaload, 1) := by decide +kernel
theorem dX6_attempt_65 : decode cX6_attempt 65 = .ok (.iload_n 2, 1) := by decide +kernel
theorem dX6_attempt_66 : decode cX6_attempt 66 = .ok (.invokestatic 188, 3) := by decide +kernel
theorem dX6_attempt_69 : decode cX6_attempt 69 = .ok (.ifCond .ne 12, 3) := by decide +kernel
theorem dX6_attempt_72 : decode cX6_attempt 72 = .ok (.iload_n 3, 1) := by decide +kernel
theorem dX6_attempt_73 : decode cX6_attempt 73 = .ok (.iload 4, 2) := by decide +kernel
theorem dX6_attempt_75 : decode cX6_attempt 75 = .ok (.iconst (-1), 1) := by decide +kernel
theorem dX6_attempt_76 : decode cX6_attempt 76 = .ok (.ixor, 1) := by decide +kernel
theorem dX6_attempt_77 : decode cX6_attempt 77 = .ok (.iand, 1) := by decide +kernel
theorem dX6_attempt_78 : decode cX6_attempt 78 = .ok (.ifCond .eq 6, 3) := by decide +kernel
theorem dX6_attempt_81 : decode cX6_attempt 81 = .ok (.ldc 192, 2) := by decide +kernel
theorem dX6_attempt_83 : decode cX6_attempt 83 = .ok (.ireturn, 1) := by decide +kernel
theorem dX6_attempt_84 : decode cX6_attempt 84 = .ok (.aload_n 0, 1) := by decide +kernel
theorem dX6_attempt_85 : decode cX6_attempt 85 = .ok (.getfield 29, 3) := by decide +kernel
theorem dX6_attempt_88 : decode cX6_attempt 88 = .ok (.getfield 133, 3) := by decide +kernel
theorem dX6_attempt_91 : decode cX6_attempt 91 = .ok (.iload_n 1, 1) := by decide +kernel
theorem dX6_attempt_92 : decode cX6_attempt 92 = .ok (.dup2, 1) := by decide +kernel
theorem dX6_attempt_93 : decode cX6_attempt 93 = .ok (.iaload, 1) := by decide +kernel
theorem dX6_attempt_94 : decode cX6_attempt 94 = .ok (.iload_n 3, 1) := by decide +kernel
theorem dX6_attempt_95 : decode cX6_attempt 95 = .ok (.ior, 1) := by decide +kernel
theorem dX6_attempt_96 : decode cX6_attempt 96 = .ok (.iastore, 1) := by decide +kernel
theorem dX6_attempt_97 : decode cX6_attempt 97 = .ok (.aload_n 0, 1) := by decide +kernel
theorem dX6_attempt_98 : decode cX6_attempt 98 = .ok (.getfield 19, 3) := by decide +kernel
theorem dX6_attempt_101 : decode cX6_attempt 101 = .ok (.getfield 155, 3) := by decide +kernel
theorem dX6_attempt_104 : decode cX6_attempt 104 = .ok (.iload_n 2, 1) := by decide +kernel
theorem dX6_attempt_105 : decode cX6_attempt 105 = .ok (.iaload, 1) := by decide +kernel
theorem dX6_attempt_106 : decode cX6_attempt 106 = .ok (.iload_n 1, 1) := by decide +kernel
theorem dX6_attempt_107 : decode cX6_attempt 107 = .ok (.invokestatic 145, 3) := by decide +kernel
theorem dX6_attempt_110 : decode cX6_attempt 110 = .ok (.istore 5, 2) := by decide +kernel
theorem dX6_attempt_112 : decode cX6_attempt 112 = .ok (.aload_n 0, 1) := by decide +kernel
theorem dX6_attempt_113 : decode cX6_attempt 113 = .ok (.getfield 19, 3) := by decide +kernel
theorem dX6_attempt_116 : decode cX6_attempt 116 = .ok (.iload_n 1, 1) := by decide +kernel
theorem dX6_attempt_117 : decode cX6_attempt 117 = .ok (.iload_n 2, 1) := by decide +kernel
theorem dX6_attempt_118 : decode cX6_attempt 118 = .ok (.iload_n 3, 1) := by decide +kernel
theorem dX6_attempt_119 : decode cX6_attempt 119 = .ok (.aload_n 0, 1) := by decide +kernel
theorem dX6_attempt_120 : decode cX6_attempt 120 = .ok (.getfield 29, 3) := by decide +kernel
theorem dX6_attempt_123 : decode cX6_attempt 123 = .ok (.getfield 142, 3) := by decide +kernel
theorem dX6_attempt_126 : decode cX6_attempt 126 = .ok (.iload 5, 2) := by decide +kernel
theorem dX6_attempt_128 : decode cX6_attempt 128 = .ok (.iaload, 1) := by decide +kernel
theorem dX6_attempt_129 : decode cX6_attempt 129 = .ok (.invokevirtual 193, 3) := by decide +kernel
theorem dX6_attempt_132 : decode cX6_attempt 132 = .ok (.ifCond .ne 24, 3) := by decide +kernel
theorem dX6_attempt_135 : decode cX6_attempt 135 = .ok (.aload_n 0, 1) := by decide +kernel
theorem dX6_attempt_136 : decode cX6_attempt 136 = .ok (.getfield 29, 3) := by decide +kernel
theorem dX6_attempt_139 : decode cX6_attempt 139 = .ok (.getfield 142, 3) := by decide +kernel
theorem dX6_attempt_142 : decode cX6_attempt 142 = .ok (.iload 5, 2) := by decide +kernel
theorem dX6_attempt_144 : decode cX6_attempt 144 = .ok (.aload_n 0, 1) := by decide +kernel
theorem dX6_attempt_145 : decode cX6_attempt 145 = .ok (.getfield 19, 3) := by decide +kernel
theorem dX6_attempt_148 : decode cX6_attempt 148 = .ok (.getfield 121, 3) := by decide +kernel
theorem dX6_attempt_151 : decode cX6_attempt 151 = .ok (.iload_n 1, 1) := by decide +kernel
theorem dX6_attempt_152 : decode cX6_attempt 152 = .ok (.iaload, 1) := by decide +kernel
theorem dX6_attempt_153 : decode cX6_attempt 153 = .ok (.iastore, 1) := by decide +kernel
theorem dX6_attempt_154 : decode cX6_attempt 154 = .ok (.iconst 0, 1) := by decide +kernel
theorem dX6_attempt_155 : decode cX6_attempt 155 = .ok (.ireturn, 1) := by decide +kernel
theorem dX6_attempt_156 : decode cX6_attempt 156 = .ok (.aload_n 0, 1) := by decide +kernel
theorem dX6_attempt_157 : decode cX6_attempt 157 = .ok (.getfield 29, 3) := by decide +kernel
theorem dX6_attempt_160 : decode cX6_attempt 160 = .ok (.getfield 130, 3) := by decide +kernel
theorem dX6_attempt_163 : decode cX6_attempt 163 = .ok (.iload_n 1, 1) := by decide +kernel
theorem dX6_attempt_164 : decode cX6_attempt 164 = .ok (.dup2, 1) := by decide +kernel
theorem dX6_attempt_165 : decode cX6_attempt 165 = .ok (.iaload, 1) := by decide +kernel
theorem dX6_attempt_166 : decode cX6_attempt 166 = .ok (.iconst 1, 1) := by decide +kernel
theorem dX6_attempt_167 : decode cX6_attempt 167 = .ok (.iload_n 2, 1) := by decide +kernel
theorem dX6_attempt_168 : decode cX6_attempt 168 = .ok (.ishl, 1) := by decide +kernel
theorem dX6_attempt_169 : decode cX6_attempt 169 = .ok (.ior, 1) := by decide +kernel
theorem dX6_attempt_170 : decode cX6_attempt 170 = .ok (.iastore, 1) := by decide +kernel
theorem dX6_attempt_171 : decode cX6_attempt 171 = .ok (.aload_n 0, 1) := by decide +kernel
theorem dX6_attempt_172 : decode cX6_attempt 172 = .ok (.iload_n 1, 1) := by decide +kernel
theorem dX6_attempt_173 : decode cX6_attempt 173 = .ok (.aload_n 0, 1) := by decide +kernel
theorem dX6_attempt_174 : decode cX6_attempt 174 = .ok (.getfield 19, 3) := by decide +kernel
theorem dX6_attempt_177 : decode cX6_attempt 177 = .ok (.getfield 164, 3) := by decide +kernel
theorem dX6_attempt_180 : decode cX6_attempt 180 = .ok (.iload_n 2, 1) := by decide +kernel
theorem dX6_attempt_181 : decode cX6_attempt 181 = .ok (.iaload, 1) := by decide +kernel
theorem dX6_attempt_182 : decode cX6_attempt 182 = .ok (.invokevirtual 197, 3) := by decide +kernel
theorem dX6_attempt_185 : decode cX6_attempt 185 = .ok (.iconst 1, 1) := by decide +kernel
theorem dX6_attempt_186 : decode cX6_attempt 186 = .ok (.ireturn, 1) := by decide +kernel
theorem dX6_drift_0 : decode cX6_drift 0 = .ok (.iload_n 1, 1) := by decide +kernel
theorem dX6_drift_1 : decode cX6_drift 1 = .ok (.iconst 1, 1) := by decide +kernel
theorem dX6_drift_2 : decode cX6_drift 2 = .ok (.if_icmp .lt 9, 3) := by decide +kernel
theorem dX6_drift_5 : decode cX6_drift 5 = .ok (.iload_n 1, 1) := by decide +kernel
theorem dX6_drift_6 : decode cX6_drift 6 = .ok (.bipush 99, 2) := by decide +kernel
theorem dX6_drift_8 : decode cX6_drift 8 = .ok (.if_icmp .le 6, 3) := by decide +kernel
theorem dX6_drift_11 : decode cX6_drift 11 = .ok (.ldc 64, 2) := by decide +kernel
theorem dX6_drift_13 : decode cX6_drift 13 = .ok (.ireturn, 1) := by decide +kernel
theorem dX6_drift_14 : decode cX6_drift 14 = .ok (.aload_n 0, 1) := by decide +kernel
theorem dX6_drift_15 : decode cX6_drift 15 = .ok (.getfield 19, 3) := by decide +kernel
theorem dX6_drift_18 : decode cX6_drift 18 = .ok (.getfield 85, 3) := by decide +kernel
theorem dX6_drift_21 : decode cX6_drift 21 = .ok (.ifCond .eq 13, 3) := by decide +kernel
theorem dX6_drift_24 : decode cX6_drift 24 = .ok (.aload_n 0, 1) := by decide +kernel
theorem dX6_drift_25 : decode cX6_drift 25 = .ok (.getfield 19, 3) := by decide +kernel
theorem dX6_drift_28 : decode cX6_drift 28 = .ok (.getfield 91, 3) := by decide +kernel
theorem dX6_drift_31 : decode cX6_drift 31 = .ok (.ifCond .ne 6, 3) := by decide +kernel
theorem dX6_drift_34 : decode cX6_drift 34 = .ok (.ldc 192, 2) := by decide +kernel
theorem dX6_drift_36 : decode cX6_drift 36 = .ok (.ireturn, 1) := by decide +kernel
theorem dX6_drift_37 : decode cX6_drift 37 = .ok (.aload_n 0, 1) := by decide +kernel
theorem dX6_drift_38 : decode cX6_drift 38 = .ok (.getfield 29, 3) := by decide +kernel
theorem dX6_drift_41 : decode cX6_drift 41 = .ok (.getfield 106, 3) := by decide +kernel
theorem dX6_drift_44 : decode cX6_drift 44 = .ok (.ldc 201, 2) := by decide +kernel
theorem dX6_drift_46 : decode cX6_drift 46 = .ok (.if_icmp .le 6, 3) := by decide +kernel
theorem dX6_drift_49 : decode cX6_drift 49 = .ok (.ldc 202, 2) := by decide +kernel
theorem dX6_drift_51 : decode cX6_drift 51 = .ok (.ireturn, 1) := by decide +kernel
theorem dX6_drift_52 : decode cX6_drift 52 = .ok (.iconst 0, 1) := by decide +kernel
theorem dX6_drift_53 : decode cX6_drift 53 = .ok (.istore_n 2, 1) := by decide +kernel
theorem dX6_drift_54 : decode cX6_drift 54 = .ok (.iload_n 2, 1) := by decide +kernel
theorem dX6_drift_55 : decode cX6_drift 55 = .ok (.iload_n 1, 1) := by decide +kernel
theorem dX6_drift_56 : decode cX6_drift 56 = .ok (.if_icmp .ge 13, 3) := by decide +kernel
theorem dX6_drift_59 : decode cX6_drift 59 = .ok (.aload_n 0, 1) := by decide +kernel
theorem dX6_drift_60 : decode cX6_drift 60 = .ok (.invokevirtual 203, 3) := by decide +kernel
theorem dX6_drift_63 : decode cX6_drift 63 = .ok (.iinc 2 1, 3) := by decide +kernel
theorem dX6_drift_66 : decode cX6_drift 66 = .ok (.goto (-12), 3) := by decide +kernel
theorem dX6_drift_69 : decode cX6_drift 69 = .ok (.aload_n 0, 1) := by decide +kernel
theorem dX6_drift_70 : decode cX6_drift 70 = .ok (.getfield 29, 3) := by decide +kernel
theorem dX6_drift_73 : decode cX6_drift 73 = .ok (.getfield 106, 3) := by decide +kernel
theorem dX6_drift_76 : decode cX6_drift 76 = .ok (.ireturn, 1) := by decide +kernel
theorem dX6_plan_0 : decode cX6_plan 0 = .ok (.aload_n 0, 1) := by decide +kernel
theorem dX6_plan_1 : decode cX6_plan 1 = .ok (.iload_n 1, 1) := by decide +kernel
theorem dX6_plan_2 : decode cX6_plan 2 = .ok (.invokevirtual 113, 3) := by decide +kernel
theorem dX6_plan_5 : decode cX6_plan 5 = .ok (.ifCond .ne 6, 3) := by decide +kernel
theorem dX6_plan_8 : decode cX6_plan 8 = .ok (.ldc 117, 2) := by decide +kernel
theorem dX6_plan_10 : decode cX6_plan 10 = .ok (.ireturn, 1) := by decide +kernel
theorem dX6_plan_11 : decode cX6_plan 11 = .ok (.iload_n 3, 1) := by decide +kernel
theorem dX6_plan_12 : decode cX6_plan 12 = .ok (.ifCond .lt 8, 3) := by decide +kernel
theorem dX6_plan_15 : decode cX6_plan 15 = .ok (.iload_n 3, 1) := by decide +kernel
theorem dX6_plan_16 : decode cX6_plan 16 = .ok (.iconst 1, 1) := by decide +kernel
theorem dX6_plan_17 : decode cX6_plan 17 = .ok (.if_icmp .le 6, 3) := by decide +kernel
theorem dX6_plan_20 : decode cX6_plan 20 = .ok (.ldc 64, 2) := by decide +kernel
theorem dX6_plan_22 : decode cX6_plan 22 = .ok (.ireturn, 1) := by decide +kernel
theorem dX6_plan_23 : decode cX6_plan 23 = .ok (.aload_n 0, 1) := by decide +kernel
theorem dX6_plan_24 : decode cX6_plan 24 = .ok (.getfield 49, 3) := by decide +kernel
theorem dX6_plan_27 : decode cX6_plan 27 = .ok (.aload_n 0, 1) := by decide +kernel
theorem dX6_plan_28 : decode cX6_plan 28 = .ok (.getfield 19, 3) := by decide +kernel
theorem dX6_plan_31 : decode cX6_plan 31 = .ok (.aload_n 0, 1) := by decide +kernel
theorem dX6_plan_32 : decode cX6_plan 32 = .ok (.getfield 29, 3) := by decide +kernel
theorem dX6_plan_35 : decode cX6_plan 35 = .ok (.iload_n 1, 1) := by decide +kernel
theorem dX6_plan_36 : decode cX6_plan 36 = .ok (.invokevirtual 206, 3) := by decide +kernel
theorem dX6_plan_39 : decode cX6_plan 39 = .ok (.iload_n 2, 1) := by decide +kernel
theorem dX6_plan_40 : decode cX6_plan 40 = .ok (.iconst (-1), 1) := by decide +kernel
theorem dX6_plan_41 : decode cX6_plan 41 = .ok (.if_icmp .ne 18, 3) := by decide +kernel
theorem dX6_plan_44 : decode cX6_plan 44 = .ok (.aload_n 0, 1) := by decide +kernel
theorem dX6_plan_45 : decode cX6_plan 45 = .ok (.getfield 19, 3) := by decide +kernel
theorem dX6_plan_48 : decode cX6_plan 48 = .ok (.aload_n 0, 1) := by decide +kernel
theorem dX6_plan_49 : decode cX6_plan 49 = .ok (.getfield 49, 3) := by decide +kernel
theorem dX6_plan_52 : decode cX6_plan 52 = .ok (.getfield 210, 3) := by decide +kernel
theorem dX6_plan_55 : decode cX6_plan 55 = .ok (.invokevirtual 136, 3) := by decide +kernel
theorem dX6_plan_58 : decode cX6_plan 58 = .ok (.ireturn, 1) := by decide +kernel
theorem dX6_plan_59 : decode cX6_plan 59 = .ok (.iload_n 2, 1) := by decide +kernel
theorem dX6_plan_60 : decode cX6_plan 60 = .ok (.ifCond .lt 18, 3) := by decide +kernel
theorem dX6_plan_63 : decode cX6_plan 63 = .ok (.iload_n 2, 1) := by decide +kernel
theorem dX6_plan_64 : decode cX6_plan 64 = .ok (.aload_n 0, 1) := by decide +kernel
theorem dX6_plan_65 : decode cX6_plan 65 = .ok (.getfield 49, 3) := by decide +kernel
theorem dX6_plan_68 : decode cX6_plan 68 = .ok (.aload_n 0, 1) := by decide +kernel
theorem dX6_plan_69 : decode cX6_plan 69 = .ok (.getfield 19, 3) := by decide +kernel
theorem dX6_plan_72 : decode cX6_plan 72 = .ok (.invokevirtual 213, 3) := by decide +kernel
theorem dX6_plan_75 : decode cX6_plan 75 = .ok (.if_icmp .lt 5, 3) := by decide +kernel
theorem dX6_plan_78 : decode cX6_plan 78 = .ok (.iconst (-1), 1) := by decide +kernel
theorem dX6_plan_79 : decode cX6_plan 79 = .ok (.ireturn, 1) := by decide +kernel
theorem dX6_plan_80 : decode cX6_plan 80 = .ok (.iload_n 3, 1) := by decide +kernel
theorem dX6_plan_81 : decode cX6_plan 81 = .ok (.ifCond .ne 15, 3) := by decide +kernel
theorem dX6_plan_84 : decode cX6_plan 84 = .ok (.aload_n 0, 1) := by decide +kernel
theorem dX6_plan_85 : decode cX6_plan 85 = .ok (.getfield 49, 3) := by decide +kernel
theorem dX6_plan_88 : decode cX6_plan 88 = .ok (.getfield 216, 3) := by decide +kernel
theorem dX6_plan_91 : decode cX6_plan 91 = .ok (.iload_n 2, 1) := by decide +kernel
theorem dX6_plan_92 : decode cX6_plan 92 = .ok (.iaload, 1) := by decide +kernel
theorem dX6_plan_93 : decode cX6_plan 93 = .ok (.goto 12, 3) := by decide +kernel
theorem dX6_plan_96 : decode cX6_plan 96 = .ok (.aload_n 0, 1) := by decide +kernel
theorem dX6_plan_97 : decode cX6_plan 97 = .ok (.getfield 49, 3) := by decide +kernel
theorem dX6_plan_100 : decode cX6_plan 100 = .ok (.getfield 219, 3) := by decide +kernel
theorem dX6_plan_103 : decode cX6_plan 103 = .ok (.iload_n 2, 1) := by decide +kernel
theorem dX6_plan_104 : decode cX6_plan 104 = .ok (.iaload, 1) := by decide +kernel
theorem dX6_plan_105 : decode cX6_plan 105 = .ok (.ireturn, 1) := by decide +kernel
theorem dX6_stops_0 : decode cX6_stops 0 = .ok (.aload_n 0, 1) := by decide +kernel
theorem dX6_stops_1 : decode cX6_stops 1 = .ok (.iload_n 1, 1) := by decide +kernel
theorem dX6_stops_2 : decode cX6_stops 2 = .ok (.invokevirtual 113, 3) := by decide +kernel
theorem dX6_stops_5 : decode cX6_stops 5 = .ok (.ifCond .ne 6, 3) := by decide +kernel
theorem dX6_stops_8 : decode cX6_stops 8 = .ok (.ldc 117, 2) := by decide +kernel
theorem dX6_stops_10 : decode cX6_stops 10 = .ok (.ireturn, 1) := by decide +kernel
theorem dX6_stops_11 : decode cX6_stops 11 = .ok (.aload_n 0, 1) := by decide +kernel
theorem dX6_stops_12 : decode cX6_stops 12 = .ok (.getfield 49, 3) := by decide +kernel
theorem dX6_stops_15 : decode cX6_stops 15 = .ok (.aload_n 0, 1) := by decide +kernel
theorem dX6_stops_16 : decode cX6_stops 16 = .ok (.getfield 19, 3) := by decide +kernel
theorem dX6_stops_19 : decode cX6_stops 19 = .ok (.aload_n 0, 1) := by decide +kernel
theorem dX6_stops_20 : decode cX6_stops 20 = .ok (.getfield 29, 3) := by decide +kernel
theorem dX6_stops_23 : decode cX6_stops 23 = .ok (.iload_n 1, 1) := by decide +kernel
theorem dX6_stops_24 : decode cX6_stops 24 = .ok (.invokevirtual 206, 3) := by decide +kernel
theorem dX6_stops_27 : decode cX6_stops 27 = .ok (.aload_n 0, 1) := by decide +kernel
theorem dX6_stops_28 : decode cX6_stops 28 = .ok (.getfield 49, 3) := by decide +kernel
theorem dX6_stops_31 : decode cX6_stops 31 = .ok (.getfield 210, 3) := by decide +kernel
theorem dX6_stops_34 : decode cX6_stops 34 = .ok (.aload_n 0, 1) := by decide +kernel
theorem dX6_stops_35 : decode cX6_stops 35 = .ok (.getfield 29, 3) := by decide +kernel
theorem dX6_stops_38 : decode cX6_stops 38 = .ok (.getfield 130, 3) := by decide +kernel
theorem dX6_stops_41 : decode cX6_stops 41 = .ok (.iload_n 1, 1) := by decide +kernel
theorem dX6_stops_42 : decode cX6_stops 42 = .ok (.iaload, 1) := by decide +kernel
theorem dX6_stops_43 : decode cX6_stops 43 = .ok (.ior, 1) := by decide +kernel
theorem dX6_stops_44 : decode cX6_stops 44 = .ok (.istore_n 2, 1) := by decide +kernel
theorem dX6_stops_45 : decode cX6_stops 45 = .ok (.iconst 0, 1) := by decide +kernel
theorem dX6_stops_46 : decode cX6_stops 46 = .ok (.istore_n 3, 1) := by decide +kernel
theorem dX6_stops_47 : decode cX6_stops 47 = .ok (.iload_n 3, 1) := by decide +kernel
theorem dX6_stops_48 : decode cX6_stops 48 = .ok (.aload_n 0, 1) := by decide +kernel
theorem dX6_stops_49 : decode cX6_stops 49 = .ok (.getfield 19, 3) := by decide +kernel
theorem dX6_stops_52 : decode cX6_stops 52 = .ok (.getfield 97, 3) := by decide +kernel
theorem dX6_stops_55 : decode cX6_stops 55 = .ok (.if_icmp .ge 19, 3) := by decide +kernel
theorem dX6_stops_58 : decode cX6_stops 58 = .ok (.iload_n 2, 1) := by decide +kernel
theorem dX6_stops_59 : decode cX6_stops 59 = .ok (.iload_n 3, 1) := by decide +kernel
theorem dX6_stops_60 : decode cX6_stops 60 = .ok (.invokestatic 188, 3) := by decide +kernel
theorem dX6_stops_63 : decode cX6_stops 63 = .ok (.ifCond .ne 5, 3) := by decide +kernel
theorem dX6_stops_66 : decode cX6_stops 66 = .ok (.iload_n 3, 1) := by decide +kernel
theorem dX6_stops_67 : decode cX6_stops 67 = .ok (.ireturn, 1) := by decide +kernel
theorem dX6_stops_68 : decode cX6_stops 68 = .ok (.iinc 3 1, 3) := by decide +kernel
theorem dX6_stops_71 : decode cX6_stops 71 = .ok (.goto (-24), 3) := by decide +kernel
theorem dX6_stops_74 : decode cX6_stops 74 = .ok (.iconst (-1), 1) := by decide +kernel
theorem dX6_stops_75 : decode cX6_stops 75 = .ok (.ireturn, 1) := by decide +kernel
theorem dX6_write_0 : decode cX6_write 0 = .ok (.iload_n 1, 1) := by decide +kernel
theorem dX6_write_1 : decode cX6_write 1 = .ok (.iconst (-1), 1) := by decide +kernel
theorem dX6_write_2 : decode cX6_write 2 = .ok (.if_icmp .eq 14, 3) := by decide +kernel
theorem dX6_write_5 : decode cX6_write 5 = .ok (.aload_n 0, 1) := by decide +kernel
theorem dX6_write_6 : decode cX6_write 6 = .ok (.iload_n 1, 1) := by decide +kernel
theorem dX6_write_7 : decode cX6_write 7 = .ok (.invokevirtual 113, 3) := by decide +kernel
theorem dX6_write_10 : decode cX6_write 10 = .ok (.ifCond .ne 6, 3) := by decide +kernel
theorem dX6_write_13 : decode cX6_write 13 = .ok (.ldc 117, 2) := by decide +kernel
theorem dX6_write_15 : decode cX6_write 15 = .ok (.ireturn, 1) := by decide +kernel
theorem dX6_write_16 : decode cX6_write 16 = .ok (.aload_n 0, 1) := by decide +kernel
theorem dX6_write_17 : decode cX6_write 17 = .ok (.getfield 56, 3) := by decide +kernel
theorem dX6_write_20 : decode cX6_write 20 = .ok (.aload_n 0, 1) := by decide +kernel
theorem dX6_write_21 : decode cX6_write 21 = .ok (.getfield 19, 3) := by decide +kernel
theorem dX6_write_24 : decode cX6_write 24 = .ok (.aload_n 0, 1) := by decide +kernel
theorem dX6_write_25 : decode cX6_write 25 = .ok (.getfield 29, 3) := by decide +kernel
theorem dX6_write_28 : decode cX6_write 28 = .ok (.invokevirtual 222, 3) := by decide +kernel
theorem dX6_write_31 : decode cX6_write 31 = .ok (.istore_n 2, 1) := by decide +kernel
theorem dX6_write_32 : decode cX6_write 32 = .ok (.iload_n 2, 1) := by decide +kernel
theorem dX6_write_33 : decode cX6_write 33 = .ok (.iconst (-1), 1) := by decide +kernel
theorem dX6_write_34 : decode cX6_write 34 = .ok (.if_icmp .eq 8, 3) := by decide +kernel
theorem dX6_write_37 : decode cX6_write 37 = .ok (.iload_n 1, 1) := by decide +kernel
theorem dX6_write_38 : decode cX6_write 38 = .ok (.iconst (-1), 1) := by decide +kernel
theorem dX6_write_39 : decode cX6_write 39 = .ok (.if_icmp .ne 5, 3) := by decide +kernel
theorem dX6_write_42 : decode cX6_write 42 = .ok (.iload_n 2, 1) := by decide +kernel
theorem dX6_write_43 : decode cX6_write 43 = .ok (.ireturn, 1) := by decide +kernel
theorem dX6_write_44 : decode cX6_write 44 = .ok (.aload_n 0, 1) := by decide +kernel
theorem dX6_write_45 : decode cX6_write 45 = .ok (.getfield 56, 3) := by decide +kernel
theorem dX6_write_48 : decode cX6_write 48 = .ok (.getfield 226, 3) := by decide +kernel
theorem dX6_write_51 : decode cX6_write 51 = .ok (.iload_n 1, 1) := by decide +kernel
theorem dX6_write_52 : decode cX6_write 52 = .ok (.iaload, 1) := by decide +kernel
theorem dX6_write_53 : decode cX6_write 53 = .ok (.ireturn, 1) := by decide +kernel
theorem dX6_tells_0 : decode cX6_tells 0 = .ok (.iload_n 1, 1) := by decide +kernel
theorem dX6_tells_1 : decode cX6_tells 1 = .ok (.ifCond .lt 28, 3) := by decide +kernel
theorem dX6_tells_4 : decode cX6_tells 4 = .ok (.iload_n 1, 1) := by decide +kernel
theorem dX6_tells_5 : decode cX6_tells 5 = .ok (.bipush 99, 2) := by decide +kernel
theorem dX6_tells_7 : decode cX6_tells 7 = .ok (.if_icmp .gt 22, 3) := by decide +kernel
theorem dX6_tells_10 : decode cX6_tells 10 = .ok (.iload_n 2, 1) := by decide +kernel
theorem dX6_tells_11 : decode cX6_tells 11 = .ok (.ifCond .lt 18, 3) := by decide +kernel
theorem dX6_tells_14 : decode cX6_tells 14 = .ok (.iload_n 2, 1) := by decide +kernel
theorem dX6_tells_15 : decode cX6_tells 15 = .ok (.bipush 99, 2) := by decide +kernel
theorem dX6_tells_17 : decode cX6_tells 17 = .ok (.if_icmp .gt 12, 3) := by decide +kernel
theorem dX6_tells_20 : decode cX6_tells 20 = .ok (.iload_n 3, 1) := by decide +kernel
theorem dX6_tells_21 : decode cX6_tells 21 = .ok (.ifCond .lt 8, 3) := by decide +kernel
theorem dX6_tells_24 : decode cX6_tells 24 = .ok (.iload_n 3, 1) := by decide +kernel
theorem dX6_tells_25 : decode cX6_tells 25 = .ok (.iconst 1, 1) := by decide +kernel
theorem dX6_tells_26 : decode cX6_tells 26 = .ok (.if_icmp .le 6, 3) := by decide +kernel
theorem dX6_tells_29 : decode cX6_tells 29 = .ok (.ldc 64, 2) := by decide +kernel
theorem dX6_tells_31 : decode cX6_tells 31 = .ok (.ireturn, 1) := by decide +kernel
theorem dX6_tells_32 : decode cX6_tells 32 = .ok (.iconst 0, 1) := by decide +kernel
theorem dX6_tells_33 : decode cX6_tells 33 = .ok (.istore 4, 2) := by decide +kernel
theorem dX6_tells_35 : decode cX6_tells 35 = .ok (.iconst 0, 1) := by decide +kernel
theorem dX6_tells_36 : decode cX6_tells 36 = .ok (.istore 5, 2) := by decide +kernel
theorem dX6_tells_38 : decode cX6_tells 38 = .ok (.iconst 0, 1) := by decide +kernel
theorem dX6_tells_39 : decode cX6_tells 39 = .ok (.istore 6, 2) := by decide +kernel
theorem dX6_tells_41 : decode cX6_tells 41 = .ok (.iload 6, 2) := by decide +kernel
theorem dX6_tells_43 : decode cX6_tells 43 = .ok (.aload_n 0, 1) := by decide +kernel
theorem dX6_tells_44 : decode cX6_tells 44 = .ok (.getfield 19, 3) := by decide +kernel
theorem dX6_tells_47 : decode cX6_tells 47 = .ok (.getfield 91, 3) := by decide +kernel
theorem dX6_tells_50 : decode cX6_tells 50 = .ok (.if_icmp .ge 39, 3) := by decide +kernel
theorem dX6_tells_53 : decode cX6_tells 53 = .ok (.aload_n 0, 1) := by decide +kernel
theorem dX6_tells_54 : decode cX6_tells 54 = .ok (.iload 6, 2) := by decide +kernel
theorem dX6_tells_56 : decode cX6_tells 56 = .ok (.invokevirtual 127, 3) := by decide +kernel
theorem dX6_tells_59 : decode cX6_tells 59 = .ok (.iload_n 1, 1) := by decide +kernel
theorem dX6_tells_60 : decode cX6_tells 60 = .ok (.if_icmp .ne 23, 3) := by decide +kernel
theorem dX6_tells_63 : decode cX6_tells 63 = .ok (.iinc 4 1, 3) := by decide +kernel
theorem dX6_tells_66 : decode cX6_tells 66 = .ok (.aload_n 0, 1) := by decide +kernel
theorem dX6_tells_67 : decode cX6_tells 67 = .ok (.getfield 19, 3) := by decide +kernel
theorem dX6_tells_70 : decode cX6_tells 70 = .ok (.getfield 121, 3) := by decide +kernel
theorem dX6_tells_73 : decode cX6_tells 73 = .ok (.iload 6, 2) := by decide +kernel
theorem dX6_tells_75 : decode cX6_tells 75 = .ok (.iaload, 1) := by decide +kernel
theorem dX6_tells_76 : decode cX6_tells 76 = .ok (.iload_n 2, 1) := by decide +kernel
theorem dX6_tells_77 : decode cX6_tells 77 = .ok (.if_icmp .lt 6, 3) := by decide +kernel
theorem dX6_tells_80 : decode cX6_tells 80 = .ok (.iinc 5 1, 3) := by decide +kernel
theorem dX6_tells_83 : decode cX6_tells 83 = .ok (.iinc 6 1, 3) := by decide +kernel
theorem dX6_tells_86 : decode cX6_tells 86 = .ok (.goto (-45), 3) := by decide +kernel
theorem dX6_tells_89 : decode cX6_tells 89 = .ok (.iload 5, 2) := by decide +kernel
theorem dX6_tells_91 : decode cX6_tells 91 = .ok (.ifCond .ne 5, 3) := by decide +kernel
theorem dX6_tells_94 : decode cX6_tells 94 = .ok (.iload_n 3, 1) := by decide +kernel
theorem dX6_tells_95 : decode cX6_tells 95 = .ok (.ireturn, 1) := by decide +kernel
theorem dX6_tells_96 : decode cX6_tells 96 = .ok (.iload_n 3, 1) := by decide +kernel
theorem dX6_tells_97 : decode cX6_tells 97 = .ok (.ifCond .ne 8, 3) := by decide +kernel
theorem dX6_tells_100 : decode cX6_tells 100 = .ok (.iload 5, 2) := by decide +kernel
theorem dX6_tells_102 : decode cX6_tells 102 = .ok (.goto 5, 3) := by decide +kernel
theorem dX6_tells_105 : decode cX6_tells 105 = .ok (.iload 4, 2) := by decide +kernel
theorem dX6_tells_107 : decode cX6_tells 107 = .ok (.iload 5, 2) := by decide +kernel
theorem dX6_tells_109 : decode cX6_tells 109 = .ok (.iload 4, 2) := by decide +kernel
theorem dX6_tells_111 : decode cX6_tells 111 = .ok (.invokestatic 227, 3) := by decide +kernel
theorem dX6_tells_114 : decode cX6_tells 114 = .ok (.idiv, 1) := by decide +kernel
theorem dX6_tells_115 : decode cX6_tells 115 = .ok (.ireturn, 1) := by decide +kernel
theorem dX6_words_0 : decode cX6_words 0 = .ok (.aload_n 0, 1) := by decide +kernel
theorem dX6_words_1 : decode cX6_words 1 = .ok (.iload_n 1, 1) := by decide +kernel
theorem dX6_words_2 : decode cX6_words 2 = .ok (.invokevirtual 113, 3) := by decide +kernel
theorem dX6_words_5 : decode cX6_words 5 = .ok (.ifCond .eq 16, 3) := by decide +kernel
theorem dX6_words_8 : decode cX6_words 8 = .ok (.aload_n 0, 1) := by decide +kernel
theorem dX6_words_9 : decode cX6_words 9 = .ok (.iload_n 2, 1) := by decide +kernel
theorem dX6_words_10 : decode cX6_words 10 = .ok (.invokevirtual 113, 3) := by decide +kernel
theorem dX6_words_13 : decode cX6_words 13 = .ok (.ifCond .eq 8, 3) := by decide +kernel
theorem dX6_words_16 : decode cX6_words 16 = .ok (.iload_n 1, 1) := by decide +kernel
theorem dX6_words_17 : decode cX6_words 17 = .ok (.iload_n 2, 1) := by decide +kernel
theorem dX6_words_18 : decode cX6_words 18 = .ok (.if_icmp .ne 6, 3) := by decide +kernel
theorem dX6_words_21 : decode cX6_words 21 = .ok (.ldc 117, 2) := by decide +kernel
theorem dX6_words_23 : decode cX6_words 23 = .ok (.ireturn, 1) := by decide +kernel
theorem dX6_words_24 : decode cX6_words 24 = .ok (.aload_n 0, 1) := by decide +kernel
theorem dX6_words_25 : decode cX6_words 25 = .ok (.getfield 19, 3) := by decide +kernel
theorem dX6_words_28 : decode cX6_words 28 = .ok (.getfield 121, 3) := by decide +kernel
theorem dX6_words_31 : decode cX6_words 31 = .ok (.iload_n 1, 1) := by decide +kernel
theorem dX6_words_32 : decode cX6_words 32 = .ok (.iaload, 1) := by decide +kernel
theorem dX6_words_33 : decode cX6_words 33 = .ok (.ifCond .eq 15, 3) := by decide +kernel
theorem dX6_words_36 : decode cX6_words 36 = .ok (.aload_n 0, 1) := by decide +kernel
theorem dX6_words_37 : decode cX6_words 37 = .ok (.getfield 19, 3) := by decide +kernel
theorem dX6_words_40 : decode cX6_words 40 = .ok (.getfield 121, 3) := by decide +kernel
theorem dX6_words_43 : decode cX6_words 43 = .ok (.iload_n 2, 1) := by decide +kernel
theorem dX6_words_44 : decode cX6_words 44 = .ok (.iaload, 1) := by decide +kernel
theorem dX6_words_45 : decode cX6_words 45 = .ok (.ifCond .ne 5, 3) := by decide +kernel
theorem dX6_words_48 : decode cX6_words 48 = .ok (.iconst (-1), 1) := by decide +kernel
theorem dX6_words_49 : decode cX6_words 49 = .ok (.ireturn, 1) := by decide +kernel
theorem dX6_words_50 : decode cX6_words 50 = .ok (.aload_n 0, 1) := by decide +kernel
theorem dX6_words_51 : decode cX6_words 51 = .ok (.iload_n 1, 1) := by decide +kernel
theorem dX6_words_52 : decode cX6_words 52 = .ok (.aload_n 0, 1) := by decide +kernel
theorem dX6_words_53 : decode cX6_words 53 = .ok (.iload_n 2, 1) := by decide +kernel
theorem dX6_words_54 : decode cX6_words 54 = .ok (.invokevirtual 127, 3) := by decide +kernel
theorem dX6_words_57 : decode cX6_words 57 = .ok (.invokevirtual 230, 3) := by decide +kernel
theorem dX6_words_60 : decode cX6_words 60 = .ok (.aload_n 0, 1) := by decide +kernel
theorem dX6_words_61 : decode cX6_words 61 = .ok (.iload_n 2, 1) := by decide +kernel
theorem dX6_words_62 : decode cX6_words 62 = .ok (.aload_n 0, 1) := by decide +kernel
theorem dX6_words_63 : decode cX6_words 63 = .ok (.iload_n 1, 1) := by decide +kernel
theorem dX6_words_64 : decode cX6_words 64 = .ok (.invokevirtual 127, 3) := by decide +kernel
theorem dX6_words_67 : decode cX6_words 67 = .ok (.invokevirtual 230, 3) := by decide +kernel
theorem dX6_words_70 : decode cX6_words 70 = .ok (.iadd, 1) := by decide +kernel
theorem dX6_words_71 : decode cX6_words 71 = .ok (.ireturn, 1) := by decide +kernel
theorem dX6_hire_0 : decode cX6_hire 0 = .ok (.aload_n 0, 1) := by decide +kernel
theorem dX6_hire_1 : decode cX6_hire 1 = .ok (.iload_n 1, 1) := by decide +kernel
theorem dX6_hire_2 : decode cX6_hire 2 = .ok (.invokevirtual 113, 3) := by decide +kernel
theorem dX6_hire_5 : decode cX6_hire 5 = .ok (.ifCond .ne 6, 3) := by decide +kernel
theorem dX6_hire_8 : decode cX6_hire 8 = .ok (.ldc 117, 2) := by decide +kernel
theorem dX6_hire_10 : decode cX6_hire 10 = .ok (.ireturn, 1) := by decide +kernel
theorem dX6_hire_11 : decode cX6_hire 11 = .ok (.iload_n 2, 1) := by decide +kernel
theorem dX6_hire_12 : decode cX6_hire 12 = .ok (.ifCond .lt 8, 3) := by decide +kernel
theorem dX6_hire_15 : decode cX6_hire 15 = .ok (.iload_n 2, 1) := by decide +kernel
theorem dX6_hire_16 : decode cX6_hire 16 = .ok (.iconst 1, 1) := by decide +kernel
theorem dX6_hire_17 : decode cX6_hire 17 = .ok (.if_icmp .le 6, 3) := by decide +kernel
theorem dX6_hire_20 : decode cX6_hire 20 = .ok (.ldc 64, 2) := by decide +kernel
theorem dX6_hire_22 : decode cX6_hire 22 = .ok (.ireturn, 1) := by decide +kernel
theorem dX6_hire_23 : decode cX6_hire 23 = .ok (.iconst 0, 1) := by decide +kernel
theorem dX6_hire_24 : decode cX6_hire 24 = .ok (.istore_n 3, 1) := by decide +kernel
theorem dX6_hire_25 : decode cX6_hire 25 = .ok (.iconst 0, 1) := by decide +kernel
theorem dX6_hire_26 : decode cX6_hire 26 = .ok (.istore 4, 2) := by decide +kernel
theorem dX6_hire_28 : decode cX6_hire 28 = .ok (.iload 4, 2) := by decide +kernel
theorem dX6_hire_30 : decode cX6_hire 30 = .ok (.iload_n 1, 1) := by decide +kernel
theorem dX6_hire_31 : decode cX6_hire 31 = .ok (.if_icmp .ge 31, 3) := by decide +kernel
theorem dX6_hire_34 : decode cX6_hire 34 = .ok (.aload_n 0, 1) := by decide +kernel
theorem dX6_hire_35 : decode cX6_hire 35 = .ok (.iload 4, 2) := by decide +kernel
theorem dX6_hire_37 : decode cX6_hire 37 = .ok (.iload_n 3, 1) := by decide +kernel
theorem dX6_hire_38 : decode cX6_hire 38 = .ok (.invokevirtual 233, 3) := by decide +kernel
theorem dX6_hire_41 : decode cX6_hire 41 = .ok (.istore 5, 2) := by decide +kernel
theorem dX6_hire_43 : decode cX6_hire 43 = .ok (.iload 5, 2) := by decide +kernel
theorem dX6_hire_45 : decode cX6_hire 45 = .ok (.iconst (-1), 1) := by decide +kernel
theorem dX6_hire_46 : decode cX6_hire 46 = .ok (.if_icmp .eq 10, 3) := by decide +kernel
theorem dX6_hire_49 : decode cX6_hire 49 = .ok (.iload_n 3, 1) := by decide +kernel
theorem dX6_hire_50 : decode cX6_hire 50 = .ok (.iconst 1, 1) := by decide +kernel
theorem dX6_hire_51 : decode cX6_hire 51 = .ok (.iload 5, 2) := by decide +kernel
theorem dX6_hire_53 : decode cX6_hire 53 = .ok (.ishl, 1) := by decide +kernel
theorem dX6_hire_54 : decode cX6_hire 54 = .ok (.ior, 1) := by decide +kernel
theorem dX6_hire_55 : decode cX6_hire 55 = .ok (.istore_n 3, 1) := by decide +kernel
theorem dX6_hire_56 : decode cX6_hire 56 = .ok (.iinc 4 1, 3) := by decide +kernel
theorem dX6_hire_59 : decode cX6_hire 59 = .ok (.goto (-31), 3) := by decide +kernel
theorem dX6_hire_62 : decode cX6_hire 62 = .ok (.aload_n 0, 1) := by decide +kernel
theorem dX6_hire_63 : decode cX6_hire 63 = .ok (.iload_n 1, 1) := by decide +kernel
theorem dX6_hire_64 : decode cX6_hire 64 = .ok (.iload_n 3, 1) := by decide +kernel
theorem dX6_hire_65 : decode cX6_hire 65 = .ok (.invokevirtual 233, 3) := by decide +kernel
theorem dX6_hire_68 : decode cX6_hire 68 = .ok (.istore 4, 2) := by decide +kernel
theorem dX6_hire_70 : decode cX6_hire 70 = .ok (.iload 4, 2) := by decide +kernel
theorem dX6_hire_72 : decode cX6_hire 72 = .ok (.iconst (-1), 1) := by decide +kernel
theorem dX6_hire_73 : decode cX6_hire 73 = .ok (.if_icmp .eq 7, 3) := by decide +kernel
theorem dX6_hire_76 : decode cX6_hire 76 = .ok (.iload_n 2, 1) := by decide +kernel
theorem dX6_hire_77 : decode cX6_hire 77 = .ok (.ifCond .ne 6, 3) := by decide +kernel
theorem dX6_hire_80 : decode cX6_hire 80 = .ok (.iload 4, 2) := by decide +kernel
theorem dX6_hire_82 : decode cX6_hire 82 = .ok (.ireturn, 1) := by decide +kernel
theorem dX6_hire_83 : decode cX6_hire 83 = .ok (.aload_n 0, 1) := by decide +kernel
theorem dX6_hire_84 : decode cX6_hire 84 = .ok (.iload_n 1, 1) := by decide +kernel
theorem dX6_hire_85 : decode cX6_hire 85 = .ok (.iload_n 3, 1) := by decide +kernel
theorem dX6_hire_86 : decode cX6_hire 86 = .ok (.iconst 1, 1) := by decide +kernel
theorem dX6_hire_87 : decode cX6_hire 87 = .ok (.iload 4, 2) := by decide +kernel
theorem dX6_hire_89 : decode cX6_hire 89 = .ok (.ishl, 1) := by decide +kernel
theorem dX6_hire_90 : decode cX6_hire 90 = .ok (.ior, 1) := by decide +kernel
theorem dX6_hire_91 : decode cX6_hire 91 = .ok (.invokevirtual 233, 3) := by decide +kernel
theorem dX6_hire_94 : decode cX6_hire 94 = .ok (.istore 5, 2) := by decide +kernel
theorem dX6_hire_96 : decode cX6_hire 96 = .ok (.iload 5, 2) := by decide +kernel
theorem dX6_hire_98 : decode cX6_hire 98 = .ok (.iconst (-1), 1) := by decide +kernel
theorem dX6_hire_99 : decode cX6_hire 99 = .ok (.if_icmp .ne 7, 3) := by decide +kernel
theorem dX6_hire_102 : decode cX6_hire 102 = .ok (.iconst 0, 1) := by decide +kernel
theorem dX6_hire_103 : decode cX6_hire 103 = .ok (.goto 17, 3) := by decide +kernel
theorem dX6_hire_106 : decode cX6_hire 106 = .ok (.aload_n 0, 1) := by decide +kernel
theorem dX6_hire_107 : decode cX6_hire 107 = .ok (.getfield 29, 3) := by decide +kernel
theorem dX6_hire_110 : decode cX6_hire 110 = .ok (.getfield 142, 3) := by decide +kernel
theorem dX6_hire_113 : decode cX6_hire 113 = .ok (.iload 5, 2) := by decide +kernel
theorem dX6_hire_115 : decode cX6_hire 115 = .ok (.iload_n 1, 1) := by decide +kernel
theorem dX6_hire_116 : decode cX6_hire 116 = .ok (.invokestatic 145, 3) := by decide +kernel
theorem dX6_hire_119 : decode cX6_hire 119 = .ok (.iaload, 1) := by decide +kernel
theorem dX6_hire_120 : decode cX6_hire 120 = .ok (.ireturn, 1) := by decide +kernel
theorem dX6_saw_0 : decode cX6_saw 0 = .ok (.aload_n 0, 1) := by decide +kernel
theorem dX6_saw_1 : decode cX6_saw 1 = .ok (.iload_n 1, 1) := by decide +kernel
theorem dX6_saw_2 : decode cX6_saw 2 = .ok (.invokevirtual 139, 3) := by decide +kernel
theorem dX6_saw_5 : decode cX6_saw 5 = .ok (.ifCond .eq 11, 3) := by decide +kernel
theorem dX6_saw_8 : decode cX6_saw 8 = .ok (.aload_n 0, 1) := by decide +kernel
theorem dX6_saw_9 : decode cX6_saw 9 = .ok (.iload_n 2, 1) := by decide +kernel
theorem dX6_saw_10 : decode cX6_saw 10 = .ok (.invokevirtual 113, 3) := by decide +kernel
theorem dX6_saw_13 : decode cX6_saw 13 = .ok (.ifCond .ne 6, 3) := by decide +kernel
theorem dX6_saw_16 : decode cX6_saw 16 = .ok (.ldc 117, 2) := by decide +kernel
theorem dX6_saw_18 : decode cX6_saw 18 = .ok (.ireturn, 1) := by decide +kernel
theorem dX6_saw_19 : decode cX6_saw 19 = .ok (.iload_n 3, 1) := by decide +kernel
theorem dX6_saw_20 : decode cX6_saw 20 = .ok (.ifCond .lt 8, 3) := by decide +kernel
theorem dX6_saw_23 : decode cX6_saw 23 = .ok (.iload_n 3, 1) := by decide +kernel
theorem dX6_saw_24 : decode cX6_saw 24 = .ok (.iconst 1, 1) := by decide +kernel
theorem dX6_saw_25 : decode cX6_saw 25 = .ok (.if_icmp .le 6, 3) := by decide +kernel
theorem dX6_saw_28 : decode cX6_saw 28 = .ok (.ldc 64, 2) := by decide +kernel
theorem dX6_saw_30 : decode cX6_saw 30 = .ok (.ireturn, 1) := by decide +kernel
theorem dX6_saw_31 : decode cX6_saw 31 = .ok (.aload_n 0, 1) := by decide +kernel
theorem dX6_saw_32 : decode cX6_saw 32 = .ok (.getfield 29, 3) := by decide +kernel
theorem dX6_saw_35 : decode cX6_saw 35 = .ok (.getfield 142, 3) := by decide +kernel
theorem dX6_saw_38 : decode cX6_saw 38 = .ok (.iload_n 1, 1) := by decide +kernel
theorem dX6_saw_39 : decode cX6_saw 39 = .ok (.iload_n 2, 1) := by decide +kernel
theorem dX6_saw_40 : decode cX6_saw 40 = .ok (.invokestatic 145, 3) := by decide +kernel
theorem dX6_saw_43 : decode cX6_saw 43 = .ok (.iaload, 1) := by decide +kernel
theorem dX6_saw_44 : decode cX6_saw 44 = .ok (.istore 4, 2) := by decide +kernel
theorem dX6_saw_46 : decode cX6_saw 46 = .ok (.iconst 0, 1) := by decide +kernel
theorem dX6_saw_47 : decode cX6_saw 47 = .ok (.istore 5, 2) := by decide +kernel
theorem dX6_saw_49 : decode cX6_saw 49 = .ok (.aload_n 0, 1) := by decide +kernel
theorem dX6_saw_50 : decode cX6_saw 50 = .ok (.getfield 29, 3) := by decide +kernel
theorem dX6_saw_53 : decode cX6_saw 53 = .ok (.getfield 130, 3) := by decide +kernel
theorem dX6_saw_56 : decode cX6_saw 56 = .ok (.iload_n 2, 1) := by decide +kernel
theorem dX6_saw_57 : decode cX6_saw 57 = .ok (.iaload, 1) := by decide +kernel
theorem dX6_saw_58 : decode cX6_saw 58 = .ok (.istore 6, 2) := by decide +kernel
theorem dX6_saw_60 : decode cX6_saw 60 = .ok (.iconst 0, 1) := by decide +kernel
theorem dX6_saw_61 : decode cX6_saw 61 = .ok (.istore 7, 2) := by decide +kernel
theorem dX6_saw_63 : decode cX6_saw 63 = .ok (.iload 7, 2) := by decide +kernel
theorem dX6_saw_65 : decode cX6_saw 65 = .ok (.bipush 64, 2) := by decide +kernel
theorem dX6_saw_67 : decode cX6_saw 67 = .ok (.if_icmp .ge 64, 3) := by decide +kernel
theorem dX6_saw_70 : decode cX6_saw 70 = .ok (.iload 7, 2) := by decide +kernel
theorem dX6_saw_72 : decode cX6_saw 72 = .ok (.aload_n 0, 1) := by decide +kernel
theorem dX6_saw_73 : decode cX6_saw 73 = .ok (.getfield 29, 3) := by decide +kernel
theorem dX6_saw_76 : decode cX6_saw 76 = .ok (.getfield 130, 3) := by decide +kernel
theorem dX6_saw_79 : decode cX6_saw 79 = .ok (.iload_n 2, 1) := by decide +kernel
theorem dX6_saw_80 : decode cX6_saw 80 = .ok (.iaload, 1) := by decide +kernel
theorem dX6_saw_81 : decode cX6_saw 81 = .ok (.iconst (-1), 1) := by decide +kernel
theorem dX6_saw_82 : decode cX6_saw 82 = .ok (.ixor, 1) := by decide +kernel
theorem dX6_saw_83 : decode cX6_saw 83 = .ok (.iand, 1) := by decide +kernel
theorem dX6_saw_84 : decode cX6_saw 84 = .ok (.ifCond .eq 7, 3) := by decide +kernel
theorem dX6_saw_87 : decode cX6_saw 87 = .ok (.iconst 0, 1) := by decide +kernel
theorem dX6_saw_88 : decode cX6_saw 88 = .ok (.goto 16, 3) := by decide +kernel
theorem dX6_saw_91 : decode cX6_saw 91 = .ok (.aload_n 0, 1) := by decide +kernel
theorem dX6_saw_92 : decode cX6_saw 92 = .ok (.iload 7, 2) := by decide +kernel
theorem dX6_saw_94 : decode cX6_saw 94 = .ok (.aload_n 0, 1) := by decide +kernel
theorem dX6_saw_95 : decode cX6_saw 95 = .ok (.iload_n 2, 1) := by decide +kernel
theorem dX6_saw_96 : decode cX6_saw 96 = .ok (.invokevirtual 127, 3) := by decide +kernel
theorem dX6_saw_99 : decode cX6_saw 99 = .ok (.iload 4, 2) := by decide +kernel
theorem dX6_saw_101 : decode cX6_saw 101 = .ok (.invokevirtual 236, 3) := by decide +kernel
theorem dX6_saw_104 : decode cX6_saw 104 = .ok (.istore 8, 2) := by decide +kernel
theorem dX6_saw_106 : decode cX6_saw 106 = .ok (.iload 5, 2) := by decide +kernel
theorem dX6_saw_108 : decode cX6_saw 108 = .ok (.iload 8, 2) := by decide +kernel
theorem dX6_saw_110 : decode cX6_saw 110 = .ok (.iadd, 1) := by decide +kernel
theorem dX6_saw_111 : decode cX6_saw 111 = .ok (.istore 5, 2) := by decide +kernel
theorem dX6_saw_113 : decode cX6_saw 113 = .ok (.iload 8, 2) := by decide +kernel
theorem dX6_saw_115 : decode cX6_saw 115 = .ok (.ifCond .le 10, 3) := by decide +kernel
theorem dX6_saw_118 : decode cX6_saw 118 = .ok (.iload 6, 2) := by decide +kernel
theorem dX6_saw_120 : decode cX6_saw 120 = .ok (.iload 7, 2) := by decide +kernel
theorem dX6_saw_122 : decode cX6_saw 122 = .ok (.iand, 1) := by decide +kernel
theorem dX6_saw_123 : decode cX6_saw 123 = .ok (.istore 6, 2) := by decide +kernel
theorem dX6_saw_125 : decode cX6_saw 125 = .ok (.iinc 7 1, 3) := by decide +kernel
theorem dX6_saw_128 : decode cX6_saw 128 = .ok (.goto (-65), 3) := by decide +kernel
theorem dX6_saw_131 : decode cX6_saw 131 = .ok (.iload_n 3, 1) := by decide +kernel
theorem dX6_saw_132 : decode cX6_saw 132 = .ok (.ifCond .ne 6, 3) := by decide +kernel
theorem dX6_saw_135 : decode cX6_saw 135 = .ok (.iload 5, 2) := by decide +kernel
theorem dX6_saw_137 : decode cX6_saw 137 = .ok (.ireturn, 1) := by decide +kernel
theorem dX6_saw_138 : decode cX6_saw 138 = .ok (.iload 5, 2) := by decide +kernel
theorem dX6_saw_140 : decode cX6_saw 140 = .ok (.ifCond .ne 7, 3) := by decide +kernel
theorem dX6_saw_143 : decode cX6_saw 143 = .ok (.iconst 0, 1) := by decide +kernel
theorem dX6_saw_144 : decode cX6_saw 144 = .ok (.goto 5, 3) := by decide +kernel
theorem dX6_saw_147 : decode cX6_saw 147 = .ok (.iload 6, 2) := by decide +kernel
theorem dX6_saw_149 : decode cX6_saw 149 = .ok (.ireturn, 1) := by decide +kernel
theorem dX6_hides_0 : decode cX6_hides 0 = .ok (.iload_n 1, 1) := by decide +kernel
theorem dX6_hides_1 : decode cX6_hides 1 = .ok (.iconst 1, 1) := by decide +kernel
theorem dX6_hides_2 : decode cX6_hides 2 = .ok (.if_icmp .lt 19, 3) := by decide +kernel
theorem dX6_hides_5 : decode cX6_hides 5 = .ok (.iload_n 1, 1) := by decide +kernel
theorem dX6_hides_6 : decode cX6_hides 6 = .ok (.bipush 9, 2) := by decide +kernel
theorem dX6_hides_8 : decode cX6_hides 8 = .ok (.if_icmp .gt 13, 3) := by decide +kernel
theorem dX6_hides_11 : decode cX6_hides 11 = .ok (.iload_n 2, 1) := by decide +kernel
theorem dX6_hides_12 : decode cX6_hides 12 = .ok (.ifCond .lt 9, 3) := by decide +kernel
theorem dX6_hides_15 : decode cX6_hides 15 = .ok (.iload_n 2, 1) := by decide +kernel
theorem dX6_hides_16 : decode cX6_hides 16 = .ok (.bipush 100, 2) := by decide +kernel
theorem dX6_hides_18 : decode cX6_hides 18 = .ok (.if_icmp .le 6, 3) := by decide +kernel
theorem dX6_hides_21 : decode cX6_hides 21 = .ok (.ldc 64, 2) := by decide +kernel
theorem dX6_hides_23 : decode cX6_hides 23 = .ok (.ireturn, 1) := by decide +kernel
theorem dX6_hides_24 : decode cX6_hides 24 = .ok (.ldc2_w 240, 3) := by decide +kernel
theorem dX6_hides_27 : decode cX6_hides 27 = .ok (.lstore_n 3, 1) := by decide +kernel
theorem dX6_hides_28 : decode cX6_hides 28 = .ok (.iconst 0, 1) := by decide +kernel
theorem dX6_hides_29 : decode cX6_hides 29 = .ok (.istore 5, 2) := by decide +kernel
theorem dX6_hides_31 : decode cX6_hides 31 = .ok (.iload 5, 2) := by decide +kernel
theorem dX6_hides_33 : decode cX6_hides 33 = .ok (.iload_n 1, 1) := by decide +kernel
theorem dX6_hides_34 : decode cX6_hides 34 = .ok (.if_icmp .ge 21, 3) := by decide +kernel
theorem dX6_hides_37 : decode cX6_hides 37 = .ok (.lload_n 3, 1) := by decide +kernel
theorem dX6_hides_38 : decode cX6_hides 38 = .ok (.bipush 100, 2) := by decide +kernel
theorem dX6_hides_40 : decode cX6_hides 40 = .ok (.iload_n 2, 1) := by decide +kernel
theorem dX6_hides_41 : decode cX6_hides 41 = .ok (.isub, 1) := by decide +kernel
theorem dX6_hides_42 : decode cX6_hides 42 = .ok (.i2l, 1) := by decide +kernel
theorem dX6_hides_43 : decode cX6_hides 43 = .ok (.lmul, 1) := by decide +kernel
theorem dX6_hides_44 : decode cX6_hides 44 = .ok (.ldc2_w 242, 3) := by decide +kernel
theorem dX6_hides_47 : decode cX6_hides 47 = .ok (.ldiv, 1) := by decide +kernel
theorem dX6_hides_48 : decode cX6_hides 48 = .ok (.lstore_n 3, 1) := by decide +kernel
theorem dX6_hides_49 : decode cX6_hides 49 = .ok (.iinc 5 1, 3) := by decide +kernel
theorem dX6_hides_52 : decode cX6_hides 52 = .ok (.goto (-21), 3) := by decide +kernel
theorem dX6_hides_55 : decode cX6_hides 55 = .ok (.lload_n 3, 1) := by decide +kernel
theorem dX6_hides_56 : decode cX6_hides 56 = .ok (.l2i, 1) := by decide +kernel
theorem dX6_hides_57 : decode cX6_hides 57 = .ok (.ireturn, 1) := by decide +kernel
theorem dX6_note_0 : decode cX6_note 0 = .ok (.aload_n 0, 1) := by decide +kernel
theorem dX6_note_1 : decode cX6_note 1 = .ok (.iload_n 1, 1) := by decide +kernel
theorem dX6_note_2 : decode cX6_note 2 = .ok (.invokevirtual 139, 3) := by decide +kernel
theorem dX6_note_5 : decode cX6_note 5 = .ok (.ifCond .eq 11, 3) := by decide +kernel
theorem dX6_note_8 : decode cX6_note 8 = .ok (.aload_n 0, 1) := by decide +kernel
theorem dX6_note_9 : decode cX6_note 9 = .ok (.iload_n 2, 1) := by decide +kernel
theorem dX6_note_10 : decode cX6_note 10 = .ok (.invokevirtual 113, 3) := by decide +kernel
theorem dX6_note_13 : decode cX6_note 13 = .ok (.ifCond .ne 6, 3) := by decide +kernel
theorem dX6_note_16 : decode cX6_note 16 = .ok (.ldc 117, 2) := by decide +kernel
theorem dX6_note_18 : decode cX6_note 18 = .ok (.ireturn, 1) := by decide +kernel
theorem dX6_note_19 : decode cX6_note 19 = .ok (.iload_n 3, 1) := by decide +kernel
theorem dX6_note_20 : decode cX6_note 20 = .ok (.ifCond .lt 9, 3) := by decide +kernel
theorem dX6_note_23 : decode cX6_note 23 = .ok (.iload_n 3, 1) := by decide +kernel
theorem dX6_note_24 : decode cX6_note 24 = .ok (.bipush 99, 2) := by decide +kernel
theorem dX6_note_26 : decode cX6_note 26 = .ok (.if_icmp .le 6, 3) := by decide +kernel
theorem dX6_note_29 : decode cX6_note 29 = .ok (.ldc 64, 2) := by decide +kernel
theorem dX6_note_31 : decode cX6_note 31 = .ok (.ireturn, 1) := by decide +kernel
theorem dX6_note_32 : decode cX6_note 32 = .ok (.aload_n 0, 1) := by decide +kernel
theorem dX6_note_33 : decode cX6_note 33 = .ok (.getfield 42, 3) := by decide +kernel
theorem dX6_note_36 : decode cX6_note 36 = .ok (.iload_n 1, 1) := by decide +kernel
theorem dX6_note_37 : decode cX6_note 37 = .ok (.iload_n 2, 1) := by decide +kernel
theorem dX6_note_38 : decode cX6_note 38 = .ok (.invokestatic 145, 3) := by decide +kernel
theorem dX6_note_41 : decode cX6_note 41 = .ok (.iload_n 3, 1) := by decide +kernel
theorem dX6_note_42 : decode cX6_note 42 = .ok (.invokevirtual 244, 3) := by decide +kernel
theorem dX6_note_45 : decode cX6_note 45 = .ok (.ireturn, 1) := by decide +kernel
theorem dX6_tear_0 : decode cX6_tear 0 = .ok (.aload_n 0, 1) := by decide +kernel
theorem dX6_tear_1 : decode cX6_tear 1 = .ok (.getfield 42, 3) := by decide +kernel
theorem dX6_tear_4 : decode cX6_tear 4 = .ok (.getfield 81, 3) := by decide +kernel
theorem dX6_tear_7 : decode cX6_tear 7 = .ok (.istore_n 1, 1) := by decide +kernel
theorem dX6_tear_8 : decode cX6_tear 8 = .ok (.aload_n 0, 1) := by decide +kernel
theorem dX6_tear_9 : decode cX6_tear 9 = .ok (.getfield 42, 3) := by decide +kernel
theorem dX6_tear_12 : decode cX6_tear 12 = .ok (.iconst 0, 1) := by decide +kernel
theorem dX6_tear_13 : decode cX6_tear 13 = .ok (.putfield 81, 3) := by decide +kernel
theorem dX6_tear_16 : decode cX6_tear 16 = .ok (.iload_n 1, 1) := by decide +kernel
theorem dX6_tear_17 : decode cX6_tear 17 = .ok (.ireturn, 1) := by decide +kernel
theorem dX6_judge_0 : decode cX6_judge 0 = .ok (.aload_n 0, 1) := by decide +kernel
theorem dX6_judge_1 : decode cX6_judge 1 = .ok (.getfield 42, 3) := by decide +kernel
theorem dX6_judge_4 : decode cX6_judge 4 = .ok (.aload_n 0, 1) := by decide +kernel
theorem dX6_judge_5 : decode cX6_judge 5 = .ok (.getfield 29, 3) := by decide +kernel
theorem dX6_judge_8 : decode cX6_judge 8 = .ok (.invokevirtual 247, 3) := by decide +kernel
theorem dX6_judge_11 : decode cX6_judge 11 = .ok (.ireturn, 1) := by decide +kernel
theorem dX6_seed_0 : decode cX6_seed 0 = .ok (.iload_n 1, 1) := by decide +kernel
theorem dX6_seed_1 : decode cX6_seed 1 = .ok (.ifCond .ge 6, 3) := by decide +kernel
theorem dX6_seed_4 : decode cX6_seed 4 = .ok (.ldc 64, 2) := by decide +kernel
theorem dX6_seed_6 : decode cX6_seed 6 = .ok (.ireturn, 1) := by decide +kernel
theorem dX6_seed_7 : decode cX6_seed 7 = .ok (.aload_n 0, 1) := by decide +kernel
theorem dX6_seed_8 : decode cX6_seed 8 = .ok (.getfield 29, 3) := by decide +kernel
theorem dX6_seed_11 : decode cX6_seed 11 = .ok (.getfield 251, 3) := by decide +kernel
theorem dX6_seed_14 : decode cX6_seed 14 = .ok (.istore_n 2, 1) := by decide +kernel
theorem dX6_seed_15 : decode cX6_seed 15 = .ok (.aload_n 0, 1) := by decide +kernel
theorem dX6_seed_16 : decode cX6_seed 16 = .ok (.getfield 29, 3) := by decide +kernel
theorem dX6_seed_19 : decode cX6_seed 19 = .ok (.iload_n 1, 1) := by decide +kernel
theorem dX6_seed_20 : decode cX6_seed 20 = .ok (.putfield 251, 3) := by decide +kernel
theorem dX6_seed_23 : decode cX6_seed 23 = .ok (.iload_n 2, 1) := by decide +kernel
theorem dX6_seed_24 : decode cX6_seed 24 = .ok (.ireturn, 1) := by decide +kernel
theorem dX6_keep_0 : decode cX6_keep 0 = .ok (.iload_n 1, 1) := by decide +kernel
theorem dX6_keep_1 : decode cX6_keep 1 = .ok (.ifCond .lt 8, 3) := by decide +kernel
theorem dX6_keep_4 : decode cX6_keep 4 = .ok (.iload_n 1, 1) := by decide +kernel
theorem dX6_keep_5 : decode cX6_keep 5 = .ok (.iconst 1, 1) := by decide +kernel
theorem dX6_keep_6 : decode cX6_keep 6 = .ok (.if_icmp .le 6, 3) := by decide +kernel
theorem dX6_keep_9 : decode cX6_keep 9 = .ok (.ldc 117, 2) := by decide +kernel
theorem dX6_keep_11 : decode cX6_keep 11 = .ok (.ireturn, 1) := by decide +kernel
theorem dX6_keep_12 : decode cX6_keep 12 = .ok (.iload_n 1, 1) := by decide +kernel
theorem dX6_keep_13 : decode cX6_keep 13 = .ok (.ifCond .ne 10, 3) := by decide +kernel
theorem dX6_keep_16 : decode cX6_keep 16 = .ok (.aload_n 0, 1) := by decide +kernel
theorem dX6_keep_17 : decode cX6_keep 17 = .ok (.getfield 33, 3) := by decide +kernel
theorem dX6_keep_20 : decode cX6_keep 20 = .ok (.goto 7, 3) := by decide +kernel
theorem dX6_keep_23 : decode cX6_keep 23 = .ok (.aload_n 0, 1) := by decide +kernel
theorem dX6_keep_24 : decode cX6_keep 24 = .ok (.getfield 36, 3) := by decide +kernel
theorem dX6_keep_27 : decode cX6_keep 27 = .ok (.astore_n 2, 1) := by decide +kernel
theorem dX6_keep_28 : decode cX6_keep 28 = .ok (.aload_n 2, 1) := by decide +kernel
theorem dX6_keep_29 : decode cX6_keep 29 = .ok (.aload_n 0, 1) := by decide +kernel
theorem dX6_keep_30 : decode cX6_keep 30 = .ok (.getfield 29, 3) := by decide +kernel
theorem dX6_keep_33 : decode cX6_keep 33 = .ok (.invokevirtual 254, 3) := by decide +kernel
theorem dX6_keep_36 : decode cX6_keep 36 = .ok (.aload_n 2, 1) := by decide +kernel
theorem dX6_keep_37 : decode cX6_keep 37 = .ok (.iconst 1, 1) := by decide +kernel
theorem dX6_keep_38 : decode cX6_keep 38 = .ok (.putfield 77, 3) := by decide +kernel
theorem dX6_keep_41 : decode cX6_keep 41 = .ok (.iconst 1, 1) := by decide +kernel
theorem dX6_keep_42 : decode cX6_keep 42 = .ok (.ireturn, 1) := by decide +kernel
theorem dX6_goBack_0 : decode cX6_goBack 0 = .ok (.iload_n 1, 1) := by decide +kernel
theorem dX6_goBack_1 : decode cX6_goBack 1 = .ok (.ifCond .lt 8, 3) := by decide +kernel
theorem dX6_goBack_4 : decode cX6_goBack 4 = .ok (.iload_n 1, 1) := by decide +kernel
theorem dX6_goBack_5 : decode cX6_goBack 5 = .ok (.iconst 1, 1) := by decide +kernel
theorem dX6_goBack_6 : decode cX6_goBack 6 = .ok (.if_icmp .le 6, 3) := by decide +kernel
theorem dX6_goBack_9 : decode cX6_goBack 9 = .ok (.ldc 117, 2) := by decide +kernel
theorem dX6_goBack_11 : decode cX6_goBack 11 = .ok (.ireturn, 1) := by decide +kernel
theorem dX6_goBack_12 : decode cX6_goBack 12 = .ok (.iload_n 1, 1) := by decide +kernel
theorem dX6_goBack_13 : decode cX6_goBack 13 = .ok (.ifCond .ne 10, 3) := by decide +kernel
theorem dX6_goBack_16 : decode cX6_goBack 16 = .ok (.aload_n 0, 1) := by decide +kernel
theorem dX6_goBack_17 : decode cX6_goBack 17 = .ok (.getfield 33, 3) := by decide +kernel
theorem dX6_goBack_20 : decode cX6_goBack 20 = .ok (.goto 7, 3) := by decide +kernel
theorem dX6_goBack_23 : decode cX6_goBack 23 = .ok (.aload_n 0, 1) := by decide +kernel
theorem dX6_goBack_24 : decode cX6_goBack 24 = .ok (.getfield 36, 3) := by decide +kernel
theorem dX6_goBack_27 : decode cX6_goBack 27 = .ok (.astore_n 2, 1) := by decide +kernel
theorem dX6_goBack_28 : decode cX6_goBack 28 = .ok (.aload_n 2, 1) := by decide +kernel
theorem dX6_goBack_29 : decode cX6_goBack 29 = .ok (.getfield 77, 3) := by decide +kernel
theorem dX6_goBack_32 : decode cX6_goBack 32 = .ok (.ifCond .ne 6, 3) := by decide +kernel
theorem dX6_goBack_35 : decode cX6_goBack 35 = .ok (.ldc 192, 2) := by decide +kernel
theorem dX6_goBack_37 : decode cX6_goBack 37 = .ok (.ireturn, 1) := by decide +kernel
theorem dX6_goBack_38 : decode cX6_goBack 38 = .ok (.aload_n 0, 1) := by decide +kernel
theorem dX6_goBack_39 : decode cX6_goBack 39 = .ok (.getfield 29, 3) := by decide +kernel
theorem dX6_goBack_42 : decode cX6_goBack 42 = .ok (.aload_n 2, 1) := by decide +kernel
theorem dX6_goBack_43 : decode cX6_goBack 43 = .ok (.invokevirtual 254, 3) := by decide +kernel
theorem dX6_goBack_46 : decode cX6_goBack 46 = .ok (.iconst 1, 1) := by decide +kernel
theorem dX6_goBack_47 : decode cX6_goBack 47 = .ok (.ireturn, 1) := by decide +kernel
theorem dX6_has_0 : decode cX6_has 0 = .ok (.iload_n 0, 1) := by decide +kernel
theorem dX6_has_1 : decode cX6_has 1 = .ok (.iload_n 1, 1) := by decide +kernel
theorem dX6_has_2 : decode cX6_has 2 = .ok (.ishr, 1) := by decide +kernel
theorem dX6_has_3 : decode cX6_has 3 = .ok (.iconst 1, 1) := by decide +kernel
theorem dX6_has_4 : decode cX6_has 4 = .ok (.iand, 1) := by decide +kernel
theorem dX6_has_5 : decode cX6_has 5 = .ok (.iconst 1, 1) := by decide +kernel
theorem dX6_has_6 : decode cX6_has 6 = .ok (.if_icmp .ne 7, 3) := by decide +kernel
theorem dX6_has_9 : decode cX6_has 9 = .ok (.iconst 1, 1) := by decide +kernel
theorem dX6_has_10 : decode cX6_has 10 = .ok (.goto 4, 3) := by decide +kernel
theorem dX6_has_13 : decode cX6_has 13 = .ok (.iconst 0, 1) := by decide +kernel
theorem dX6_has_14 : decode cX6_has 14 = .ok (.ireturn, 1) := by decide +kernel
theorem dX6_slot_0 : decode cX6_slot 0 = .ok (.iload_n 0, 1) := by decide +kernel
theorem dX6_slot_1 : decode cX6_slot 1 = .ok (.iconst 5, 1) := by decide +kernel
theorem dX6_slot_2 : decode cX6_slot 2 = .ok (.imul, 1) := by decide +kernel
theorem dX6_slot_3 : decode cX6_slot 3 = .ok (.iload_n 1, 1) := by decide +kernel
theorem dX6_slot_4 : decode cX6_slot 4 = .ok (.iadd, 1) := by decide +kernel
theorem dX6_slot_5 : decode cX6_slot 5 = .ok (.ireturn, 1) := by decide +kernel
theorem dX6_isPerson_0 : decode cX6_isPerson 0 = .ok (.iload_n 1, 1) := by decide +kernel
theorem dX6_isPerson_1 : decode cX6_isPerson 1 = .ok (.ifCond .lt 18, 3) := by decide +kernel
theorem dX6_isPerson_4 : decode cX6_isPerson 4 = .ok (.iload_n 1, 1) := by decide +kernel
theorem dX6_isPerson_5 : decode cX6_isPerson 5 = .ok (.aload_n 0, 1) := by decide +kernel
theorem dX6_isPerson_6 : decode cX6_isPerson 6 = .ok (.getfield 19, 3) := by decide +kernel
theorem dX6_isPerson_9 : decode cX6_isPerson 9 = .ok (.getfield 85, 3) := by decide +kernel
theorem dX6_isPerson_12 : decode cX6_isPerson 12 = .ok (.if_icmp .ge 7, 3) := by decide +kernel
theorem dX6_isPerson_15 : decode cX6_isPerson 15 = .ok (.iconst 1, 1) := by decide +kernel
theorem dX6_isPerson_16 : decode cX6_isPerson 16 = .ok (.goto 4, 3) := by decide +kernel
theorem dX6_isPerson_19 : decode cX6_isPerson 19 = .ok (.iconst 0, 1) := by decide +kernel
theorem dX6_isPerson_20 : decode cX6_isPerson 20 = .ok (.ireturn, 1) := by decide +kernel
theorem dX6_isFighter_0 : decode cX6_isFighter 0 = .ok (.iload_n 1, 1) := by decide +kernel
theorem dX6_isFighter_1 : decode cX6_isFighter 1 = .ok (.ifCond .lt 18, 3) := by decide +kernel
theorem dX6_isFighter_4 : decode cX6_isFighter 4 = .ok (.iload_n 1, 1) := by decide +kernel
theorem dX6_isFighter_5 : decode cX6_isFighter 5 = .ok (.aload_n 0, 1) := by decide +kernel
theorem dX6_isFighter_6 : decode cX6_isFighter 6 = .ok (.getfield 19, 3) := by decide +kernel
theorem dX6_isFighter_9 : decode cX6_isFighter 9 = .ok (.getfield 91, 3) := by decide +kernel
theorem dX6_isFighter_12 : decode cX6_isFighter 12 = .ok (.if_icmp .ge 7, 3) := by decide +kernel
theorem dX6_isFighter_15 : decode cX6_isFighter 15 = .ok (.iconst 1, 1) := by decide +kernel
theorem dX6_isFighter_16 : decode cX6_isFighter 16 = .ok (.goto 4, 3) := by decide +kernel
theorem dX6_isFighter_19 : decode cX6_isFighter 19 = .ok (.iconst 0, 1) := by decide +kernel
theorem dX6_isFighter_20 : decode cX6_isFighter 20 = .ok (.ireturn, 1) := by decide +kernel
theorem dX6_isTask_0 : decode cX6_isTask 0 = .ok (.iload_n 1, 1) := by decide +kernel
theorem dX6_isTask_1 : decode cX6_isTask 1 = .ok (.ifCond .lt 18, 3) := by decide +kernel
theorem dX6_isTask_4 : decode cX6_isTask 4 = .ok (.iload_n 1, 1) := by decide +kernel
theorem dX6_isTask_5 : decode cX6_isTask 5 = .ok (.aload_n 0, 1) := by decide +kernel
theorem dX6_isTask_6 : decode cX6_isTask 6 = .ok (.getfield 19, 3) := by decide +kernel
theorem dX6_isTask_9 : decode cX6_isTask 9 = .ok (.getfield 97, 3) := by decide +kernel
theorem dX6_isTask_12 : decode cX6_isTask 12 = .ok (.if_icmp .ge 7, 3) := by decide +kernel
theorem dX6_isTask_15 : decode cX6_isTask 15 = .ok (.iconst 1, 1) := by decide +kernel
theorem dX6_isTask_16 : decode cX6_isTask 16 = .ok (.goto 4, 3) := by decide +kernel
theorem dX6_isTask_19 : decode cX6_isTask 19 = .ok (.iconst 0, 1) := by decide +kernel
theorem dX6_isTask_20 : decode cX6_isTask 20 = .ok (.ireturn, 1) := by decide +kernel
theorem dX6_readsNow_0 : decode cX6_readsNow 0 = .ok (.aload_n 0, 1) := by decide +kernel
theorem dX6_readsNow_1 : decode cX6_readsNow 1 = .ok (.getfield 19, 3) := by decide +kernel
theorem dX6_readsNow_4 : decode cX6_readsNow 4 = .ok (.iload_n 1, 1) := by decide +kernel
theorem dX6_readsNow_5 : decode cX6_readsNow 5 = .ok (.aload_n 0, 1) := by decide +kernel
theorem dX6_readsNow_6 : decode cX6_readsNow 6 = .ok (.getfield 29, 3) := by decide +kernel
theorem dX6_readsNow_9 : decode cX6_readsNow 9 = .ok (.getfield 124, 3) := by decide +kernel
theorem dX6_readsNow_12 : decode cX6_readsNow 12 = .ok (.iload_n 1, 1) := by decide +kernel
theorem dX6_readsNow_13 : decode cX6_readsNow 13 = .ok (.iaload, 1) := by decide +kernel
theorem dX6_readsNow_14 : decode cX6_readsNow 14 = .ok (.invokevirtual 258, 3) := by decide +kernel
theorem dX6_readsNow_17 : decode cX6_readsNow 17 = .ok (.ireturn, 1) := by decide +kernel
theorem dX6_allThoughts_0 : decode cX6_allThoughts 0 = .ok (.iconst 0, 1) := by decide +kernel
theorem dX6_allThoughts_1 : decode cX6_allThoughts 1 = .ok (.istore_n 1, 1) := by decide +kernel
theorem dX6_allThoughts_2 : decode cX6_allThoughts 2 = .ok (.iconst 0, 1) := by decide +kernel
theorem dX6_allThoughts_3 : decode cX6_allThoughts 3 = .ok (.istore_n 2, 1) := by decide +kernel
theorem dX6_allThoughts_4 : decode cX6_allThoughts 4 = .ok (.iload_n 2, 1) := by decide +kernel
theorem dX6_allThoughts_5 : decode cX6_allThoughts 5 = .ok (.aload_n 0, 1) := by decide +kernel
theorem dX6_allThoughts_6 : decode cX6_allThoughts 6 = .ok (.getfield 19, 3) := by decide +kernel
theorem dX6_allThoughts_9 : decode cX6_allThoughts 9 = .ok (.getfield 85, 3) := by decide +kernel
theorem dX6_allThoughts_12 : decode cX6_allThoughts 12 = .ok (.if_icmp .ge 44, 3) := by decide +kernel
theorem dX6_allThoughts_15 : decode cX6_allThoughts 15 = .ok (.iconst 0, 1) := by decide +kernel
theorem dX6_allThoughts_16 : decode cX6_allThoughts 16 = .ok (.istore_n 3, 1) := by decide +kernel
theorem dX6_allThoughts_17 : decode cX6_allThoughts 17 = .ok (.iload_n 3, 1) := by decide +kernel
theorem dX6_allThoughts_18 : decode cX6_allThoughts 18 = .ok (.aload_n 0, 1) := by decide +kernel
theorem dX6_allThoughts_19 : decode cX6_allThoughts 19 = .ok (.getfield 19, 3) := by decide +kernel
theorem dX6_allThoughts_22 : decode cX6_allThoughts 22 = .ok (.getfield 91, 3) := by decide +kernel
theorem dX6_allThoughts_25 : decode cX6_allThoughts 25 = .ok (.if_icmp .ge 25, 3) := by decide +kernel
theorem dX6_allThoughts_28 : decode cX6_allThoughts 28 = .ok (.iload_n 1, 1) := by decide +kernel
theorem dX6_allThoughts_29 : decode cX6_allThoughts 29 = .ok (.aload_n 0, 1) := by decide +kernel
theorem dX6_allThoughts_30 : decode cX6_allThoughts 30 = .ok (.getfield 29, 3) := by decide +kernel
theorem dX6_allThoughts_33 : decode cX6_allThoughts 33 = .ok (.getfield 142, 3) := by decide +kernel
theorem dX6_allThoughts_36 : decode cX6_allThoughts 36 = .ok (.iload_n 2, 1) := by decide +kernel
theorem dX6_allThoughts_37 : decode cX6_allThoughts 37 = .ok (.iload_n 3, 1) := by decide +kernel
theorem dX6_allThoughts_38 : decode cX6_allThoughts 38 = .ok (.invokestatic 145, 3) := by decide +kernel
theorem dX6_allThoughts_41 : decode cX6_allThoughts 41 = .ok (.iaload, 1) := by decide +kernel
theorem dX6_allThoughts_42 : decode cX6_allThoughts 42 = .ok (.iadd, 1) := by decide +kernel
theorem dX6_allThoughts_43 : decode cX6_allThoughts 43 = .ok (.istore_n 1, 1) := by decide +kernel
theorem dX6_allThoughts_44 : decode cX6_allThoughts 44 = .ok (.iinc 3 1, 3) := by decide +kernel
theorem dX6_allThoughts_47 : decode cX6_allThoughts 47 = .ok (.goto (-30), 3) := by decide +kernel
theorem dX6_allThoughts_50 : decode cX6_allThoughts 50 = .ok (.iinc 2 1, 3) := by decide +kernel
theorem dX6_allThoughts_53 : decode cX6_allThoughts 53 = .ok (.goto (-49), 3) := by decide +kernel
theorem dX6_allThoughts_56 : decode cX6_allThoughts 56 = .ok (.iload_n 1, 1) := by decide +kernel
theorem dX6_allThoughts_57 : decode cX6_allThoughts 57 = .ok (.ireturn, 1) := by decide +kernel
theorem dX6_readBelt_0 : decode cX6_readBelt 0 = .ok (.iload_n 1, 1) := by decide +kernel
theorem dX6_readBelt_1 : decode cX6_readBelt 1 = .ok (.iload_n 2, 1) := by decide +kernel
theorem dX6_readBelt_2 : decode cX6_readBelt 2 = .ok (.invokestatic 145, 3) := by decide +kernel
theorem dX6_readBelt_5 : decode cX6_readBelt 5 = .ok (.istore_n 3, 1) := by decide +kernel
theorem dX6_readBelt_6 : decode cX6_readBelt 6 = .ok (.aload_n 0, 1) := by decide +kernel
theorem dX6_readBelt_7 : decode cX6_readBelt 7 = .ok (.getfield 29, 3) := by decide +kernel
theorem dX6_readBelt_10 : decode cX6_readBelt 10 = .ok (.getfield 142, 3) := by decide +kernel
theorem dX6_readBelt_13 : decode cX6_readBelt 13 = .ok (.iload_n 3, 1) := by decide +kernel
theorem dX6_readBelt_14 : decode cX6_readBelt 14 = .ok (.aload_n 0, 1) := by decide +kernel
theorem dX6_readBelt_15 : decode cX6_readBelt 15 = .ok (.getfield 29, 3) := by decide +kernel
theorem dX6_readBelt_18 : decode cX6_readBelt 18 = .ok (.getfield 142, 3) := by decide +kernel
theorem dX6_readBelt_21 : decode cX6_readBelt 21 = .ok (.iload_n 3, 1) := by decide +kernel
theorem dX6_readBelt_22 : decode cX6_readBelt 22 = .ok (.iaload, 1) := by decide +kernel
theorem dX6_readBelt_23 : decode cX6_readBelt 23 = .ok (.aload_n 0, 1) := by decide +kernel
theorem dX6_readBelt_24 : decode cX6_readBelt 24 = .ok (.iload_n 2, 1) := by decide +kernel
theorem dX6_readBelt_25 : decode cX6_readBelt 25 = .ok (.invokevirtual 127, 3) := by decide +kernel
theorem dX6_readBelt_28 : decode cX6_readBelt 28 = .ok (.invokestatic 261, 3) := by decide +kernel
theorem dX6_readBelt_31 : decode cX6_readBelt 31 = .ok (.iastore, 1) := by decide +kernel
theorem dX6_readBelt_32 : decode cX6_readBelt 32 = .ok (.aload_n 0, 1) := by decide +kernel
theorem dX6_readBelt_33 : decode cX6_readBelt 33 = .ok (.getfield 29, 3) := by decide +kernel
theorem dX6_readBelt_36 : decode cX6_readBelt 36 = .ok (.getfield 142, 3) := by decide +kernel
theorem dX6_readBelt_39 : decode cX6_readBelt 39 = .ok (.iload_n 3, 1) := by decide +kernel
theorem dX6_readBelt_40 : decode cX6_readBelt 40 = .ok (.iaload, 1) := by decide +kernel
theorem dX6_readBelt_41 : decode cX6_readBelt 41 = .ok (.ireturn, 1) := by decide +kernel
theorem dX6_spread_0 : decode cX6_spread 0 = .ok (.iconst 0, 1) := by decide +kernel
theorem dX6_spread_1 : decode cX6_spread 1 = .ok (.istore_n 2, 1) := by decide +kernel
theorem dX6_spread_2 : decode cX6_spread 2 = .ok (.iload_n 2, 1) := by decide +kernel
theorem dX6_spread_3 : decode cX6_spread 3 = .ok (.aload_n 0, 1) := by decide +kernel
theorem dX6_spread_4 : decode cX6_spread 4 = .ok (.getfield 19, 3) := by decide +kernel
theorem dX6_spread_7 : decode cX6_spread 7 = .ok (.getfield 85, 3) := by decide +kernel
theorem dX6_spread_10 : decode cX6_spread 10 = .ok (.if_icmp .ge 21, 3) := by decide +kernel
theorem dX6_spread_13 : decode cX6_spread 13 = .ok (.aload_n 0, 1) := by decide +kernel
theorem dX6_spread_14 : decode cX6_spread 14 = .ok (.getfield 60, 3) := by decide +kernel
theorem dX6_spread_17 : decode cX6_spread 17 = .ok (.iload_n 2, 1) := by decide +kernel
theorem dX6_spread_18 : decode cX6_spread 18 = .ok (.aload_n 0, 1) := by decide +kernel
theorem dX6_spread_19 : decode cX6_spread 19 = .ok (.iload_n 2, 1) := by decide +kernel
theorem dX6_spread_20 : decode cX6_spread 20 = .ok (.iload_n 1, 1) := by decide +kernel
theorem dX6_spread_21 : decode cX6_spread 21 = .ok (.invokevirtual 266, 3) := by decide +kernel
theorem dX6_spread_24 : decode cX6_spread 24 = .ok (.iastore, 1) := by decide +kernel
theorem dX6_spread_25 : decode cX6_spread 25 = .ok (.iinc 2 1, 3) := by decide +kernel
theorem dX6_spread_28 : decode cX6_spread 28 = .ok (.goto (-26), 3) := by decide +kernel
theorem dX6_spread_31 : decode cX6_spread 31 = .ok (.iconst 0, 1) := by decide +kernel
theorem dX6_spread_32 : decode cX6_spread 32 = .ok (.istore_n 2, 1) := by decide +kernel
theorem dX6_spread_33 : decode cX6_spread 33 = .ok (.iconst 0, 1) := by decide +kernel
theorem dX6_spread_34 : decode cX6_spread 34 = .ok (.istore_n 3, 1) := by decide +kernel
theorem dX6_spread_35 : decode cX6_spread 35 = .ok (.iload_n 3, 1) := by decide +kernel
theorem dX6_spread_36 : decode cX6_spread 36 = .ok (.aload_n 0, 1) := by decide +kernel
theorem dX6_spread_37 : decode cX6_spread 37 = .ok (.getfield 19, 3) := by decide +kernel
theorem dX6_spread_40 : decode cX6_spread 40 = .ok (.getfield 85, 3) := by decide +kernel
theorem dX6_spread_43 : decode cX6_spread 43 = .ok (.if_icmp .ge 54, 3) := by decide +kernel
theorem dX6_spread_46 : decode cX6_spread 46 = .ok (.iload_n 3, 1) := by decide +kernel
theorem dX6_spread_47 : decode cX6_spread 47 = .ok (.iload_n 1, 1) := by decide +kernel
theorem dX6_spread_48 : decode cX6_spread 48 = .ok (.invokestatic 145, 3) := by decide +kernel
theorem dX6_spread_51 : decode cX6_spread 51 = .ok (.istore 4, 2) := by decide +kernel
theorem dX6_spread_53 : decode cX6_spread 53 = .ok (.aload_n 0, 1) := by decide +kernel
theorem dX6_spread_54 : decode cX6_spread 54 = .ok (.getfield 60, 3) := by decide +kernel
theorem dX6_spread_57 : decode cX6_spread 57 = .ok (.iload_n 3, 1) := by decide +kernel
theorem dX6_spread_58 : decode cX6_spread 58 = .ok (.iaload, 1) := by decide +kernel
theorem dX6_spread_59 : decode cX6_spread 59 = .ok (.aload_n 0, 1) := by decide +kernel
theorem dX6_spread_60 : decode cX6_spread 60 = .ok (.getfield 29, 3) := by decide +kernel
theorem dX6_spread_63 : decode cX6_spread 63 = .ok (.getfield 142, 3) := by decide +kernel
theorem dX6_spread_66 : decode cX6_spread 66 = .ok (.iload 4, 2) := by decide +kernel
theorem dX6_spread_68 : decode cX6_spread 68 = .ok (.iaload, 1) := by decide +kernel
theorem dX6_spread_69 : decode cX6_spread 69 = .ok (.if_icmp .le 22, 3) := by decide +kernel
theorem dX6_spread_72 : decode cX6_spread 72 = .ok (.aload_n 0, 1) := by decide +kernel
theorem dX6_spread_73 : decode cX6_spread 73 = .ok (.getfield 29, 3) := by decide +kernel
theorem dX6_spread_76 : decode cX6_spread 76 = .ok (.getfield 142, 3) := by decide +kernel
theorem dX6_spread_79 : decode cX6_spread 79 = .ok (.iload 4, 2) := by decide +kernel
theorem dX6_spread_81 : decode cX6_spread 81 = .ok (.aload_n 0, 1) := by decide +kernel
theorem dX6_spread_82 : decode cX6_spread 82 = .ok (.getfield 60, 3) := by decide +kernel
theorem dX6_spread_85 : decode cX6_spread 85 = .ok (.iload_n 3, 1) := by decide +kernel
theorem dX6_spread_86 : decode cX6_spread 86 = .ok (.iaload, 1) := by decide +kernel
theorem dX6_spread_87 : decode cX6_spread 87 = .ok (.iastore, 1) := by decide +kernel
theorem dX6_spread_88 : decode cX6_spread 88 = .ok (.iinc 2 1, 3) := by decide +kernel
theorem dX6_spread_91 : decode cX6_spread 91 = .ok (.iinc 3 1, 3) := by decide +kernel
theorem dX6_spread_94 : decode cX6_spread 94 = .ok (.goto (-59), 3) := by decide +kernel
theorem dX6_spread_97 : decode cX6_spread 97 = .ok (.iload_n 2, 1) := by decide +kernel
theorem dX6_spread_98 : decode cX6_spread 98 = .ok (.ireturn, 1) := by decide +kernel
theorem dX6_mostAround_0 : decode cX6_mostAround 0 = .ok (.aload_n 0, 1) := by decide +kernel
theorem dX6_mostAround_1 : decode cX6_mostAround 1 = .ok (.getfield 29, 3) := by decide +kernel
theorem dX6_mostAround_4 : decode cX6_mostAround 4 = .ok (.getfield 142, 3) := by decide +kernel
theorem dX6_mostAround_7 : decode cX6_mostAround 7 = .ok (.iload_n 1, 1) := by decide +kernel
theorem dX6_mostAround_8 : decode cX6_mostAround 8 = .ok (.iload_n 2, 1) := by decide +kernel
theorem dX6_mostAround_9 : decode cX6_mostAround 9 = .ok (.invokestatic 145, 3) := by decide +kernel
theorem dX6_mostAround_12 : decode cX6_mostAround 12 = .ok (.iaload, 1) := by decide +kernel
theorem dX6_mostAround_13 : decode cX6_mostAround 13 = .ok (.istore_n 3, 1) := by decide +kernel
theorem dX6_mostAround_14 : decode cX6_mostAround 14 = .ok (.iconst 0, 1) := by decide +kernel
theorem dX6_mostAround_15 : decode cX6_mostAround 15 = .ok (.istore 4, 2) := by decide +kernel
theorem dX6_mostAround_17 : decode cX6_mostAround 17 = .ok (.iload 4, 2) := by decide +kernel
theorem dX6_mostAround_19 : decode cX6_mostAround 19 = .ok (.aload_n 0, 1) := by decide +kernel
theorem dX6_mostAround_20 : decode cX6_mostAround 20 = .ok (.getfield 19, 3) := by decide +kernel
theorem dX6_mostAround_23 : decode cX6_mostAround 23 = .ok (.getfield 85, 3) := by decide +kernel
theorem dX6_mostAround_26 : decode cX6_mostAround 26 = .ok (.if_icmp .ge 45, 3) := by decide +kernel
theorem dX6_mostAround_29 : decode cX6_mostAround 29 = .ok (.aload_n 0, 1) := by decide +kernel
theorem dX6_mostAround_30 : decode cX6_mostAround 30 = .ok (.getfield 19, 3) := by decide +kernel
theorem dX6_mostAround_33 : decode cX6_mostAround 33 = .ok (.getfield 149, 3) := by decide +kernel
theorem dX6_mostAround_36 : decode cX6_mostAround 36 = .ok (.iload_n 1, 1) := by decide +kernel
theorem dX6_mostAround_37 : decode cX6_mostAround 37 = .ok (.iaload, 1) := by decide +kernel
theorem dX6_mostAround_38 : decode cX6_mostAround 38 = .ok (.iload 4, 2) := by decide +kernel
theorem dX6_mostAround_40 : decode cX6_mostAround 40 = .ok (.invokestatic 188, 3) := by decide +kernel
theorem dX6_mostAround_43 : decode cX6_mostAround 43 = .ok (.ifCond .eq 22, 3) := by decide +kernel
theorem dX6_mostAround_46 : decode cX6_mostAround 46 = .ok (.iload_n 3, 1) := by decide +kernel
theorem dX6_mostAround_47 : decode cX6_mostAround 47 = .ok (.aload_n 0, 1) := by decide +kernel
theorem dX6_mostAround_48 : decode cX6_mostAround 48 = .ok (.getfield 29, 3) := by decide +kernel
theorem dX6_mostAround_51 : decode cX6_mostAround 51 = .ok (.getfield 142, 3) := by decide +kernel
theorem dX6_mostAround_54 : decode cX6_mostAround 54 = .ok (.iload 4, 2) := by decide +kernel
theorem dX6_mostAround_56 : decode cX6_mostAround 56 = .ok (.iload_n 2, 1) := by decide +kernel
theorem dX6_mostAround_57 : decode cX6_mostAround 57 = .ok (.invokestatic 145, 3) := by decide +kernel
theorem dX6_mostAround_60 : decode cX6_mostAround 60 = .ok (.iaload, 1) := by decide +kernel
theorem dX6_mostAround_61 : decode cX6_mostAround 61 = .ok (.invokestatic 261, 3) := by decide +kernel
theorem dX6_mostAround_64 : decode cX6_mostAround 64 = .ok (.istore_n 3, 1) := by decide +kernel
theorem dX6_mostAround_65 : decode cX6_mostAround 65 = .ok (.iinc 4 1, 3) := by decide +kernel
theorem dX6_mostAround_68 : decode cX6_mostAround 68 = .ok (.goto (-51), 3) := by decide +kernel
theorem dX6_mostAround_71 : decode cX6_mostAround 71 = .ok (.iload_n 3, 1) := by decide +kernel
theorem dX6_mostAround_72 : decode cX6_mostAround 72 = .ok (.ireturn, 1) := by decide +kernel
theorem dX6_lookClosely_0 : decode cX6_lookClosely 0 = .ok (.aload_n 0, 1) := by decide +kernel
theorem dX6_lookClosely_1 : decode cX6_lookClosely 1 = .ok (.getfield 29, 3) := by decide +kernel
theorem dX6_lookClosely_4 : decode cX6_lookClosely 4 = .ok (.getfield 142, 3) := by decide +kernel
theorem dX6_lookClosely_7 : decode cX6_lookClosely 7 = .ok (.iload_n 1, 1) := by decide +kernel
theorem dX6_lookClosely_8 : decode cX6_lookClosely 8 = .ok (.iload_n 2, 1) := by decide +kernel
theorem dX6_lookClosely_9 : decode cX6_lookClosely 9 = .ok (.invokestatic 145, 3) := by decide +kernel
theorem dX6_lookClosely_12 : decode cX6_lookClosely 12 = .ok (.aload_n 0, 1) := by decide +kernel
theorem dX6_lookClosely_13 : decode cX6_lookClosely 13 = .ok (.getfield 19, 3) := by decide +kernel
theorem dX6_lookClosely_16 : decode cX6_lookClosely 16 = .ok (.getfield 121, 3) := by decide +kernel
theorem dX6_lookClosely_19 : decode cX6_lookClosely 19 = .ok (.iload_n 2, 1) := by decide +kernel
theorem dX6_lookClosely_20 : decode cX6_lookClosely 20 = .ok (.iaload, 1) := by decide +kernel
theorem dX6_lookClosely_21 : decode cX6_lookClosely 21 = .ok (.iastore, 1) := by decide +kernel
theorem dX6_lookClosely_22 : decode cX6_lookClosely 22 = .ok (.aload_n 0, 1) := by decide +kernel
theorem dX6_lookClosely_23 : decode cX6_lookClosely 23 = .ok (.getfield 19, 3) := by decide +kernel
theorem dX6_lookClosely_26 : decode cX6_lookClosely 26 = .ok (.getfield 118, 3) := by decide +kernel
theorem dX6_lookClosely_29 : decode cX6_lookClosely 29 = .ok (.iload_n 2, 1) := by decide +kernel
theorem dX6_lookClosely_30 : decode cX6_lookClosely 30 = .ok (.iaload, 1) := by decide +kernel
theorem dX6_lookClosely_31 : decode cX6_lookClosely 31 = .ok (.iconst 3, 1) := by decide +kernel
theorem dX6_lookClosely_32 : decode cX6_lookClosely 32 = .ok (.if_icmp .ne 13, 3) := by decide +kernel
theorem dX6_lookClosely_35 : decode cX6_lookClosely 35 = .ok (.aload_n 0, 1) := by decide +kernel
theorem dX6_lookClosely_36 : decode cX6_lookClosely 36 = .ok (.getfield 29, 3) := by decide +kernel
theorem dX6_lookClosely_39 : decode cX6_lookClosely 39 = .ok (.getfield 124, 3) := by decide +kernel
theorem dX6_lookClosely_42 : decode cX6_lookClosely 42 = .ok (.iload_n 2, 1) := by decide +kernel
theorem dX6_lookClosely_43 : decode cX6_lookClosely 43 = .ok (.iconst 0, 1) := by decide +kernel
theorem dX6_lookClosely_44 : decode cX6_lookClosely 44 = .ok (.iastore, 1) := by decide +kernel
theorem dX6_lookClosely_45 : decode cX6_lookClosely 45 = .ok (.aload_n 0, 1) := by decide +kernel
theorem dX6_lookClosely_46 : decode cX6_lookClosely 46 = .ok (.getfield 19, 3) := by decide +kernel
theorem dX6_lookClosely_49 : decode cX6_lookClosely 49 = .ok (.getfield 121, 3) := by decide +kernel
theorem dX6_lookClosely_52 : decode cX6_lookClosely 52 = .ok (.iload_n 2, 1) := by decide +kernel
theorem dX6_lookClosely_53 : decode cX6_lookClosely 53 = .ok (.iaload, 1) := by decide +kernel
theorem dX6_lookClosely_54 : decode cX6_lookClosely 54 = .ok (.ireturn, 1) := by decide +kernel
theorem dX6_grow_0 : decode cX6_grow 0 = .ok (.iconst 0, 1) := by decide +kernel
theorem dX6_grow_1 : decode cX6_grow 1 = .ok (.istore_n 3, 1) := by decide +kernel
theorem dX6_grow_2 : decode cX6_grow 2 = .ok (.iload_n 3, 1) := by decide +kernel
theorem dX6_grow_3 : decode cX6_grow 3 = .ok (.aload_n 0, 1) := by decide +kernel
theorem dX6_grow_4 : decode cX6_grow 4 = .ok (.getfield 19, 3) := by decide +kernel
theorem dX6_grow_7 : decode cX6_grow 7 = .ok (.getfield 85, 3) := by decide +kernel
theorem dX6_grow_10 : decode cX6_grow 10 = .ok (.if_icmp .ge 43, 3) := by decide +kernel
theorem dX6_grow_13 : decode cX6_grow 13 = .ok (.iload_n 3, 1) := by decide +kernel
theorem dX6_grow_14 : decode cX6_grow 14 = .ok (.iload_n 1, 1) := by decide +kernel
theorem dX6_grow_15 : decode cX6_grow 15 = .ok (.invokestatic 145, 3) := by decide +kernel
theorem dX6_grow_18 : decode cX6_grow 18 = .ok (.istore 4, 2) := by decide +kernel
theorem dX6_grow_20 : decode cX6_grow 20 = .ok (.aload_n 0, 1) := by decide +kernel
theorem dX6_grow_21 : decode cX6_grow 21 = .ok (.getfield 29, 3) := by decide +kernel
theorem dX6_grow_24 : decode cX6_grow 24 = .ok (.getfield 142, 3) := by decide +kernel
theorem dX6_grow_27 : decode cX6_grow 27 = .ok (.iload 4, 2) := by decide +kernel
theorem dX6_grow_29 : decode cX6_grow 29 = .ok (.bipush 99, 2) := by decide +kernel
theorem dX6_grow_31 : decode cX6_grow 31 = .ok (.aload_n 0, 1) := by decide +kernel
theorem dX6_grow_32 : decode cX6_grow 32 = .ok (.getfield 29, 3) := by decide +kernel
theorem dX6_grow_35 : decode cX6_grow 35 = .ok (.getfield 142, 3) := by decide +kernel
theorem dX6_grow_38 : decode cX6_grow 38 = .ok (.iload 4, 2) := by decide +kernel
theorem dX6_grow_40 : decode cX6_grow 40 = .ok (.iaload, 1) := by decide +kernel
theorem dX6_grow_41 : decode cX6_grow 41 = .ok (.iload_n 2, 1) := by decide +kernel
theorem dX6_grow_42 : decode cX6_grow 42 = .ok (.iadd, 1) := by decide +kernel
theorem dX6_grow_43 : decode cX6_grow 43 = .ok (.invokestatic 269, 3) := by decide +kernel
theorem dX6_grow_46 : decode cX6_grow 46 = .ok (.iastore, 1) := by decide +kernel
theorem dX6_grow_47 : decode cX6_grow 47 = .ok (.iinc 3 1, 3) := by decide +kernel
theorem dX6_grow_50 : decode cX6_grow 50 = .ok (.goto (-48), 3) := by decide +kernel
theorem dX6_grow_53 : decode cX6_grow 53 = .ok (.return_, 1) := by decide +kernel
theorem dX6_liveOneDay_0 : decode cX6_liveOneDay 0 = .ok (.aload_n 0, 1) := by decide +kernel
theorem dX6_liveOneDay_1 : decode cX6_liveOneDay 1 = .ok (.getfield 29, 3) := by decide +kernel
theorem dX6_liveOneDay_4 : decode cX6_liveOneDay 4 = .ok (.aload_n 0, 1) := by decide +kernel
theorem dX6_liveOneDay_5 : decode cX6_liveOneDay 5 = .ok (.getfield 19, 3) := by decide +kernel
theorem dX6_liveOneDay_8 : decode cX6_liveOneDay 8 = .ok (.getfield 85, 3) := by decide +kernel
theorem dX6_liveOneDay_11 : decode cX6_liveOneDay 11 = .ok (.invokevirtual 272, 3) := by decide +kernel
theorem dX6_liveOneDay_14 : decode cX6_liveOneDay 14 = .ok (.istore_n 1, 1) := by decide +kernel
theorem dX6_liveOneDay_15 : decode cX6_liveOneDay 15 = .ok (.aload_n 0, 1) := by decide +kernel
theorem dX6_liveOneDay_16 : decode cX6_liveOneDay 16 = .ok (.getfield 29, 3) := by decide +kernel
theorem dX6_liveOneDay_19 : decode cX6_liveOneDay 19 = .ok (.aload_n 0, 1) := by decide +kernel
theorem dX6_liveOneDay_20 : decode cX6_liveOneDay 20 = .ok (.getfield 19, 3) := by decide +kernel
theorem dX6_liveOneDay_23 : decode cX6_liveOneDay 23 = .ok (.getfield 91, 3) := by decide +kernel
theorem dX6_liveOneDay_26 : decode cX6_liveOneDay 26 = .ok (.invokevirtual 272, 3) := by decide +kernel
theorem dX6_liveOneDay_29 : decode cX6_liveOneDay 29 = .ok (.istore_n 2, 1) := by decide +kernel
theorem dX6_liveOneDay_30 : decode cX6_liveOneDay 30 = .ok (.aload_n 0, 1) := by decide +kernel
theorem dX6_liveOneDay_31 : decode cX6_liveOneDay 31 = .ok (.getfield 29, 3) := by decide +kernel
theorem dX6_liveOneDay_34 : decode cX6_liveOneDay 34 = .ok (.iconst 3, 1) := by decide +kernel
theorem dX6_liveOneDay_35 : decode cX6_liveOneDay 35 = .ok (.invokevirtual 272, 3) := by decide +kernel
theorem dX6_liveOneDay_38 : decode cX6_liveOneDay 38 = .ok (.istore_n 3, 1) := by decide +kernel
theorem dX6_liveOneDay_39 : decode cX6_liveOneDay 39 = .ok (.aload_n 0, 1) := by decide +kernel
theorem dX6_liveOneDay_40 : decode cX6_liveOneDay 40 = .ok (.getfield 29, 3) := by decide +kernel
theorem dX6_liveOneDay_43 : decode cX6_liveOneDay 43 = .ok (.dup, 1) := by decide +kernel
theorem dX6_liveOneDay_44 : decode cX6_liveOneDay 44 = .ok (.getfield 106, 3) := by decide +kernel
theorem dX6_liveOneDay_47 : decode cX6_liveOneDay 47 = .ok (.iconst 1, 1) := by decide +kernel
theorem dX6_liveOneDay_48 : decode cX6_liveOneDay 48 = .ok (.iadd, 1) := by decide +kernel
theorem dX6_liveOneDay_49 : decode cX6_liveOneDay 49 = .ok (.putfield 106, 3) := by decide +kernel
theorem dX6_liveOneDay_52 : decode cX6_liveOneDay 52 = .ok (.iload_n 3, 1) := by decide +kernel
theorem dX6_liveOneDay_53 : decode cX6_liveOneDay 53 = .ok (.ifCond .ne 13, 3) := by decide +kernel
theorem dX6_liveOneDay_56 : decode cX6_liveOneDay 56 = .ok (.aload_n 0, 1) := by decide +kernel
theorem dX6_liveOneDay_57 : decode cX6_liveOneDay 57 = .ok (.iload_n 1, 1) := by decide +kernel
theorem dX6_liveOneDay_58 : decode cX6_liveOneDay 58 = .ok (.iload_n 2, 1) := by decide +kernel
theorem dX6_liveOneDay_59 : decode cX6_liveOneDay 59 = .ok (.invokevirtual 179, 3) := by decide +kernel
theorem dX6_liveOneDay_62 : decode cX6_liveOneDay 62 = .ok (.pop, 1) := by decide +kernel
theorem dX6_liveOneDay_63 : decode cX6_liveOneDay 63 = .ok (.goto 24, 3) := by decide +kernel
theorem dX6_liveOneDay_66 : decode cX6_liveOneDay 66 = .ok (.iload_n 3, 1) := by decide +kernel
theorem dX6_liveOneDay_67 : decode cX6_liveOneDay 67 = .ok (.iconst 1, 1) := by decide +kernel
theorem dX6_liveOneDay_68 : decode cX6_liveOneDay 68 = .ok (.if_icmp .ne 12, 3) := by decide +kernel
theorem dX6_liveOneDay_71 : decode cX6_liveOneDay 71 = .ok (.aload_n 0, 1) := by decide +kernel
theorem dX6_liveOneDay_72 : decode cX6_liveOneDay 72 = .ok (.iload_n 2, 1) := by decide +kernel
theorem dX6_liveOneDay_73 : decode cX6_liveOneDay 73 = .ok (.invokevirtual 182, 3) := by decide +kernel
theorem dX6_liveOneDay_76 : decode cX6_liveOneDay 76 = .ok (.pop, 1) := by decide +kernel
theorem dX6_liveOneDay_77 : decode cX6_liveOneDay 77 = .ok (.goto 10, 3) := by decide +kernel
theorem dX6_liveOneDay_80 : decode cX6_liveOneDay 80 = .ok (.aload_n 0, 1) := by decide +kernel
theorem dX6_liveOneDay_81 : decode cX6_liveOneDay 81 = .ok (.iload_n 1, 1) := by decide +kernel
theorem dX6_liveOneDay_82 : decode cX6_liveOneDay 82 = .ok (.iload_n 2, 1) := by decide +kernel
theorem dX6_liveOneDay_83 : decode cX6_liveOneDay 83 = .ok (.invokevirtual 185, 3) := by decide +kernel
theorem dX6_liveOneDay_86 : decode cX6_liveOneDay 86 = .ok (.pop, 1) := by decide +kernel
theorem dX6_liveOneDay_87 : decode cX6_liveOneDay 87 = .ok (.return_, 1) := by decide +kernel
theorem dX6_commonDivisor_0 : decode cX6_commonDivisor 0 = .ok (.iload_n 0, 1) := by decide +kernel
theorem dX6_commonDivisor_1 : decode cX6_commonDivisor 1 = .ok (.istore_n 2, 1) := by decide +kernel
theorem dX6_commonDivisor_2 : decode cX6_commonDivisor 2 = .ok (.iload_n 2, 1) := by decide +kernel
theorem dX6_commonDivisor_3 : decode cX6_commonDivisor 3 = .ok (.iconst 1, 1) := by decide +kernel
theorem dX6_commonDivisor_4 : decode cX6_commonDivisor 4 = .ok (.if_icmp .le 23, 3) := by decide +kernel
theorem dX6_commonDivisor_7 : decode cX6_commonDivisor 7 = .ok (.iload_n 0, 1) := by decide +kernel
theorem dX6_commonDivisor_8 : decode cX6_commonDivisor 8 = .ok (.iload_n 2, 1) := by decide +kernel
theorem dX6_commonDivisor_9 : decode cX6_commonDivisor 9 = .ok (.irem, 1) := by decide +kernel
theorem dX6_commonDivisor_10 : decode cX6_commonDivisor 10 = .ok (.ifCond .ne 11, 3) := by decide +kernel
theorem dX6_commonDivisor_13 : decode cX6_commonDivisor 13 = .ok (.iload_n 1, 1) := by decide +kernel
theorem dX6_commonDivisor_14 : decode cX6_commonDivisor 14 = .ok (.iload_n 2, 1) := by decide +kernel
theorem dX6_commonDivisor_15 : decode cX6_commonDivisor 15 = .ok (.irem, 1) := by decide +kernel
theorem dX6_commonDivisor_16 : decode cX6_commonDivisor 16 = .ok (.ifCond .ne 5, 3) := by decide +kernel
theorem dX6_commonDivisor_19 : decode cX6_commonDivisor 19 = .ok (.iload_n 2, 1) := by decide +kernel
theorem dX6_commonDivisor_20 : decode cX6_commonDivisor 20 = .ok (.ireturn, 1) := by decide +kernel
theorem dX6_commonDivisor_21 : decode cX6_commonDivisor 21 = .ok (.iinc 2 (-1), 3) := by decide +kernel
theorem dX6_commonDivisor_24 : decode cX6_commonDivisor 24 = .ok (.goto (-22), 3) := by decide +kernel
theorem dX6_commonDivisor_27 : decode cX6_commonDivisor 27 = .ok (.iconst 1, 1) := by decide +kernel
theorem dX6_commonDivisor_28 : decode cX6_commonDivisor 28 = .ok (.ireturn, 1) := by decide +kernel
theorem dX6_wordsTo_0 : decode cX6_wordsTo 0 = .ok (.iload_n 2, 1) := by decide +kernel
theorem dX6_wordsTo_1 : decode cX6_wordsTo 1 = .ok (.aload_n 0, 1) := by decide +kernel
theorem dX6_wordsTo_2 : decode cX6_wordsTo 2 = .ok (.getfield 19, 3) := by decide +kernel
theorem dX6_wordsTo_5 : decode cX6_wordsTo 5 = .ok (.getfield 121, 3) := by decide +kernel
theorem dX6_wordsTo_8 : decode cX6_wordsTo 8 = .ok (.iload_n 1, 1) := by decide +kernel
theorem dX6_wordsTo_9 : decode cX6_wordsTo 9 = .ok (.iaload, 1) := by decide +kernel
theorem dX6_wordsTo_10 : decode cX6_wordsTo 10 = .ok (.isub, 1) := by decide +kernel
theorem dX6_wordsTo_11 : decode cX6_wordsTo 11 = .ok (.istore_n 3, 1) := by decide +kernel
theorem dX6_wordsTo_12 : decode cX6_wordsTo 12 = .ok (.iload_n 3, 1) := by decide +kernel
theorem dX6_wordsTo_13 : decode cX6_wordsTo 13 = .ok (.ifCond .ge 7, 3) := by decide +kernel
theorem dX6_wordsTo_16 : decode cX6_wordsTo 16 = .ok (.iconst 0, 1) := by decide +kernel
theorem dX6_wordsTo_17 : decode cX6_wordsTo 17 = .ok (.goto 9, 3) := by decide +kernel
theorem dX6_wordsTo_20 : decode cX6_wordsTo 20 = .ok (.iload_n 3, 1) := by decide +kernel
theorem dX6_wordsTo_21 : decode cX6_wordsTo 21 = .ok (.bipush 10, 2) := by decide +kernel
theorem dX6_wordsTo_23 : decode cX6_wordsTo 23 = .ok (.idiv, 1) := by decide +kernel
theorem dX6_wordsTo_24 : decode cX6_wordsTo 24 = .ok (.iconst 1, 1) := by decide +kernel
theorem dX6_wordsTo_25 : decode cX6_wordsTo 25 = .ok (.iadd, 1) := by decide +kernel
theorem dX6_wordsTo_26 : decode cX6_wordsTo 26 = .ok (.ireturn, 1) := by decide +kernel
theorem dX6_topBidder_0 : decode cX6_topBidder 0 = .ok (.iconst (-1), 1) := by decide +kernel
theorem dX6_topBidder_1 : decode cX6_topBidder 1 = .ok (.istore_n 3, 1) := by decide +kernel
theorem dX6_topBidder_2 : decode cX6_topBidder 2 = .ok (.iconst 0, 1) := by decide +kernel
theorem dX6_topBidder_3 : decode cX6_topBidder 3 = .ok (.istore 4, 2) := by decide +kernel
theorem dX6_topBidder_5 : decode cX6_topBidder 5 = .ok (.iconst 0, 1) := by decide +kernel
theorem dX6_topBidder_6 : decode cX6_topBidder 6 = .ok (.istore 5, 2) := by decide +kernel
theorem dX6_topBidder_8 : decode cX6_topBidder 8 = .ok (.iload 5, 2) := by decide +kernel
theorem dX6_topBidder_10 : decode cX6_topBidder 10 = .ok (.aload_n 0, 1) := by decide +kernel
theorem dX6_topBidder_11 : decode cX6_topBidder 11 = .ok (.getfield 19, 3) := by decide +kernel
theorem dX6_topBidder_14 : decode cX6_topBidder 14 = .ok (.getfield 85, 3) := by decide +kernel
theorem dX6_topBidder_17 : decode cX6_topBidder 17 = .ok (.if_icmp .ge 48, 3) := by decide +kernel
theorem dX6_topBidder_20 : decode cX6_topBidder 20 = .ok (.aload_n 0, 1) := by decide +kernel
theorem dX6_topBidder_21 : decode cX6_topBidder 21 = .ok (.getfield 29, 3) := by decide +kernel
theorem dX6_topBidder_24 : decode cX6_topBidder 24 = .ok (.getfield 142, 3) := by decide +kernel
theorem dX6_topBidder_27 : decode cX6_topBidder 27 = .ok (.iload 5, 2) := by decide +kernel
theorem dX6_topBidder_29 : decode cX6_topBidder 29 = .ok (.iload_n 1, 1) := by decide +kernel
theorem dX6_topBidder_30 : decode cX6_topBidder 30 = .ok (.invokestatic 145, 3) := by decide +kernel
theorem dX6_topBidder_33 : decode cX6_topBidder 33 = .ok (.iaload, 1) := by decide +kernel
theorem dX6_topBidder_34 : decode cX6_topBidder 34 = .ok (.istore 6, 2) := by decide +kernel
theorem dX6_topBidder_36 : decode cX6_topBidder 36 = .ok (.iload_n 2, 1) := by decide +kernel
theorem dX6_topBidder_37 : decode cX6_topBidder 37 = .ok (.iload 5, 2) := by decide +kernel
theorem dX6_topBidder_39 : decode cX6_topBidder 39 = .ok (.invokestatic 188, 3) := by decide +kernel
theorem dX6_topBidder_42 : decode cX6_topBidder 42 = .ok (.ifCond .ne 17, 3) := by decide +kernel
theorem dX6_topBidder_45 : decode cX6_topBidder 45 = .ok (.iload 6, 2) := by decide +kernel
theorem dX6_topBidder_47 : decode cX6_topBidder 47 = .ok (.iload 4, 2) := by decide +kernel
theorem dX6_topBidder_49 : decode cX6_topBidder 49 = .ok (.if_icmp .le 10, 3) := by decide +kernel
theorem dX6_topBidder_52 : decode cX6_topBidder 52 = .ok (.iload 5, 2) := by decide +kernel
theorem dX6_topBidder_54 : decode cX6_topBidder 54 = .ok (.istore_n 3, 1) := by decide +kernel
theorem dX6_topBidder_55 : decode cX6_topBidder 55 = .ok (.iload 6, 2) := by decide +kernel
theorem dX6_topBidder_57 : decode cX6_topBidder 57 = .ok (.istore 4, 2) := by decide +kernel
theorem dX6_topBidder_59 : decode cX6_topBidder 59 = .ok (.iinc 5 1, 3) := by decide +kernel
theorem dX6_topBidder_62 : decode cX6_topBidder 62 = .ok (.goto (-54), 3) := by decide +kernel
theorem dX6_topBidder_65 : decode cX6_topBidder 65 = .ok (.iload_n 3, 1) := by decide +kernel
theorem dX6_topBidder_66 : decode cX6_topBidder 66 = .ok (.ireturn, 1) := by decide +kernel
theorem dX6_waysBy_0 : decode cX6_waysBy 0 = .ok (.aload_n 0, 1) := by decide +kernel
theorem dX6_waysBy_1 : decode cX6_waysBy 1 = .ok (.getfield 19, 3) := by decide +kernel
theorem dX6_waysBy_4 : decode cX6_waysBy 4 = .ok (.iload_n 1, 1) := by decide +kernel
theorem dX6_waysBy_5 : decode cX6_waysBy 5 = .ok (.invokevirtual 275, 3) := by decide +kernel
theorem dX6_waysBy_8 : decode cX6_waysBy 8 = .ok (.istore 4, 2) := by decide +kernel
theorem dX6_waysBy_10 : decode cX6_waysBy 10 = .ok (.bipush 99, 2) := by decide +kernel
theorem dX6_waysBy_12 : decode cX6_waysBy 12 = .ok (.iload 4, 2) := by decide +kernel
theorem dX6_waysBy_14 : decode cX6_waysBy 14 = .ok (.invokestatic 269, 3) := by decide +kernel
theorem dX6_waysBy_17 : decode cX6_waysBy 17 = .ok (.iload_n 3, 1) := by decide +kernel
theorem dX6_waysBy_18 : decode cX6_waysBy 18 = .ok (.if_icmp .ne 7, 3) := by decide +kernel
theorem dX6_waysBy_21 : decode cX6_waysBy 21 = .ok (.iconst 1, 1) := by decide +kernel
theorem dX6_waysBy_22 : decode cX6_waysBy 22 = .ok (.goto 4, 3) := by decide +kernel
theorem dX6_waysBy_25 : decode cX6_waysBy 25 = .ok (.iconst 0, 1) := by decide +kernel
theorem dX6_waysBy_26 : decode cX6_waysBy 26 = .ok (.istore 5, 2) := by decide +kernel
theorem dX6_waysBy_28 : decode cX6_waysBy 28 = .ok (.iload 5, 2) := by decide +kernel
theorem dX6_waysBy_30 : decode cX6_waysBy 30 = .ok (.bipush 99, 2) := by decide +kernel
theorem dX6_waysBy_32 : decode cX6_waysBy 32 = .ok (.iload_n 2, 1) := by decide +kernel
theorem dX6_waysBy_33 : decode cX6_waysBy 33 = .ok (.iload 4, 2) := by decide +kernel
theorem dX6_waysBy_35 : decode cX6_waysBy 35 = .ok (.iadd, 1) := by decide +kernel
theorem dX6_waysBy_36 : decode cX6_waysBy 36 = .ok (.invokestatic 269, 3) := by decide +kernel
theorem dX6_waysBy_39 : decode cX6_waysBy 39 = .ok (.iload_n 3, 1) := by decide +kernel
theorem dX6_waysBy_40 : decode cX6_waysBy 40 = .ok (.if_icmp .ne 7, 3) := by decide +kernel
theorem dX6_waysBy_43 : decode cX6_waysBy 43 = .ok (.iconst 1, 1) := by decide +kernel
theorem dX6_waysBy_44 : decode cX6_waysBy 44 = .ok (.goto 4, 3) := by decide +kernel
theorem dX6_waysBy_47 : decode cX6_waysBy 47 = .ok (.iconst 0, 1) := by decide +kernel
theorem dX6_waysBy_48 : decode cX6_waysBy 48 = .ok (.iadd, 1) := by decide +kernel
theorem dX6_waysBy_49 : decode cX6_waysBy 49 = .ok (.ireturn, 1) := by decide +kernel
